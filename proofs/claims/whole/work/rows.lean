section
-- ===== PART A: goes FIRST, ahead of the names: the tables' words, and 'selects' of the private methods out of them =====
/-- a private method of a class that the tables say can be made, by its rows of tables_1 -/
def lw_okq (q : MethodName × Nat) : Prop := (q.1.cls ≠ "java/lang/invoke/MethodHandle" ∧ q.1.cls ≠ "java/lang/invoke/VarHandle") ∧ Cond.instantiable q.1.cls q.2 ∈ tables_1 ∧ Cond.privateMethod q.1 ∈ tables_1 ∧ Cond.instanceMethod q.1 ∈ tables_1
theorem lw_p0 : lw_okq (⟨"java/util/ArrayList", "add", "(Ljava/lang/Object;[Ljava/lang/Object;I)V"⟩, 3) := ⟨⟨by decide +kernel, by decide +kernel⟩, List.mem_of_getElem? (i := 85) (by decide +kernel), List.mem_of_getElem? (i := 196) (by decide +kernel), List.mem_of_getElem? (i := 197) (by decide +kernel)⟩
theorem lw_p1 : lw_okq (⟨"java/util/ArrayList", "grow", "()[Ljava/lang/Object;"⟩, 3) := ⟨⟨by decide +kernel, by decide +kernel⟩, List.mem_of_getElem? (i := 85) (by decide +kernel), List.mem_of_getElem? (i := 200) (by decide +kernel), List.mem_of_getElem? (i := 201) (by decide +kernel)⟩
theorem lw_p2 : lw_okq (⟨"java/util/ArrayList", "grow", "(I)[Ljava/lang/Object;"⟩, 3) := ⟨⟨by decide +kernel, by decide +kernel⟩, List.mem_of_getElem? (i := 85) (by decide +kernel), List.mem_of_getElem? (i := 204) (by decide +kernel), List.mem_of_getElem? (i := 205) (by decide +kernel)⟩
theorem lw_p3 : lw_okq (⟨"DryingKiln", "runDryingHour", "(I)I"⟩, 8) := ⟨⟨by decide +kernel, by decide +kernel⟩, List.mem_of_getElem? (i := 18) (by decide +kernel), List.mem_of_getElem? (i := 378) (by decide +kernel), List.mem_of_getElem? (i := 379) (by decide +kernel)⟩
theorem lw_p4 : lw_okq (⟨"DryingKiln$Board", "applyFlows", "(III)V"⟩, 3) := ⟨⟨by decide +kernel, by decide +kernel⟩, List.mem_of_getElem? (i := 164) (by decide +kernel), List.mem_of_getElem? (i := 391) (by decide +kernel), List.mem_of_getElem? (i := 392) (by decide +kernel)⟩
theorem lw_p5 : lw_okq (⟨"DryingKiln$Load", "countDryingHour", "(I)V"⟩, 3) := ⟨⟨by decide +kernel, by decide +kernel⟩, List.mem_of_getElem? (i := 79) (by decide +kernel), List.mem_of_getElem? (i := 395) (by decide +kernel), List.mem_of_getElem? (i := 396) (by decide +kernel)⟩
theorem lw_p6 : lw_okq (⟨"DryingKiln", "endHour", "()I"⟩, 8) := ⟨⟨by decide +kernel, by decide +kernel⟩, List.mem_of_getElem? (i := 18) (by decide +kernel), List.mem_of_getElem? (i := 399) (by decide +kernel), List.mem_of_getElem? (i := 400) (by decide +kernel)⟩
theorem lw_p7 : lw_okq (⟨"DryingKiln", "scheduledInlet", "()I"⟩, 8) := ⟨⟨by decide +kernel, by decide +kernel⟩, List.mem_of_getElem? (i := 18) (by decide +kernel), List.mem_of_getElem? (i := 473) (by decide +kernel), List.mem_of_getElem? (i := 474) (by decide +kernel)⟩
theorem lw_p8 : lw_okq (⟨"DryingKiln", "makePlan", "(I)I"⟩, 8) := ⟨⟨by decide +kernel, by decide +kernel⟩, List.mem_of_getElem? (i := 18) (by decide +kernel), List.mem_of_getElem? (i := 486) (by decide +kernel), List.mem_of_getElem? (i := 487) (by decide +kernel)⟩
theorem lw_p9 : lw_okq (⟨"DryingKiln", "chooseInlet", "()I"⟩, 8) := ⟨⟨by decide +kernel, by decide +kernel⟩, List.mem_of_getElem? (i := 18) (by decide +kernel), List.mem_of_getElem? (i := 499) (by decide +kernel), List.mem_of_getElem? (i := 500) (by decide +kernel)⟩
theorem lw_p10 : lw_okq (⟨"DryingKilnModel", "checkLayer", "(II)I"⟩, 24) := ⟨⟨by decide +kernel, by decide +kernel⟩, List.mem_of_getElem? (i := 512) (by decide +kernel), List.mem_of_getElem? (i := 605) (by decide +kernel), List.mem_of_getElem? (i := 606) (by decide +kernel)⟩
theorem lw_p11 : lw_okq (⟨"DryingKilnModel", "isBoard", "(I)Z"⟩, 24) := ⟨⟨by decide +kernel, by decide +kernel⟩, List.mem_of_getElem? (i := 512) (by decide +kernel), List.mem_of_getElem? (i := 609) (by decide +kernel), List.mem_of_getElem? (i := 610) (by decide +kernel)⟩
theorem lw_p12 : lw_okq (⟨"DryingKilnModel", "averageOf", "(I)I"⟩, 24) := ⟨⟨by decide +kernel, by decide +kernel⟩, List.mem_of_getElem? (i := 512) (by decide +kernel), List.mem_of_getElem? (i := 623) (by decide +kernel), List.mem_of_getElem? (i := 624) (by decide +kernel)⟩
theorem lw_p13 : lw_okq (⟨"DryingKilnModel", "sumOf", "(I)I"⟩, 24) := ⟨⟨by decide +kernel, by decide +kernel⟩, List.mem_of_getElem? (i := 512) (by decide +kernel), List.mem_of_getElem? (i := 627) (by decide +kernel), List.mem_of_getElem? (i := 628) (by decide +kernel)⟩
theorem lw_p14 : lw_okq (⟨"DryingKilnModel", "strainOf", "(I)I"⟩, 24) := ⟨⟨by decide +kernel, by decide +kernel⟩, List.mem_of_getElem? (i := 512) (by decide +kernel), List.mem_of_getElem? (i := 635) (by decide +kernel), List.mem_of_getElem? (i := 636) (by decide +kernel)⟩
theorem lw_p15 : lw_okq (⟨"DryingKilnModel", "wettest", "()I"⟩, 24) := ⟨⟨by decide +kernel, by decide +kernel⟩, List.mem_of_getElem? (i := 512) (by decide +kernel), List.mem_of_getElem? (i := 647) (by decide +kernel), List.mem_of_getElem? (i := 648) (by decide +kernel)⟩
def lw_privs_1 : List (MethodName × Nat) := [(⟨"java/util/ArrayList", "add", "(Ljava/lang/Object;[Ljava/lang/Object;I)V"⟩, 3), (⟨"java/util/ArrayList", "grow", "()[Ljava/lang/Object;"⟩, 3), (⟨"java/util/ArrayList", "grow", "(I)[Ljava/lang/Object;"⟩, 3), (⟨"DryingKiln", "runDryingHour", "(I)I"⟩, 8), (⟨"DryingKiln$Board", "applyFlows", "(III)V"⟩, 3), (⟨"DryingKiln$Load", "countDryingHour", "(I)V"⟩, 3), (⟨"DryingKiln", "endHour", "()I"⟩, 8), (⟨"DryingKiln", "scheduledInlet", "()I"⟩, 8), (⟨"DryingKiln", "makePlan", "(I)I"⟩, 8), (⟨"DryingKiln", "chooseInlet", "()I"⟩, 8), (⟨"DryingKilnModel", "checkLayer", "(II)I"⟩, 24), (⟨"DryingKilnModel", "isBoard", "(I)Z"⟩, 24), (⟨"DryingKilnModel", "averageOf", "(I)I"⟩, 24), (⟨"DryingKilnModel", "sumOf", "(I)I"⟩, 24), (⟨"DryingKilnModel", "strainOf", "(I)I"⟩, 24), (⟨"DryingKilnModel", "wettest", "()I"⟩, 24)]
theorem lw_r1 : ∀ q ∈ lw_privs_1, lw_okq q := List.forall_mem_cons.mpr ⟨lw_p0, List.forall_mem_cons.mpr ⟨lw_p1, List.forall_mem_cons.mpr ⟨lw_p2, List.forall_mem_cons.mpr ⟨lw_p3, List.forall_mem_cons.mpr ⟨lw_p4, List.forall_mem_cons.mpr ⟨lw_p5, List.forall_mem_cons.mpr ⟨lw_p6, List.forall_mem_cons.mpr ⟨lw_p7, List.forall_mem_cons.mpr ⟨lw_p8, List.forall_mem_cons.mpr ⟨lw_p9, List.forall_mem_cons.mpr ⟨lw_p10, List.forall_mem_cons.mpr ⟨lw_p11, List.forall_mem_cons.mpr ⟨lw_p12, List.forall_mem_cons.mpr ⟨lw_p13, List.forall_mem_cons.mpr ⟨lw_p14, List.forall_mem_cons.mpr ⟨lw_p15, fun _ h => absurd h List.not_mem_nil⟩⟩⟩⟩⟩⟩⟩⟩⟩⟩⟩⟩⟩⟩⟩⟩
theorem lw_p16 : lw_okq (⟨"DryingKilnModel", "meanOf", "(I)I"⟩, 24) := ⟨⟨by decide +kernel, by decide +kernel⟩, List.mem_of_getElem? (i := 512) (by decide +kernel), List.mem_of_getElem? (i := 659) (by decide +kernel), List.mem_of_getElem? (i := 660) (by decide +kernel)⟩
theorem lw_p17 : lw_okq (⟨"DryingKilnModel", "dryHour", "(I)I"⟩, 24) := ⟨⟨by decide +kernel, by decide +kernel⟩, List.mem_of_getElem? (i := 512) (by decide +kernel), List.mem_of_getElem? (i := 699) (by decide +kernel), List.mem_of_getElem? (i := 700) (by decide +kernel)⟩
theorem lw_p18 : lw_okq (⟨"DryingKilnModel", "blow", "(I)I"⟩, 24) := ⟨⟨by decide +kernel, by decide +kernel⟩, List.mem_of_getElem? (i := 512) (by decide +kernel), List.mem_of_getElem? (i := 703) (by decide +kernel), List.mem_of_getElem? (i := 704) (by decide +kernel)⟩
theorem lw_p19 : lw_okq (⟨"DryingKilnModel", "move", "(IZI)I"⟩, 24) := ⟨⟨by decide +kernel, by decide +kernel⟩, List.mem_of_getElem? (i := 512) (by decide +kernel), List.mem_of_getElem? (i := 707) (by decide +kernel), List.mem_of_getElem? (i := 708) (by decide +kernel)⟩
theorem lw_p20 : lw_okq (⟨"DryingKilnModel", "endHour", "()I"⟩, 24) := ⟨⟨by decide +kernel, by decide +kernel⟩, List.mem_of_getElem? (i := 512) (by decide +kernel), List.mem_of_getElem? (i := 711) (by decide +kernel), List.mem_of_getElem? (i := 712) (by decide +kernel)⟩
theorem lw_p21 : lw_okq (⟨"DryingKilnModel", "endDrying", "()V"⟩, 24) := ⟨⟨by decide +kernel, by decide +kernel⟩, List.mem_of_getElem? (i := 512) (by decide +kernel), List.mem_of_getElem? (i := 715) (by decide +kernel), List.mem_of_getElem? (i := 716) (by decide +kernel)⟩
theorem lw_p22 : lw_okq (⟨"DryingKilnModel", "restAll", "()V"⟩, 24) := ⟨⟨by decide +kernel, by decide +kernel⟩, List.mem_of_getElem? (i := 512) (by decide +kernel), List.mem_of_getElem? (i := 723) (by decide +kernel), List.mem_of_getElem? (i := 724) (by decide +kernel)⟩
theorem lw_p23 : lw_okq (⟨"DryingKilnModel", "stageNow", "()I"⟩, 24) := ⟨⟨by decide +kernel, by decide +kernel⟩, List.mem_of_getElem? (i := 512) (by decide +kernel), List.mem_of_getElem? (i := 751) (by decide +kernel), List.mem_of_getElem? (i := 752) (by decide +kernel)⟩
theorem lw_p24 : lw_okq (⟨"DryingKilnModel", "isWet", "(I)Z"⟩, 24) := ⟨⟨by decide +kernel, by decide +kernel⟩, List.mem_of_getElem? (i := 512) (by decide +kernel), List.mem_of_getElem? (i := 759) (by decide +kernel), List.mem_of_getElem? (i := 760) (by decide +kernel)⟩
theorem lw_p25 : lw_okq (⟨"DryingKilnModel", "findPlan", "(I)Z"⟩, 24) := ⟨⟨by decide +kernel, by decide +kernel⟩, List.mem_of_getElem? (i := 512) (by decide +kernel), List.mem_of_getElem? (i := 767) (by decide +kernel), List.mem_of_getElem? (i := 768) (by decide +kernel)⟩
theorem lw_p26 : lw_okq (⟨"DryingKilnModel", "planHour", "()I"⟩, 24) := ⟨⟨by decide +kernel, by decide +kernel⟩, List.mem_of_getElem? (i := 512) (by decide +kernel), List.mem_of_getElem? (i := 774) (by decide +kernel), List.mem_of_getElem? (i := 775) (by decide +kernel)⟩
theorem lw_p27 : lw_okq (⟨"DryingKilnModel", "isStrained", "()Z"⟩, 24) := ⟨⟨by decide +kernel, by decide +kernel⟩, List.mem_of_getElem? (i := 512) (by decide +kernel), List.mem_of_getElem? (i := 778) (by decide +kernel), List.mem_of_getElem? (i := 779) (by decide +kernel)⟩
def lw_privs_2 : List (MethodName × Nat) := [(⟨"DryingKilnModel", "meanOf", "(I)I"⟩, 24), (⟨"DryingKilnModel", "dryHour", "(I)I"⟩, 24), (⟨"DryingKilnModel", "blow", "(I)I"⟩, 24), (⟨"DryingKilnModel", "move", "(IZI)I"⟩, 24), (⟨"DryingKilnModel", "endHour", "()I"⟩, 24), (⟨"DryingKilnModel", "endDrying", "()V"⟩, 24), (⟨"DryingKilnModel", "restAll", "()V"⟩, 24), (⟨"DryingKilnModel", "stageNow", "()I"⟩, 24), (⟨"DryingKilnModel", "isWet", "(I)Z"⟩, 24), (⟨"DryingKilnModel", "findPlan", "(I)Z"⟩, 24), (⟨"DryingKilnModel", "planHour", "()I"⟩, 24), (⟨"DryingKilnModel", "isStrained", "()Z"⟩, 24)]
theorem lw_r2 : ∀ q ∈ lw_privs_2, lw_okq q := List.forall_mem_cons.mpr ⟨lw_p16, List.forall_mem_cons.mpr ⟨lw_p17, List.forall_mem_cons.mpr ⟨lw_p18, List.forall_mem_cons.mpr ⟨lw_p19, List.forall_mem_cons.mpr ⟨lw_p20, List.forall_mem_cons.mpr ⟨lw_p21, List.forall_mem_cons.mpr ⟨lw_p22, List.forall_mem_cons.mpr ⟨lw_p23, List.forall_mem_cons.mpr ⟨lw_p24, List.forall_mem_cons.mpr ⟨lw_p25, List.forall_mem_cons.mpr ⟨lw_p26, List.forall_mem_cons.mpr ⟨lw_p27, fun _ h => absurd h List.not_mem_nil⟩⟩⟩⟩⟩⟩⟩⟩⟩⟩⟩⟩
def lw_privs : List (MethodName × Nat) := lw_privs_1 ++ (lw_privs_2)
def lw_tbl : List Cond := k2_sels lw_privs ++ tables_1
theorem lw_privs_ok : ∀ q ∈ lw_privs, lw_okq q := by
  show ∀ q ∈ lw_privs_1 ++ (lw_privs_2), lw_okq q
  exact List.forall_mem_append.mpr ⟨lw_r1, lw_r2⟩
end
section
/-! ===== BEGIN words of one list among another's, by their places ===== -/
theorem goodIn_r {big : List Cond} (ws : List Cond) (ps : List Nat) (hp : ws = ps.filterMap (fun i => big[i]?)) (h : ws.all goodWord = true) : GoodIn big ws := by
  intro w hw
  have h1 := List.all_eq_true.mp h w hw
  rw [hp] at hw
  obtain ⟨i, -, hi⟩ := List.mem_filterMap.mp hw
  have hm : w ∈ big := by first | exact List.mem_of_getElem? hi | exact List.getElem?_mem hi
  exact ⟨hm, good_of_word h1⟩
theorem goodIn_app {big a b : List Cond} (ha : GoodIn big a) (hb : GoodIn big b) : GoodIn big (a ++ b) := fun w h => (List.mem_append.mp h).elim (ha w) (hb w)
theorem goodIn_ca {big a b : List Cond} {c : Cond} (ha : GoodIn big (c :: a)) (hb : GoodIn big b) : GoodIn big (c :: (a ++ b)) := fun w h => (List.mem_cons.mp h).elim (fun e => ha w (List.mem_cons.mpr (Or.inl e))) (fun h => (List.mem_append.mp h).elim (fun h => ha w (List.mem_cons.mpr (Or.inr h))) (hb w))
theorem goodIn_sub {big ws : List Cond} (hm : ∀ w ∈ ws, w ∈ big) (h : ws.all goodWord = true) : GoodIn big ws := fun w hw => ⟨hm w hw, good_of_word (List.all_eq_true.mp h w hw)⟩
/-! ===== END ===== -/

/-! ===== BEGIN printed: names, fields, word lists, decode rows ===== -/
def RX0 : String := "DryingKiln$Board"
def TX0 : u_T := fun k => match k with
  | 0 => ("DryingKiln$Board", "moisture", "[I", true)
  | 1 => ("DryingKiln$Board", "checkedAt", "I", false)
  | _ => ("DryingKiln$Board", "air", "I", false)
def tyX0 : Nat → FieldType := fun k => match k with
  | 0 => .array .int
  | 1 => .int
  | _ => .int
abbrev wsX00 : List Cond := u_ws RX0 TX0 3
theorem nmX0 : ∀ a, a < 3 → ∀ b, b < 3 → a ≠ b → (TX0 a).2.1 ≠ (TX0 b).2.1 := by decide +kernel
theorem tyX0_ok : ∀ k, k < 3 → parseFieldDescriptor (TX0 k).2.2.1 = some (tyX0 k) := by decide +kernel
abbrev cX0_init : ByteArray := prog_2_method_1_code
def yX0_init : MethodName := ⟨RX0, "<init>", "(II)V"⟩
abbrev cX0_water : ByteArray := prog_2_method_2_code
def yX0_water : MethodName := ⟨RX0, "water", "()I"⟩
abbrev cX0_average : ByteArray := prog_2_method_3_code
def yX0_average : MethodName := ⟨RX0, "average", "()I"⟩
abbrev cX0_gradient : ByteArray := prog_2_method_4_code
def yX0_gradient : MethodName := ⟨RX0, "gradient", "()I"⟩
abbrev cX0_passDryingHour : ByteArray := prog_2_method_5_code
def yX0_passDryingHour : MethodName := ⟨RX0, "passDryingHour", "(ILDryingKiln$Settings;)I"⟩
abbrev cX0_passRestHour : ByteArray := prog_2_method_6_code
def yX0_passRestHour : MethodName := ⟨RX0, "passRestHour", "(I)V"⟩
abbrev cX0_applyFlows : ByteArray := prog_2_method_7_code
def yX0_applyFlows : MethodName := ⟨RX0, "applyFlows", "(III)V"⟩
abbrev cX0_copyMoistureFrom : ByteArray := prog_2_method_8_code
def yX0_copyMoistureFrom : MethodName := ⟨RX0, "copyMoistureFrom", "(LDryingKiln$Board;)V"⟩
def RX1 : String := "DryingKiln$Load"
def TX1 : u_T := fun k => match k with
  | 0 => ("DryingKiln$Load", "reversed", "Z", false)
  | 1 => ("DryingKiln$Load", "dryingHours", "I", false)
  | _ => ("DryingKiln$Load", "boards", "Ljava/util/ArrayList;", true)
def tyX1 : Nat → FieldType := fun k => match k with
  | 0 => .boolean
  | 1 => .int
  | _ => .object "java/util/ArrayList"
abbrev wsX10 : List Cond := u_ws RX1 TX1 3
theorem nmX1 : ∀ a, a < 3 → ∀ b, b < 3 → a ≠ b → (TX1 a).2.1 ≠ (TX1 b).2.1 := by decide +kernel
theorem tyX1_ok : ∀ k, k < 3 → parseFieldDescriptor (TX1 k).2.2.1 = some (tyX1 k) := by decide +kernel
abbrev cX1_init : ByteArray := prog_3_method_1_code
def yX1_init : MethodName := ⟨RX1, "<init>", "()V"⟩
abbrev cX1_size : ByteArray := prog_3_method_2_code
def yX1_size : MethodName := ⟨RX1, "size", "()I"⟩
abbrev cX1_has : ByteArray := prog_3_method_3_code
def yX1_has : MethodName := ⟨RX1, "has", "(I)Z"⟩
abbrev cX1_boardAt : ByteArray := prog_3_method_4_code
def yX1_boardAt : MethodName := ⟨RX1, "boardAt", "(I)LDryingKiln$Board;"⟩
abbrev cX1_put : ByteArray := prog_3_method_5_code
def yX1_put : MethodName := ⟨RX1, "put", "(LDryingKiln$Board;)V"⟩
abbrev cX1_copyFrom : ByteArray := prog_3_method_6_code
def yX1_copyFrom : MethodName := ⟨RX1, "copyFrom", "(LDryingKiln$Load;)V"⟩
abbrev cX1_water : ByteArray := prog_3_method_7_code
def yX1_water : MethodName := ⟨RX1, "water", "()I"⟩
abbrev cX1_wettest : ByteArray := prog_3_method_8_code
def yX1_wettest : MethodName := ⟨RX1, "wettest", "()I"⟩
abbrev cX1_greatestAverage : ByteArray := prog_3_method_9_code
def yX1_greatestAverage : MethodName := ⟨RX1, "greatestAverage", "()I"⟩
abbrev cX1_isWetterThan : ByteArray := prog_3_method_10_code
def yX1_isWetterThan : MethodName := ⟨RX1, "isWetterThan", "(I)Z"⟩
abbrev cX1_greatestGradient : ByteArray := prog_3_method_11_code
def yX1_greatestGradient : MethodName := ⟨RX1, "greatestGradient", "()I"⟩
abbrev cX1_meanOf : ByteArray := prog_3_method_12_code
def yX1_meanOf : MethodName := ⟨RX1, "meanOf", "(I)I"⟩
abbrev cX1_passDryingHour : ByteArray := prog_3_method_13_code
def yX1_passDryingHour : MethodName := ⟨RX1, "passDryingHour", "(ILDryingKiln$Settings;)I"⟩
abbrev cX1_countDryingHour : ByteArray := prog_3_method_14_code
def yX1_countDryingHour : MethodName := ⟨RX1, "countDryingHour", "(I)V"⟩
abbrev cX1_passRestHour : ByteArray := prog_3_method_15_code
def yX1_passRestHour : MethodName := ⟨RX1, "passRestHour", "(LDryingKiln$Settings;)V"⟩
abbrev cX1_recordChecks : ByteArray := prog_3_method_16_code
def yX1_recordChecks : MethodName := ⟨RX1, "recordChecks", "(II)I"⟩
def RX2 : String := "DryingKiln$Schedule"
def TX2 : u_T := fun k => match k with
  | 0 => ("DryingKiln$Schedule", "thresholds", "[I", true)
  | 1 => ("DryingKiln$Schedule", "inlets", "[I", true)
  | _ => ("DryingKiln$Schedule", "size", "I", false)
def tyX2 : Nat → FieldType := fun k => match k with
  | 0 => .array .int
  | 1 => .array .int
  | _ => .int
abbrev wsX20 : List Cond := u_ws RX2 TX2 3
theorem nmX2 : ∀ a, a < 3 → ∀ b, b < 3 → a ≠ b → (TX2 a).2.1 ≠ (TX2 b).2.1 := by decide +kernel
theorem tyX2_ok : ∀ k, k < 3 → parseFieldDescriptor (TX2 k).2.2.1 = some (tyX2 k) := by decide +kernel
abbrev cX2_init : ByteArray := prog_4_method_1_code
def yX2_init : MethodName := ⟨RX2, "<init>", "()V"⟩
abbrev cX2_append : ByteArray := prog_4_method_2_code
def yX2_append : MethodName := ⟨RX2, "append", "(II)I"⟩
abbrev cX2_clear : ByteArray := prog_4_method_3_code
def yX2_clear : MethodName := ⟨RX2, "clear", "()I"⟩
abbrev cX2_stageFor : ByteArray := prog_4_method_4_code
def yX2_stageFor : MethodName := ⟨RX2, "stageFor", "(I)I"⟩
abbrev cX2_inletOf : ByteArray := prog_4_method_5_code
def yX2_inletOf : MethodName := ⟨RX2, "inletOf", "(II)I"⟩
def RX3 : String := "DryingKiln$Settings"
def TX3 : u_T := fun k => match k with
  | 0 => ("DryingKiln$Settings", "diffusion", "I", false)
  | 1 => ("DryingKiln$Settings", "surface", "I", false)
  | 2 => ("DryingKiln$Settings", "capacity", "I", false)
  | 3 => ("DryingKiln$Settings", "strainLimit", "I", false)
  | 4 => ("DryingKiln$Settings", "humidity", "I", false)
  | _ => ("DryingKiln$Settings", "reversalPeriod", "I", false)
def tyX3 : Nat → FieldType := fun k => match k with
  | 0 => .int
  | 1 => .int
  | 2 => .int
  | 3 => .int
  | 4 => .int
  | _ => .int
abbrev wsX30 : List Cond := u_ws RX3 TX3 6
theorem nmX3 : ∀ a, a < 6 → ∀ b, b < 6 → a ≠ b → (TX3 a).2.1 ≠ (TX3 b).2.1 := by decide +kernel
theorem tyX3_ok : ∀ k, k < 6 → parseFieldDescriptor (TX3 k).2.2.1 = some (tyX3 k) := by decide +kernel
abbrev cX3_init : ByteArray := prog_5_method_1_code
def yX3_init : MethodName := ⟨RX3, "<init>", "()V"⟩
def RX4 : String := "DryingKiln"
def TX4 : u_T := fun k => match k with
  | 0 => ("DryingKiln", "settings", "LDryingKiln$Settings;", true)
  | 1 => ("DryingKiln", "schedule", "LDryingKiln$Schedule;", true)
  | 2 => ("DryingKiln", "load", "LDryingKiln$Load;", true)
  | 3 => ("DryingKiln", "planned", "LDryingKiln$Load;", true)
  | 4 => ("DryingKiln", "trial", "LDryingKiln$Load;", true)
  | 5 => ("DryingKiln", "plan", "[I", true)
  | 6 => ("DryingKiln", "hoursRun", "I", false)
  | _ => ("DryingKiln", "waterGivenOff", "I", false)
def tyX4 : Nat → FieldType := fun k => match k with
  | 0 => .object "DryingKiln$Settings"
  | 1 => .object "DryingKiln$Schedule"
  | 2 => .object "DryingKiln$Load"
  | 3 => .object "DryingKiln$Load"
  | 4 => .object "DryingKiln$Load"
  | 5 => .array .int
  | 6 => .int
  | _ => .int
abbrev wsX40 : List Cond := u_ws RX4 TX4 8
theorem nmX4 : ∀ a, a < 8 → ∀ b, b < 8 → a ≠ b → (TX4 a).2.1 ≠ (TX4 b).2.1 := by decide +kernel
theorem tyX4_ok : ∀ k, k < 8 → parseFieldDescriptor (TX4 k).2.2.1 = some (tyX4 k) := by decide +kernel
abbrev cX4_init : ByteArray := prog_1_method_1_code
def yX4_init : MethodName := ⟨RX4, "<init>", "()V"⟩
abbrev cX4_addBoard : ByteArray := prog_1_method_2_code
def yX4_addBoard : MethodName := ⟨RX4, "addBoard", "(II)I"⟩
abbrev cX4_setLayer : ByteArray := prog_1_method_3_code
def yX4_setLayer : MethodName := ⟨RX4, "setLayer", "(III)I"⟩
abbrev cX4_layerMoisture : ByteArray := prog_1_method_4_code
def yX4_layerMoisture : MethodName := ⟨RX4, "layerMoisture", "(II)I"⟩
abbrev cX4_averageMoisture : ByteArray := prog_1_method_5_code
def yX4_averageMoisture : MethodName := ⟨RX4, "averageMoisture", "(I)I"⟩
abbrev cX4_strain : ByteArray := prog_1_method_6_code
def yX4_strain : MethodName := ⟨RX4, "strain", "(I)I"⟩
abbrev cX4_checkHour : ByteArray := prog_1_method_7_code
def yX4_checkHour : MethodName := ⟨RX4, "checkHour", "(I)I"⟩
abbrev cX4_wettestBoard : ByteArray := prog_1_method_8_code
def yX4_wettestBoard : MethodName := ⟨RX4, "wettestBoard", "()I"⟩
abbrev cX4_totalWater : ByteArray := prog_1_method_9_code
def yX4_totalWater : MethodName := ⟨RX4, "totalWater", "()I"⟩
abbrev cX4_sampleError : ByteArray := prog_1_method_10_code
def yX4_sampleError : MethodName := ⟨RX4, "sampleError", "(I)I"⟩
abbrev cX4_setDiffusion : ByteArray := prog_1_method_11_code
def yX4_setDiffusion : MethodName := ⟨RX4, "setDiffusion", "(I)I"⟩
abbrev cX4_setSurface : ByteArray := prog_1_method_12_code
def yX4_setSurface : MethodName := ⟨RX4, "setSurface", "(I)I"⟩
abbrev cX4_setCapacity : ByteArray := prog_1_method_13_code
def yX4_setCapacity : MethodName := ⟨RX4, "setCapacity", "(I)I"⟩
abbrev cX4_setStrainLimit : ByteArray := prog_1_method_14_code
def yX4_setStrainLimit : MethodName := ⟨RX4, "setStrainLimit", "(I)I"⟩
abbrev cX4_setHumidity : ByteArray := prog_1_method_15_code
def yX4_setHumidity : MethodName := ⟨RX4, "setHumidity", "(I)I"⟩
abbrev cX4_setFan : ByteArray := prog_1_method_16_code
def yX4_setFan : MethodName := ⟨RX4, "setFan", "(Z)I"⟩
abbrev cX4_isFanReversed : ByteArray := prog_1_method_17_code
def yX4_isFanReversed : MethodName := ⟨RX4, "isFanReversed", "()I"⟩
abbrev cX4_setReversalPeriod : ByteArray := prog_1_method_18_code
def yX4_setReversalPeriod : MethodName := ⟨RX4, "setReversalPeriod", "(I)I"⟩
abbrev cX4_dry : ByteArray := prog_1_method_19_code
def yX4_dry : MethodName := ⟨RX4, "dry", "(I)I"⟩
abbrev cX4_rest : ByteArray := prog_1_method_20_code
def yX4_rest : MethodName := ⟨RX4, "rest", "(I)I"⟩
abbrev cX4_hour : ByteArray := prog_1_method_21_code
def yX4_hour : MethodName := ⟨RX4, "hour", "()I"⟩
abbrev cX4_evaporated : ByteArray := prog_1_method_22_code
def yX4_evaporated : MethodName := ⟨RX4, "evaporated", "()I"⟩
abbrev cX4_airMoisture : ByteArray := prog_1_method_23_code
def yX4_airMoisture : MethodName := ⟨RX4, "airMoisture", "(I)I"⟩
abbrev cX4_addStage : ByteArray := prog_1_method_24_code
def yX4_addStage : MethodName := ⟨RX4, "addStage", "(II)I"⟩
abbrev cX4_clearStages : ByteArray := prog_1_method_25_code
def yX4_clearStages : MethodName := ⟨RX4, "clearStages", "()I"⟩
abbrev cX4_currentStage : ByteArray := prog_1_method_26_code
def yX4_currentStage : MethodName := ⟨RX4, "currentStage", "()I"⟩
abbrev cX4_runSchedule : ByteArray := prog_1_method_27_code
def yX4_runSchedule : MethodName := ⟨RX4, "runSchedule", "(II)I"⟩
abbrev cX4_plannedHours : ByteArray := prog_1_method_28_code
def yX4_plannedHours : MethodName := ⟨RX4, "plannedHours", "(I)I"⟩
abbrev cX4_plannedInlet : ByteArray := prog_1_method_29_code
def yX4_plannedInlet : MethodName := ⟨RX4, "plannedInlet", "(II)I"⟩
abbrev cX4_isOutside : ByteArray := prog_1_method_30_code
def yX4_isOutside : MethodName := ⟨RX4, "isOutside", "(III)Z"⟩
abbrev cX4_quotient : ByteArray := prog_1_method_31_code
def yX4_quotient : MethodName := ⟨RX4, "quotient", "(II)I"⟩
abbrev cX4_runDryingHour : ByteArray := prog_1_method_32_code
def yX4_runDryingHour : MethodName := ⟨RX4, "runDryingHour", "(I)I"⟩
abbrev cX4_endHour : ByteArray := prog_1_method_33_code
def yX4_endHour : MethodName := ⟨RX4, "endHour", "()I"⟩
abbrev cX4_scheduledInlet : ByteArray := prog_1_method_34_code
def yX4_scheduledInlet : MethodName := ⟨RX4, "scheduledInlet", "()I"⟩
abbrev cX4_makePlan : ByteArray := prog_1_method_35_code
def yX4_makePlan : MethodName := ⟨RX4, "makePlan", "(I)I"⟩
abbrev cX4_chooseInlet : ByteArray := prog_1_method_36_code
def yX4_chooseInlet : MethodName := ⟨RX4, "chooseInlet", "()I"⟩
def RX5 : String := "DryingKilnModel"
def TX5 : u_T := fun k => match k with
  | 0 => ("DryingKilnModel", "boards", "I", false)
  | 1 => ("DryingKilnModel", "layersOf", "[I", true)
  | 2 => ("DryingKilnModel", "cells", "[I", true)
  | 3 => ("DryingKilnModel", "checkOf", "[I", true)
  | 4 => ("DryingKilnModel", "airOf", "[I", true)
  | 5 => ("DryingKilnModel", "diffusionNow", "I", false)
  | 6 => ("DryingKilnModel", "surfaceNow", "I", false)
  | 7 => ("DryingKilnModel", "capacityNow", "I", false)
  | 8 => ("DryingKilnModel", "limitNow", "I", false)
  | 9 => ("DryingKilnModel", "humidityNow", "I", false)
  | 10 => ("DryingKilnModel", "isReversed", "Z", false)
  | 11 => ("DryingKilnModel", "period", "I", false)
  | 12 => ("DryingKilnModel", "hours", "I", false)
  | 13 => ("DryingKilnModel", "dryingHours", "I", false)
  | 14 => ("DryingKilnModel", "total", "I", false)
  | 15 => ("DryingKilnModel", "flow", "[I", true)
  | 16 => ("DryingKilnModel", "stages", "I", false)
  | 17 => ("DryingKilnModel", "thresholdOf", "[I", true)
  | 18 => ("DryingKilnModel", "inletOf", "[I", true)
  | 19 => ("DryingKilnModel", "savedCells", "[I", true)
  | 20 => ("DryingKilnModel", "savedAir", "[I", true)
  | 21 => ("DryingKilnModel", "hourCells", "[I", true)
  | 22 => ("DryingKilnModel", "plan", "[I", true)
  | _ => ("DryingKilnModel", "planned", "I", false)
def tyX5 : Nat → FieldType := fun k => match k with
  | 0 => .int
  | 1 => .array .int
  | 2 => .array .int
  | 3 => .array .int
  | 4 => .array .int
  | 5 => .int
  | 6 => .int
  | 7 => .int
  | 8 => .int
  | 9 => .int
  | 10 => .boolean
  | 11 => .int
  | 12 => .int
  | 13 => .int
  | 14 => .int
  | 15 => .array .int
  | 16 => .int
  | 17 => .array .int
  | 18 => .array .int
  | 19 => .array .int
  | 20 => .array .int
  | 21 => .array .int
  | 22 => .array .int
  | _ => .int
abbrev wsX50 : List Cond := u_ws RX5 TX5 24
theorem nmX5 : ∀ a, a < 24 → ∀ b, b < 24 → a ≠ b → (TX5 a).2.1 ≠ (TX5 b).2.1 := by decide +kernel
theorem tyX5_ok : ∀ k, k < 24 → parseFieldDescriptor (TX5 k).2.2.1 = some (tyX5 k) := by decide +kernel
abbrev cX5_init : ByteArray := prog_7_method_1_code
def yX5_init : MethodName := ⟨RX5, "<init>", "()V"⟩
abbrev cX5_isBetween : ByteArray := prog_7_method_2_code
def yX5_isBetween : MethodName := ⟨RX5, "isBetween", "(III)Z"⟩
abbrev cX5_isBoard : ByteArray := prog_7_method_3_code
def yX5_isBoard : MethodName := ⟨RX5, "isBoard", "(I)Z"⟩
abbrev cX5_addBoard : ByteArray := prog_7_method_4_code
def yX5_addBoard : MethodName := ⟨RX5, "addBoard", "(II)I"⟩
abbrev cX5_checkLayer : ByteArray := prog_7_method_5_code
def yX5_checkLayer : MethodName := ⟨RX5, "checkLayer", "(II)I"⟩
abbrev cX5_setLayer : ByteArray := prog_7_method_6_code
def yX5_setLayer : MethodName := ⟨RX5, "setLayer", "(III)I"⟩
abbrev cX5_layerMoisture : ByteArray := prog_7_method_7_code
def yX5_layerMoisture : MethodName := ⟨RX5, "layerMoisture", "(II)I"⟩
abbrev cX5_sumOf : ByteArray := prog_7_method_8_code
def yX5_sumOf : MethodName := ⟨RX5, "sumOf", "(I)I"⟩
abbrev cX5_averageOf : ByteArray := prog_7_method_9_code
def yX5_averageOf : MethodName := ⟨RX5, "averageOf", "(I)I"⟩
abbrev cX5_strainOf : ByteArray := prog_7_method_10_code
def yX5_strainOf : MethodName := ⟨RX5, "strainOf", "(I)I"⟩
abbrev cX5_averageMoisture : ByteArray := prog_7_method_11_code
def yX5_averageMoisture : MethodName := ⟨RX5, "averageMoisture", "(I)I"⟩
abbrev cX5_strain : ByteArray := prog_7_method_12_code
def yX5_strain : MethodName := ⟨RX5, "strain", "(I)I"⟩
abbrev cX5_checkHour : ByteArray := prog_7_method_13_code
def yX5_checkHour : MethodName := ⟨RX5, "checkHour", "(I)I"⟩
abbrev cX5_wettest : ByteArray := prog_7_method_14_code
def yX5_wettest : MethodName := ⟨RX5, "wettest", "()I"⟩
abbrev cX5_wettestBoard : ByteArray := prog_7_method_15_code
def yX5_wettestBoard : MethodName := ⟨RX5, "wettestBoard", "()I"⟩
abbrev cX5_totalWater : ByteArray := prog_7_method_16_code
def yX5_totalWater : MethodName := ⟨RX5, "totalWater", "()I"⟩
abbrev cX5_meanOf : ByteArray := prog_7_method_17_code
def yX5_meanOf : MethodName := ⟨RX5, "meanOf", "(I)I"⟩
abbrev cX5_sampleError : ByteArray := prog_7_method_18_code
def yX5_sampleError : MethodName := ⟨RX5, "sampleError", "(I)I"⟩
abbrev cX5_setDiffusion : ByteArray := prog_7_method_19_code
def yX5_setDiffusion : MethodName := ⟨RX5, "setDiffusion", "(I)I"⟩
abbrev cX5_setSurface : ByteArray := prog_7_method_20_code
def yX5_setSurface : MethodName := ⟨RX5, "setSurface", "(I)I"⟩
abbrev cX5_setCapacity : ByteArray := prog_7_method_21_code
def yX5_setCapacity : MethodName := ⟨RX5, "setCapacity", "(I)I"⟩
abbrev cX5_setStrainLimit : ByteArray := prog_7_method_22_code
def yX5_setStrainLimit : MethodName := ⟨RX5, "setStrainLimit", "(I)I"⟩
abbrev cX5_setHumidity : ByteArray := prog_7_method_23_code
def yX5_setHumidity : MethodName := ⟨RX5, "setHumidity", "(I)I"⟩
abbrev cX5_setFan : ByteArray := prog_7_method_24_code
def yX5_setFan : MethodName := ⟨RX5, "setFan", "(Z)I"⟩
abbrev cX5_isFanReversed : ByteArray := prog_7_method_25_code
def yX5_isFanReversed : MethodName := ⟨RX5, "isFanReversed", "()I"⟩
abbrev cX5_setReversalPeriod : ByteArray := prog_7_method_26_code
def yX5_setReversalPeriod : MethodName := ⟨RX5, "setReversalPeriod", "(I)I"⟩
abbrev cX5_move : ByteArray := prog_7_method_27_code
def yX5_move : MethodName := ⟨RX5, "move", "(IZI)I"⟩
abbrev cX5_blow : ByteArray := prog_7_method_28_code
def yX5_blow : MethodName := ⟨RX5, "blow", "(I)I"⟩
abbrev cX5_restAll : ByteArray := prog_7_method_29_code
def yX5_restAll : MethodName := ⟨RX5, "restAll", "()V"⟩
abbrev cX5_endHour : ByteArray := prog_7_method_30_code
def yX5_endHour : MethodName := ⟨RX5, "endHour", "()I"⟩
abbrev cX5_endDrying : ByteArray := prog_7_method_31_code
def yX5_endDrying : MethodName := ⟨RX5, "endDrying", "()V"⟩
abbrev cX5_dryHour : ByteArray := prog_7_method_32_code
def yX5_dryHour : MethodName := ⟨RX5, "dryHour", "(I)I"⟩
abbrev cX5_dry : ByteArray := prog_7_method_33_code
def yX5_dry : MethodName := ⟨RX5, "dry", "(I)I"⟩
abbrev cX5_rest : ByteArray := prog_7_method_34_code
def yX5_rest : MethodName := ⟨RX5, "rest", "(I)I"⟩
abbrev cX5_hour : ByteArray := prog_7_method_35_code
def yX5_hour : MethodName := ⟨RX5, "hour", "()I"⟩
abbrev cX5_evaporated : ByteArray := prog_7_method_36_code
def yX5_evaporated : MethodName := ⟨RX5, "evaporated", "()I"⟩
abbrev cX5_airMoisture : ByteArray := prog_7_method_37_code
def yX5_airMoisture : MethodName := ⟨RX5, "airMoisture", "(I)I"⟩
abbrev cX5_addStage : ByteArray := prog_7_method_38_code
def yX5_addStage : MethodName := ⟨RX5, "addStage", "(II)I"⟩
abbrev cX5_clearStages : ByteArray := prog_7_method_39_code
def yX5_clearStages : MethodName := ⟨RX5, "clearStages", "()I"⟩
abbrev cX5_stageNow : ByteArray := prog_7_method_40_code
def yX5_stageNow : MethodName := ⟨RX5, "stageNow", "()I"⟩
abbrev cX5_currentStage : ByteArray := prog_7_method_41_code
def yX5_currentStage : MethodName := ⟨RX5, "currentStage", "()I"⟩
abbrev cX5_isWet : ByteArray := prog_7_method_42_code
def yX5_isWet : MethodName := ⟨RX5, "isWet", "(I)Z"⟩
abbrev cX5_runSchedule : ByteArray := prog_7_method_43_code
def yX5_runSchedule : MethodName := ⟨RX5, "runSchedule", "(II)I"⟩
abbrev cX5_copy : ByteArray := prog_7_method_44_code
def yX5_copy : MethodName := ⟨RX5, "copy", "([I[II)V"⟩
abbrev cX5_isStrained : ByteArray := prog_7_method_45_code
def yX5_isStrained : MethodName := ⟨RX5, "isStrained", "()Z"⟩
abbrev cX5_planHour : ByteArray := prog_7_method_46_code
def yX5_planHour : MethodName := ⟨RX5, "planHour", "()I"⟩
abbrev cX5_findPlan : ByteArray := prog_7_method_47_code
def yX5_findPlan : MethodName := ⟨RX5, "findPlan", "(I)Z"⟩
abbrev cX5_plannedHours : ByteArray := prog_7_method_48_code
def yX5_plannedHours : MethodName := ⟨RX5, "plannedHours", "(I)I"⟩
abbrev cX5_plannedInlet : ByteArray := prog_7_method_49_code
def yX5_plannedInlet : MethodName := ⟨RX5, "plannedInlet", "(II)I"⟩
def RJx145de : String := "java/io/Serializable"
def TJx145de : u_T := fun k => match k with
  | _ => ("", "", "", false)
def tyJx145de : Nat → FieldType := fun k => match k with
  | _ => .int
abbrev wsJx145de0 : List Cond := u_ws RJx145de TJx145de 0
theorem nmJx145de : ∀ a, a < 0 → ∀ b, b < 0 → a ≠ b → (TJx145de a).2.1 ≠ (TJx145de b).2.1 := by decide +kernel
theorem tyJx145de_ok : ∀ k, k < 0 → parseFieldDescriptor (TJx145de k).2.2.1 = some (tyJx145de k) := by decide +kernel
def RJx8e188 : String := "java/lang/Cloneable"
def TJx8e188 : u_T := fun k => match k with
  | _ => ("", "", "", false)
def tyJx8e188 : Nat → FieldType := fun k => match k with
  | _ => .int
abbrev wsJx8e1880 : List Cond := u_ws RJx8e188 TJx8e188 0
theorem nmJx8e188 : ∀ a, a < 0 → ∀ b, b < 0 → a ≠ b → (TJx8e188 a).2.1 ≠ (TJx8e188 b).2.1 := by decide +kernel
theorem tyJx8e188_ok : ∀ k, k < 0 → parseFieldDescriptor (TJx8e188 k).2.2.1 = some (tyJx8e188 k) := by decide +kernel
def RJ6 : String := "java/lang/Integer"
def TJ6 : u_T := fun k => match k with
  | _ => ("", "", "", false)
def tyJ6 : Nat → FieldType := fun k => match k with
  | _ => .int
abbrev wsJ60 : List Cond := u_ws RJ6 TJ6 0
theorem nmJ6 : ∀ a, a < 0 → ∀ b, b < 0 → a ≠ b → (TJ6 a).2.1 ≠ (TJ6 b).2.1 := by decide +kernel
theorem tyJ6_ok : ∀ k, k < 0 → parseFieldDescriptor (TJ6 k).2.2.1 = some (tyJ6 k) := by decide +kernel
abbrev cJ6_bitCount_0f7a4 : ByteArray := prog_10_method_49_code
def yJ6_bitCount_0f7a4 : MethodName := ⟨RJ6, "bitCount", "(I)I"⟩
def RJxab1ab : String := "java/lang/Iterable"
def TJxab1ab : u_T := fun k => match k with
  | _ => ("", "", "", false)
def tyJxab1ab : Nat → FieldType := fun k => match k with
  | _ => .int
abbrev wsJxab1ab0 : List Cond := u_ws RJxab1ab TJxab1ab 0
theorem nmJxab1ab : ∀ a, a < 0 → ∀ b, b < 0 → a ≠ b → (TJxab1ab a).2.1 ≠ (TJxab1ab b).2.1 := by decide +kernel
theorem tyJxab1ab_ok : ∀ k, k < 0 → parseFieldDescriptor (TJxab1ab k).2.2.1 = some (tyJxab1ab k) := by decide +kernel
def RJ9 : String := "java/lang/Math"
def TJ9 : u_T := fun k => match k with
  | _ => ("", "", "", false)
def tyJ9 : Nat → FieldType := fun k => match k with
  | _ => .int
abbrev wsJ90 : List Cond := u_ws RJ9 TJ9 0
theorem nmJ9 : ∀ a, a < 0 → ∀ b, b < 0 → a ≠ b → (TJ9 a).2.1 ≠ (TJ9 b).2.1 := by decide +kernel
theorem tyJ9_ok : ∀ k, k < 0 → parseFieldDescriptor (TJ9 k).2.2.1 = some (tyJ9 k) := by decide +kernel
abbrev cJ9_max_7cf53 : ByteArray := prog_12_method_65_code
def yJ9_max_7cf53 : MethodName := ⟨RJ9, "max", "(II)I"⟩
abbrev cJ9_min_7cf53 : ByteArray := prog_12_method_69_code
def yJ9_min_7cf53 : MethodName := ⟨RJ9, "min", "(II)I"⟩
def RJ10 : String := "java/lang/System"
def TJ10 : u_T := fun k => match k with
  | _ => ("", "", "", false)
def tyJ10 : Nat → FieldType := fun k => match k with
  | _ => .int
abbrev wsJ100 : List Cond := u_ws RJ10 TJ10 0
theorem nmJ10 : ∀ a, a < 0 → ∀ b, b < 0 → a ≠ b → (TJ10 a).2.1 ≠ (TJ10 b).2.1 := by decide +kernel
theorem tyJ10_ok : ∀ k, k < 0 → parseFieldDescriptor (TJ10 k).2.2.1 = some (tyJ10 k) := by decide +kernel
def RJxa1e45 : String := "java/util/AbstractCollection"
def TJxa1e45 : u_T := fun k => match k with
  | _ => ("", "", "", false)
def tyJxa1e45 : Nat → FieldType := fun k => match k with
  | _ => .int
abbrev wsJxa1e450 : List Cond := u_ws RJxa1e45 TJxa1e45 0
theorem nmJxa1e45 : ∀ a, a < 0 → ∀ b, b < 0 → a ≠ b → (TJxa1e45 a).2.1 ≠ (TJxa1e45 b).2.1 := by decide +kernel
theorem tyJxa1e45_ok : ∀ k, k < 0 → parseFieldDescriptor (TJxa1e45 k).2.2.1 = some (tyJxa1e45 k) := by decide +kernel
abbrev cJxa1e45_init_da8c8 : ByteArray := prog_14_method_1_code
def yJxa1e45_init_da8c8 : MethodName := ⟨RJxa1e45, "<init>", "()V"⟩
def RJxc12de : String := "java/util/AbstractList"
def TJxc12de : u_T := fun k => match k with
  | _ => ("", "", "", false)
def tyJxc12de : Nat → FieldType := fun k => match k with
  | _ => .int
abbrev wsJxc12de0 : List Cond := u_ws RJxc12de TJxc12de 0
theorem nmJxc12de : ∀ a, a < 0 → ∀ b, b < 0 → a ≠ b → (TJxc12de a).2.1 ≠ (TJxc12de b).2.1 := by decide +kernel
theorem tyJxc12de_ok : ∀ k, k < 0 → parseFieldDescriptor (TJxc12de k).2.2.1 = some (tyJxc12de k) := by decide +kernel
abbrev cJxc12de_init_da8c8 : ByteArray := prog_15_method_1_code
def yJxc12de_init_da8c8 : MethodName := ⟨RJxc12de, "<init>", "()V"⟩
def RJx4a65c : String := "java/util/ArrayList"
def TJx4a65c : u_T := fun k => match k with
  | 0 => ("java/util/AbstractList", "modCount", "I", false)
  | 1 => ("java/util/ArrayList", "elementData", "[Ljava/lang/Object;", false)
  | _ => ("java/util/ArrayList", "size", "I", false)
def tyJx4a65c : Nat → FieldType := fun k => match k with
  | 0 => .int
  | 1 => .array (.object "java/lang/Object")
  | _ => .int
abbrev wsJx4a65c0 : List Cond := u_ws RJx4a65c TJx4a65c 3
theorem nmJx4a65c : ∀ a, a < 3 → ∀ b, b < 3 → a ≠ b → (TJx4a65c a).2.1 ≠ (TJx4a65c b).2.1 := by decide +kernel
theorem tyJx4a65c_ok : ∀ k, k < 3 → parseFieldDescriptor (TJx4a65c k).2.2.1 = some (tyJx4a65c k) := by decide +kernel
abbrev cJx4a65c_init_da8c8 : ByteArray := prog_16_method_2_code
def yJx4a65c_init_da8c8 : MethodName := ⟨RJx4a65c, "<init>", "()V"⟩
abbrev cJx4a65c_grow_92f84 : ByteArray := prog_16_method_6_code
def yJx4a65c_grow_92f84 : MethodName := ⟨RJx4a65c, "grow", "(I)[Ljava/lang/Object;"⟩
abbrev cJx4a65c_grow_d5877 : ByteArray := prog_16_method_7_code
def yJx4a65c_grow_d5877 : MethodName := ⟨RJx4a65c, "grow", "()[Ljava/lang/Object;"⟩
abbrev cJx4a65c_size_8abf5 : ByteArray := prog_16_method_8_code
def yJx4a65c_size_8abf5 : MethodName := ⟨RJx4a65c, "size", "()I"⟩
abbrev cJx4a65c_elementData_915e3 : ByteArray := prog_16_method_18_code
def yJx4a65c_elementData_915e3 : MethodName := ⟨RJx4a65c, "elementData", "(I)Ljava/lang/Object;"⟩
abbrev cJx4a65c_get_915e3 : ByteArray := prog_16_method_20_code
def yJx4a65c_get_915e3 : MethodName := ⟨RJx4a65c, "get", "(I)Ljava/lang/Object;"⟩
abbrev cJx4a65c_add_72be8 : ByteArray := prog_16_method_24_code
def yJx4a65c_add_72be8 : MethodName := ⟨RJx4a65c, "add", "(Ljava/lang/Object;[Ljava/lang/Object;I)V"⟩
abbrev cJx4a65c_add_9ea2d : ByteArray := prog_16_method_25_code
def yJx4a65c_add_9ea2d : MethodName := ⟨RJx4a65c, "add", "(Ljava/lang/Object;)Z"⟩
def RJ7 : String := "java/util/Arrays"
def TJ7 : u_T := fun k => match k with
  | _ => ("", "", "", false)
def tyJ7 : Nat → FieldType := fun k => match k with
  | _ => .int
abbrev wsJ70 : List Cond := u_ws RJ7 TJ7 0
theorem nmJ7 : ∀ a, a < 0 → ∀ b, b < 0 → a ≠ b → (TJ7 a).2.1 ≠ (TJ7 b).2.1 := by decide +kernel
theorem tyJ7_ok : ∀ k, k < 0 → parseFieldDescriptor (TJ7 k).2.2.1 = some (tyJ7 k) := by decide +kernel
abbrev cJ7_fill_53178 : ByteArray := prog_17_method_103_code
def yJ7_fill_53178 : MethodName := ⟨RJ7, "fill", "([II)V"⟩
abbrev cJ7_copyOf_1904c : ByteArray := prog_17_method_119_code
def yJ7_copyOf_1904c : MethodName := ⟨RJ7, "copyOf", "([Ljava/lang/Object;I)[Ljava/lang/Object;"⟩
abbrev cJ7_copyOf_6403c : ByteArray := prog_17_method_120_code
def yJ7_copyOf_6403c : MethodName := ⟨RJ7, "copyOf", "([Ljava/lang/Object;ILjava/lang/Class;)[Ljava/lang/Object;"⟩
def RJx5ef63 : String := "java/util/Collection"
def TJx5ef63 : u_T := fun k => match k with
  | _ => ("", "", "", false)
def tyJx5ef63 : Nat → FieldType := fun k => match k with
  | _ => .int
abbrev wsJx5ef630 : List Cond := u_ws RJx5ef63 TJx5ef63 0
theorem nmJx5ef63 : ∀ a, a < 0 → ∀ b, b < 0 → a ≠ b → (TJx5ef63 a).2.1 ≠ (TJx5ef63 b).2.1 := by decide +kernel
theorem tyJx5ef63_ok : ∀ k, k < 0 → parseFieldDescriptor (TJx5ef63 k).2.2.1 = some (tyJx5ef63 k) := by decide +kernel
def RJxbd725 : String := "java/util/List"
def TJxbd725 : u_T := fun k => match k with
  | _ => ("", "", "", false)
def tyJxbd725 : Nat → FieldType := fun k => match k with
  | _ => .int
abbrev wsJxbd7250 : List Cond := u_ws RJxbd725 TJxbd725 0
theorem nmJxbd725 : ∀ a, a < 0 → ∀ b, b < 0 → a ≠ b → (TJxbd725 a).2.1 ≠ (TJxbd725 b).2.1 := by decide +kernel
theorem tyJxbd725_ok : ∀ k, k < 0 → parseFieldDescriptor (TJxbd725 k).2.2.1 = some (tyJxbd725 k) := by decide +kernel
def RJ15 : String := "java/util/Objects"
def TJ15 : u_T := fun k => match k with
  | _ => ("", "", "", false)
def tyJ15 : Nat → FieldType := fun k => match k with
  | _ => .int
abbrev wsJ150 : List Cond := u_ws RJ15 TJ15 0
theorem nmJ15 : ∀ a, a < 0 → ∀ b, b < 0 → a ≠ b → (TJ15 a).2.1 ≠ (TJ15 b).2.1 := by decide +kernel
theorem tyJ15_ok : ∀ k, k < 0 → parseFieldDescriptor (TJ15 k).2.2.1 = some (tyJ15 k) := by decide +kernel
abbrev cJ15_checkIndex_7cf53 : ByteArray := prog_20_method_17_code
def yJ15_checkIndex_7cf53 : MethodName := ⟨RJ15, "checkIndex", "(II)I"⟩
def RJxf0a74 : String := "java/util/RandomAccess"
def TJxf0a74 : u_T := fun k => match k with
  | _ => ("", "", "", false)
def tyJxf0a74 : Nat → FieldType := fun k => match k with
  | _ => .int
abbrev wsJxf0a740 : List Cond := u_ws RJxf0a74 TJxf0a74 0
theorem nmJxf0a74 : ∀ a, a < 0 → ∀ b, b < 0 → a ≠ b → (TJxf0a74 a).2.1 ≠ (TJxf0a74 b).2.1 := by decide +kernel
theorem tyJxf0a74_ok : ∀ k, k < 0 → parseFieldDescriptor (TJxf0a74 k).2.2.1 = some (tyJxf0a74 k) := by decide +kernel
def RJxa66e6 : String := "java/util/SequencedCollection"
def TJxa66e6 : u_T := fun k => match k with
  | _ => ("", "", "", false)
def tyJxa66e6 : Nat → FieldType := fun k => match k with
  | _ => .int
abbrev wsJxa66e60 : List Cond := u_ws RJxa66e6 TJxa66e6 0
theorem nmJxa66e6 : ∀ a, a < 0 → ∀ b, b < 0 → a ≠ b → (TJxa66e6 a).2.1 ≠ (TJxa66e6 b).2.1 := by decide +kernel
theorem tyJxa66e6_ok : ∀ k, k < 0 → parseFieldDescriptor (TJxa66e6 k).2.2.1 = some (tyJxa66e6 k) := by decide +kernel
def RJ8 : String := "jdk/internal/util/ArraysSupport"
def TJ8 : u_T := fun k => match k with
  | _ => ("", "", "", false)
def tyJ8 : Nat → FieldType := fun k => match k with
  | _ => .int
abbrev wsJ80 : List Cond := u_ws RJ8 TJ8 0
theorem nmJ8 : ∀ a, a < 0 → ∀ b, b < 0 → a ≠ b → (TJ8 a).2.1 ≠ (TJ8 b).2.1 := by decide +kernel
theorem tyJ8_ok : ∀ k, k < 0 → parseFieldDescriptor (TJ8 k).2.2.1 = some (tyJ8 k) := by decide +kernel
abbrev cJ8_newLength_cabcc : ByteArray := prog_23_method_27_code
def yJ8_newLength_cabcc : MethodName := ⟨RJ8, "newLength", "(III)I"⟩
abbrev cJ8_hugeLength_7cf53 : ByteArray := prog_23_method_28_code
def yJ8_hugeLength_7cf53 : MethodName := ⟨RJ8, "hugeLength", "(II)I"⟩
def RJ3 : String := "jdk/internal/util/Preconditions"
def TJ3 : u_T := fun k => match k with
  | _ => ("", "", "", false)
def tyJ3 : Nat → FieldType := fun k => match k with
  | _ => .int
abbrev wsJ30 : List Cond := u_ws RJ3 TJ3 0
theorem nmJ3 : ∀ a, a < 0 → ∀ b, b < 0 → a ≠ b → (TJ3 a).2.1 ≠ (TJ3 b).2.1 := by decide +kernel
theorem tyJ3_ok : ∀ k, k < 0 → parseFieldDescriptor (TJ3 k).2.2.1 = some (tyJ3 k) := by decide +kernel
abbrev cJ3_checkIndex_8e157 : ByteArray := prog_24_method_11_code
def yJ3_checkIndex_8e157 : MethodName := ⟨RJ3, "checkIndex", "(IILjava/util/function/BiFunction;)I"⟩
def RL : String := "DryingKilnLaw"
abbrev cL_law : ByteArray := code
def yL_law : MethodName := ⟨RL, "law", "([I)Z"⟩
def wsJ7_fill_53178 : List Cond := .code yJ7_fill_53178 cJ7_fill_53178 4 none :: ([])
def wsX0_init : List Cond := .code yX0_init cX0_init 3 none :: ([.methodLink RX0 3 objectInit, .instanceMethod objectInit, .code objectInit ⟨#[0xb1]⟩ 1 none, .constant RX0 9 (-1000005), .fieldLink RX0 10 "DryingKiln$Board" "checkedAt" "I", .fieldLink RX0 16 "DryingKiln$Board" "air" "I", .arrayClass .int, .fieldLink RX0 19 "DryingKiln$Board" "moisture" "[I", .methodLink RX0 23 yJ7_fill_53178, .static yJ7_fill_53178, .initialized RJ7, .code yJ7_fill_53178 cJ7_fill_53178 4 none] ++ wsX00)
def wsX0_water : List Cond := .code yX0_water cX0_water 3 (some .int) :: ([.fieldLink RX0 19 "DryingKiln$Board" "moisture" "[I"] ++ wsX00)
def wsX4_quotient : List Cond := .code yX4_quotient cX4_quotient 2 (some .int) :: ([])
def wsX0_average : List Cond := .code yX0_average cX0_average 1 (some .int) :: ([.fieldLink RX0 19 "DryingKiln$Board" "moisture" "[I", .methodLink RX0 29 yX0_water, .instanceMethod yX0_water, .selects RX0 yX0_water yX0_water, .initialized RX0, .code yX0_water cX0_water 3 (some .int), .static yX4_quotient, .initialized RX4, .code yX4_quotient cX4_quotient 2 (some .int)] ++ wsX00)
def wsX0_gradient : List Cond := .code yX0_gradient cX0_gradient 3 (some .int) :: ([.fieldLink RX0 19 "DryingKiln$Board" "moisture" "[I", .methodLink RX0 37 Lib.Math.max.name, .static Lib.Math.max.name, .initialized "java/lang/Math", .code Lib.Math.max.name Lib.Math.max.code 2 (some .int), .methodLink RX0 42 Lib.Math.min.name, .static Lib.Math.min.name, .code Lib.Math.min.name Lib.Math.min.code 2 (some .int)] ++ wsX00)
def wsX0_applyFlows : List Cond := .code yX0_applyFlows cX0_applyFlows 7 none :: ([.fieldLink RX0 19 "DryingKiln$Board" "moisture" "[I"] ++ wsX00)
def wsX0_passDryingHour : List Cond := .code yX0_passDryingHour cX0_passDryingHour 5 (some .int) :: ([.fieldLink RX0 16 "DryingKiln$Board" "air" "I", .fieldLink RX0 19 "DryingKiln$Board" "moisture" "[I", .fieldLink RX0 45 "DryingKiln$Settings" "surface" "I", .fieldLink RX0 50 "DryingKiln$Settings" "diffusion" "I", .methodLink RX0 53 yX0_applyFlows, .instanceMethod yX0_applyFlows, .selects RX0 yX0_applyFlows yX0_applyFlows, .initialized RX0, .code yX0_applyFlows cX0_applyFlows 7 none] ++ wsX00 ++ wsX30)
def wsX0_passRestHour : List Cond := .code yX0_passRestHour cX0_passRestHour 2 none :: ([.methodLink RX0 53 yX0_applyFlows, .instanceMethod yX0_applyFlows, .selects RX0 yX0_applyFlows yX0_applyFlows, .initialized RX0, .code yX0_applyFlows cX0_applyFlows 7 none, .fieldLink RX0 19 "DryingKiln$Board" "moisture" "[I"] ++ wsX00)
def wsX0_copyMoistureFrom : List Cond := .code yX0_copyMoistureFrom cX0_copyMoistureFrom 3 none :: ([.fieldLink RX0 19 "DryingKiln$Board" "moisture" "[I", .methodLink RX0 42 Lib.Math.min.name, .static Lib.Math.min.name, .initialized "java/lang/Math", .code Lib.Math.min.name Lib.Math.min.code 2 (some .int), .methodLink RX0 57 arraycopyName, .native arraycopyName, .static arraycopyName, .initialized "java/lang/System"] ++ wsX00)
def wsJxa1e45_init_da8c8 : List Cond := .code yJxa1e45_init_da8c8 cJxa1e45_init_da8c8 1 none :: ([.methodLink RJxa1e45 1 objectInit, .instanceMethod objectInit, .code objectInit ⟨#[0xb1]⟩ 1 none])
def wsJxc12de_init_da8c8 : List Cond := .code yJxc12de_init_da8c8 cJxc12de_init_da8c8 1 none :: ([.fieldLink RJxc12de 7 "java/util/AbstractList" "modCount" "I", .methodLink RJxc12de 1 yJxa1e45_init_da8c8, .instanceMethod yJxa1e45_init_da8c8, .initialized RJxa1e45, .code yJxa1e45_init_da8c8 cJxa1e45_init_da8c8 1 none, .methodLink RJxa1e45 1 objectInit, .instanceMethod objectInit, .code objectInit ⟨#[0xb1]⟩ 1 none] ++ wsJx4a65c0)
def wsJx4a65c_init_da8c8 : List Cond := .code yJx4a65c_init_da8c8 cJx4a65c_init_da8c8 1 none :: ([.fieldLink RJx4a65c 39 "java/util/ArrayList" "DEFAULTCAPACITY_EMPTY_ELEMENTDATA" "[Ljava/lang/Object;", .fieldLink RJx4a65c 9 "java/util/ArrayList" "elementData" "[Ljava/lang/Object;", .methodLink RJx4a65c 1 yJxc12de_init_da8c8, .instanceMethod yJxc12de_init_da8c8, .initialized RJxc12de, .code yJxc12de_init_da8c8 cJxc12de_init_da8c8 1 none, .fieldLink RJxc12de 7 "java/util/AbstractList" "modCount" "I", .methodLink RJxc12de 1 yJxa1e45_init_da8c8, .instanceMethod yJxa1e45_init_da8c8, .initialized RJxa1e45, .code yJxa1e45_init_da8c8 cJxa1e45_init_da8c8 1 none, .methodLink RJxa1e45 1 objectInit, .instanceMethod objectInit, .code objectInit ⟨#[0xb1]⟩ 1 none] ++ wsJx4a65c0)
def wsX1_init : List Cond := .code yX1_init cX1_init 1 none :: ([.methodLink RX1 3 objectInit, .instanceMethod objectInit, .code objectInit ⟨#[0xb1]⟩ 1 none, .fieldLink RX1 9 "DryingKiln$Load" "reversed" "Z", .fieldLink RX1 15 "DryingKiln$Load" "dryingHours" "I", .classLink RX1 19 RJx4a65c, .instantiable RJx4a65c 3, .initialized RJx4a65c, .fieldLink RX1 22 "DryingKiln$Load" "boards" "Ljava/util/ArrayList;", .methodLink RX1 21 yJx4a65c_init_da8c8, .instanceMethod yJx4a65c_init_da8c8, .code yJx4a65c_init_da8c8 cJx4a65c_init_da8c8 1 none, .fieldLink RJx4a65c 39 "java/util/ArrayList" "DEFAULTCAPACITY_EMPTY_ELEMENTDATA" "[Ljava/lang/Object;", .fieldLink RJx4a65c 9 "java/util/ArrayList" "elementData" "[Ljava/lang/Object;", .methodLink RJx4a65c 1 yJxc12de_init_da8c8, .instanceMethod yJxc12de_init_da8c8, .initialized RJxc12de, .code yJxc12de_init_da8c8 cJxc12de_init_da8c8 1 none, .fieldLink RJxc12de 7 "java/util/AbstractList" "modCount" "I", .methodLink RJxc12de 1 yJxa1e45_init_da8c8, .instanceMethod yJxa1e45_init_da8c8, .initialized RJxa1e45, .code yJxa1e45_init_da8c8 cJxa1e45_init_da8c8 1 none, .methodLink RJxa1e45 1 objectInit] ++ wsX10 ++ wsJx4a65c0)
def wsJx4a65c_size_8abf5 : List Cond := .code yJx4a65c_size_8abf5 cJx4a65c_size_8abf5 1 (some .int) :: ([.fieldLink RJx4a65c 48 "java/util/ArrayList" "size" "I"] ++ wsJx4a65c0)
def wsX1_size : List Cond := .code yX1_size cX1_size 1 (some .int) :: ([.fieldLink RX1 22 "DryingKiln$Load" "boards" "Ljava/util/ArrayList;", .methodLink RX1 26 yJx4a65c_size_8abf5, .instanceMethod yJx4a65c_size_8abf5, .selects RJx4a65c yJx4a65c_size_8abf5 yJx4a65c_size_8abf5, .initialized RJx4a65c, .code yJx4a65c_size_8abf5 cJx4a65c_size_8abf5 1 (some .int), .fieldLink RJx4a65c 48 "java/util/ArrayList" "size" "I"] ++ wsX10 ++ wsJx4a65c0)
def wsX1_has : List Cond := .code yX1_has cX1_has 2 (some .boolean) :: ([.fieldLink RX1 22 "DryingKiln$Load" "boards" "Ljava/util/ArrayList;", .methodLink RX1 26 yJx4a65c_size_8abf5, .instanceMethod yJx4a65c_size_8abf5, .selects RJx4a65c yJx4a65c_size_8abf5 yJx4a65c_size_8abf5, .initialized RJx4a65c, .code yJx4a65c_size_8abf5 cJx4a65c_size_8abf5 1 (some .int), .fieldLink RJx4a65c 48 "java/util/ArrayList" "size" "I"] ++ wsX10 ++ wsJx4a65c0)
def wsJ3_checkIndex_8e157 : List Cond := .code yJ3_checkIndex_8e157 cJ3_checkIndex_8e157 3 (some .int) :: ([])
def wsJ15_checkIndex_7cf53 : List Cond := .code yJ15_checkIndex_7cf53 cJ15_checkIndex_7cf53 2 (some .int) :: ([.methodLink RJ15 105 yJ3_checkIndex_8e157, .static yJ3_checkIndex_8e157, .initialized RJ3, .code yJ3_checkIndex_8e157 cJ3_checkIndex_8e157 3 (some .int)])
def wsJx4a65c_elementData_915e3 : List Cond := .code yJx4a65c_elementData_915e3 cJx4a65c_elementData_915e3 2 (some (.object "java/lang/Object")) :: ([.fieldLink RJx4a65c 9 "java/util/ArrayList" "elementData" "[Ljava/lang/Object;"] ++ wsJx4a65c0)
def wsJx4a65c_get_915e3 : List Cond := .code yJx4a65c_get_915e3 cJx4a65c_get_915e3 2 (some (.object "java/lang/Object")) :: ([.fieldLink RJx4a65c 48 "java/util/ArrayList" "size" "I", .methodLink RJx4a65c 118 yJ15_checkIndex_7cf53, .static yJ15_checkIndex_7cf53, .initialized RJ15, .code yJ15_checkIndex_7cf53 cJ15_checkIndex_7cf53 2 (some .int), .methodLink RJ15 105 yJ3_checkIndex_8e157, .static yJ3_checkIndex_8e157, .initialized RJ3, .code yJ3_checkIndex_8e157 cJ3_checkIndex_8e157 3 (some .int), .methodLink RJx4a65c 123 yJx4a65c_elementData_915e3, .instanceMethod yJx4a65c_elementData_915e3, .selects RJx4a65c yJx4a65c_elementData_915e3 yJx4a65c_elementData_915e3, .initialized RJx4a65c, .code yJx4a65c_elementData_915e3 cJx4a65c_elementData_915e3 2 (some (.object "java/lang/Object")), .fieldLink RJx4a65c 9 "java/util/ArrayList" "elementData" "[Ljava/lang/Object;"] ++ wsJx4a65c0)
def wsX1_boardAt : List Cond := .code yX1_boardAt cX1_boardAt 2 (some (.object "DryingKiln$Board")) :: ([.fieldLink RX1 22 "DryingKiln$Load" "boards" "Ljava/util/ArrayList;", .classLink RX1 34 "DryingKiln$Board", .methodLink RX1 30 yJx4a65c_get_915e3, .instanceMethod yJx4a65c_get_915e3, .selects RJx4a65c yJx4a65c_get_915e3 yJx4a65c_get_915e3, .initialized RJx4a65c, .code yJx4a65c_get_915e3 cJx4a65c_get_915e3 2 (some (.object "java/lang/Object")), .fieldLink RJx4a65c 48 "java/util/ArrayList" "size" "I", .methodLink RJx4a65c 118 yJ15_checkIndex_7cf53, .static yJ15_checkIndex_7cf53, .initialized RJ15, .code yJ15_checkIndex_7cf53 cJ15_checkIndex_7cf53 2 (some .int), .methodLink RJ15 105 yJ3_checkIndex_8e157, .static yJ3_checkIndex_8e157, .initialized RJ3, .code yJ3_checkIndex_8e157 cJ3_checkIndex_8e157 3 (some .int), .methodLink RJx4a65c 123 yJx4a65c_elementData_915e3, .instanceMethod yJx4a65c_elementData_915e3, .selects RJx4a65c yJx4a65c_elementData_915e3 yJx4a65c_elementData_915e3, .code yJx4a65c_elementData_915e3 cJx4a65c_elementData_915e3 2 (some (.object "java/lang/Object")), .fieldLink RJx4a65c 9 "java/util/ArrayList" "elementData" "[Ljava/lang/Object;"] ++ wsX10 ++ wsJx4a65c0)
def wsJ8_hugeLength_7cf53 : List Cond := .code yJ8_hugeLength_7cf53 cJ8_hugeLength_7cf53 3 (some .int) :: ([.constant RJ8 200 (2147483639)])
def wsJ8_newLength_cabcc : List Cond := .code yJ8_newLength_cabcc cJ8_newLength_cabcc 4 (some .int) :: ([.methodLink RJ8 194 Lib.Math.max.name, .static Lib.Math.max.name, .initialized "java/lang/Math", .code Lib.Math.max.name Lib.Math.max.code 2 (some .int), .constant RJ8 200 (2147483639), .methodLink RJ8 201 yJ8_hugeLength_7cf53, .static yJ8_hugeLength_7cf53, .initialized RJ8, .code yJ8_hugeLength_7cf53 cJ8_hugeLength_7cf53 3 (some .int)])
def wsJ7_copyOf_6403c : List Cond := .code yJ7_copyOf_6403c cJ7_copyOf_6403c 4 (some (.array (.object "java/lang/Object"))) :: ([.classLink RJ7 110 "[Ljava/lang/Object;", .classLink RJ7 2 "java/lang/Object", .methodLink RJ7 304 Lib.Math.min.name, .static Lib.Math.min.name, .initialized "java/lang/Math", .code Lib.Math.min.name Lib.Math.min.code 2 (some .int), .methodLink RJ7 150 arraycopyName, .native arraycopyName, .static arraycopyName, .initialized "java/lang/System"])
def wsJ7_copyOf_1904c : List Cond := .code yJ7_copyOf_1904c cJ7_copyOf_1904c 2 (some (.array (.object "java/lang/Object"))) :: ([.methodLink RJ7 86 ⟨"java/lang/Object", "getClass", "()Ljava/lang/Class;"⟩, .selects "[Ljava/lang/Object;" ⟨"java/lang/Object", "getClass", "()Ljava/lang/Class;"⟩ ⟨"java/lang/Object", "getClass", "()Ljava/lang/Class;"⟩, .instanceMethod ⟨"java/lang/Object", "getClass", "()Ljava/lang/Class;"⟩, .native ⟨"java/lang/Object", "getClass", "()Ljava/lang/Class;"⟩, .methodLink RJ7 300 yJ7_copyOf_6403c, .static yJ7_copyOf_6403c, .initialized RJ7, .code yJ7_copyOf_6403c cJ7_copyOf_6403c 4 (some (.array (.object "java/lang/Object"))), .classLink RJ7 110 "[Ljava/lang/Object;", .classLink RJ7 2 "java/lang/Object", .methodLink RJ7 304 Lib.Math.min.name, .static Lib.Math.min.name, .initialized "java/lang/Math", .code Lib.Math.min.name Lib.Math.min.code 2 (some .int), .methodLink RJ7 150 arraycopyName, .native arraycopyName, .static arraycopyName, .initialized "java/lang/System"])
def wsJx4a65c_grow_92f84_r1 : List Cond := [Cond.fieldLink RJx4a65c 9 "java/util/ArrayList" "elementData" "[Ljava/lang/Object;", Cond.fieldLink RJx4a65c 39 "java/util/ArrayList" "DEFAULTCAPACITY_EMPTY_ELEMENTDATA" "[Ljava/lang/Object;", Cond.methodLink RJx4a65c 79 Lib.Math.max.name, Cond.static Lib.Math.max.name, Cond.initialized "java/lang/Math", Cond.code Lib.Math.max.name Lib.Math.max.code 2 (some .int), Cond.classLink RJx4a65c 7 "java/lang/Object", Cond.methodLink RJx4a65c 73 yJ8_newLength_cabcc, Cond.static yJ8_newLength_cabcc, Cond.initialized RJ8, Cond.code yJ8_newLength_cabcc cJ8_newLength_cabcc 4 (some .int), Cond.methodLink RJ8 194 Lib.Math.max.name, Cond.constant RJ8 200 (2147483639), Cond.methodLink RJ8 201 yJ8_hugeLength_7cf53, Cond.static yJ8_hugeLength_7cf53, Cond.code yJ8_hugeLength_7cf53 cJ8_hugeLength_7cf53 3 (some .int), Cond.methodLink RJx4a65c 66 yJ7_copyOf_1904c, Cond.static yJ7_copyOf_1904c, Cond.initialized RJ7, Cond.code yJ7_copyOf_1904c cJ7_copyOf_1904c 2 (some (.array (.object "java/lang/Object"))), Cond.methodLink RJ7 86 ⟨"java/lang/Object", "getClass", "()Ljava/lang/Class;"⟩, Cond.selects "[Ljava/lang/Object;" ⟨"java/lang/Object", "getClass", "()Ljava/lang/Class;"⟩ ⟨"java/lang/Object", "getClass", "()Ljava/lang/Class;"⟩, Cond.instanceMethod ⟨"java/lang/Object", "getClass", "()Ljava/lang/Class;"⟩, Cond.native ⟨"java/lang/Object", "getClass", "()Ljava/lang/Class;"⟩]
def wsJx4a65c_grow_92f84_r2 : List Cond := [Cond.methodLink RJ7 300 yJ7_copyOf_6403c, Cond.static yJ7_copyOf_6403c, Cond.code yJ7_copyOf_6403c cJ7_copyOf_6403c 4 (some (.array (.object "java/lang/Object"))), Cond.classLink RJ7 110 "[Ljava/lang/Object;", Cond.classLink RJ7 2 "java/lang/Object", Cond.methodLink RJ7 304 Lib.Math.min.name, Cond.static Lib.Math.min.name, Cond.code Lib.Math.min.name Lib.Math.min.code 2 (some .int), Cond.methodLink RJ7 150 arraycopyName, Cond.native arraycopyName, Cond.static arraycopyName, Cond.initialized "java/lang/System"]
def wsJx4a65c_grow_92f84 : List Cond := .code yJx4a65c_grow_92f84 cJx4a65c_grow_92f84 4 (some (.array (.object "java/lang/Object"))) :: ((wsJx4a65c_grow_92f84_r1 ++ wsJx4a65c_grow_92f84_r2) ++ wsJx4a65c0)
def wsJx4a65c_grow_d5877_r1 : List Cond := [Cond.fieldLink RJx4a65c 48 "java/util/ArrayList" "size" "I", Cond.methodLink RJx4a65c 69 yJx4a65c_grow_92f84, Cond.instanceMethod yJx4a65c_grow_92f84, Cond.selects RJx4a65c yJx4a65c_grow_92f84 yJx4a65c_grow_92f84, Cond.initialized RJx4a65c, Cond.code yJx4a65c_grow_92f84 cJx4a65c_grow_92f84 4 (some (.array (.object "java/lang/Object"))), Cond.fieldLink RJx4a65c 9 "java/util/ArrayList" "elementData" "[Ljava/lang/Object;", Cond.fieldLink RJx4a65c 39 "java/util/ArrayList" "DEFAULTCAPACITY_EMPTY_ELEMENTDATA" "[Ljava/lang/Object;", Cond.methodLink RJx4a65c 79 Lib.Math.max.name, Cond.static Lib.Math.max.name, Cond.initialized "java/lang/Math", Cond.code Lib.Math.max.name Lib.Math.max.code 2 (some .int), Cond.classLink RJx4a65c 7 "java/lang/Object", Cond.methodLink RJx4a65c 73 yJ8_newLength_cabcc, Cond.static yJ8_newLength_cabcc, Cond.initialized RJ8, Cond.code yJ8_newLength_cabcc cJ8_newLength_cabcc 4 (some .int), Cond.methodLink RJ8 194 Lib.Math.max.name, Cond.constant RJ8 200 (2147483639), Cond.methodLink RJ8 201 yJ8_hugeLength_7cf53, Cond.static yJ8_hugeLength_7cf53, Cond.code yJ8_hugeLength_7cf53 cJ8_hugeLength_7cf53 3 (some .int), Cond.methodLink RJx4a65c 66 yJ7_copyOf_1904c, Cond.static yJ7_copyOf_1904c]
def wsJx4a65c_grow_d5877_r2 : List Cond := [Cond.initialized RJ7, Cond.code yJ7_copyOf_1904c cJ7_copyOf_1904c 2 (some (.array (.object "java/lang/Object"))), Cond.methodLink RJ7 86 ⟨"java/lang/Object", "getClass", "()Ljava/lang/Class;"⟩, Cond.selects "[Ljava/lang/Object;" ⟨"java/lang/Object", "getClass", "()Ljava/lang/Class;"⟩ ⟨"java/lang/Object", "getClass", "()Ljava/lang/Class;"⟩, Cond.instanceMethod ⟨"java/lang/Object", "getClass", "()Ljava/lang/Class;"⟩, Cond.native ⟨"java/lang/Object", "getClass", "()Ljava/lang/Class;"⟩, Cond.methodLink RJ7 300 yJ7_copyOf_6403c, Cond.static yJ7_copyOf_6403c, Cond.code yJ7_copyOf_6403c cJ7_copyOf_6403c 4 (some (.array (.object "java/lang/Object"))), Cond.classLink RJ7 110 "[Ljava/lang/Object;", Cond.classLink RJ7 2 "java/lang/Object", Cond.methodLink RJ7 304 Lib.Math.min.name, Cond.static Lib.Math.min.name, Cond.code Lib.Math.min.name Lib.Math.min.code 2 (some .int), Cond.methodLink RJ7 150 arraycopyName, Cond.native arraycopyName, Cond.static arraycopyName, Cond.initialized "java/lang/System"]
def wsJx4a65c_grow_d5877 : List Cond := .code yJx4a65c_grow_d5877 cJx4a65c_grow_d5877 1 (some (.array (.object "java/lang/Object"))) :: ((wsJx4a65c_grow_d5877_r1 ++ wsJx4a65c_grow_d5877_r2) ++ wsJx4a65c0)
def wsJx4a65c_add_72be8_r1 : List Cond := [Cond.fieldLink RJx4a65c 48 "java/util/ArrayList" "size" "I", Cond.methodLink RJx4a65c 129 yJx4a65c_grow_d5877, Cond.instanceMethod yJx4a65c_grow_d5877, Cond.selects RJx4a65c yJx4a65c_grow_d5877 yJx4a65c_grow_d5877, Cond.initialized RJx4a65c, Cond.code yJx4a65c_grow_d5877 cJx4a65c_grow_d5877 1 (some (.array (.object "java/lang/Object"))), Cond.methodLink RJx4a65c 69 yJx4a65c_grow_92f84, Cond.instanceMethod yJx4a65c_grow_92f84, Cond.selects RJx4a65c yJx4a65c_grow_92f84 yJx4a65c_grow_92f84, Cond.code yJx4a65c_grow_92f84 cJx4a65c_grow_92f84 4 (some (.array (.object "java/lang/Object"))), Cond.fieldLink RJx4a65c 9 "java/util/ArrayList" "elementData" "[Ljava/lang/Object;", Cond.fieldLink RJx4a65c 39 "java/util/ArrayList" "DEFAULTCAPACITY_EMPTY_ELEMENTDATA" "[Ljava/lang/Object;", Cond.methodLink RJx4a65c 79 Lib.Math.max.name, Cond.static Lib.Math.max.name, Cond.initialized "java/lang/Math", Cond.code Lib.Math.max.name Lib.Math.max.code 2 (some .int), Cond.classLink RJx4a65c 7 "java/lang/Object", Cond.methodLink RJx4a65c 73 yJ8_newLength_cabcc, Cond.static yJ8_newLength_cabcc, Cond.initialized RJ8, Cond.code yJ8_newLength_cabcc cJ8_newLength_cabcc 4 (some .int), Cond.methodLink RJ8 194 Lib.Math.max.name, Cond.constant RJ8 200 (2147483639), Cond.methodLink RJ8 201 yJ8_hugeLength_7cf53]
def wsJx4a65c_add_72be8_r2 : List Cond := [Cond.static yJ8_hugeLength_7cf53, Cond.code yJ8_hugeLength_7cf53 cJ8_hugeLength_7cf53 3 (some .int), Cond.methodLink RJx4a65c 66 yJ7_copyOf_1904c, Cond.static yJ7_copyOf_1904c, Cond.initialized RJ7, Cond.code yJ7_copyOf_1904c cJ7_copyOf_1904c 2 (some (.array (.object "java/lang/Object"))), Cond.methodLink RJ7 86 ⟨"java/lang/Object", "getClass", "()Ljava/lang/Class;"⟩, Cond.selects "[Ljava/lang/Object;" ⟨"java/lang/Object", "getClass", "()Ljava/lang/Class;"⟩ ⟨"java/lang/Object", "getClass", "()Ljava/lang/Class;"⟩, Cond.instanceMethod ⟨"java/lang/Object", "getClass", "()Ljava/lang/Class;"⟩, Cond.native ⟨"java/lang/Object", "getClass", "()Ljava/lang/Class;"⟩, Cond.methodLink RJ7 300 yJ7_copyOf_6403c, Cond.static yJ7_copyOf_6403c, Cond.code yJ7_copyOf_6403c cJ7_copyOf_6403c 4 (some (.array (.object "java/lang/Object"))), Cond.classLink RJ7 110 "[Ljava/lang/Object;", Cond.classLink RJ7 2 "java/lang/Object", Cond.methodLink RJ7 304 Lib.Math.min.name, Cond.static Lib.Math.min.name, Cond.code Lib.Math.min.name Lib.Math.min.code 2 (some .int), Cond.methodLink RJ7 150 arraycopyName, Cond.native arraycopyName, Cond.static arraycopyName, Cond.initialized "java/lang/System"]
def wsJx4a65c_add_72be8 : List Cond := .code yJx4a65c_add_72be8 cJx4a65c_add_72be8 4 none :: ((wsJx4a65c_add_72be8_r1 ++ wsJx4a65c_add_72be8_r2) ++ wsJx4a65c0)
def wsJx4a65c_add_9ea2d_r1 : List Cond := [Cond.fieldLink RJx4a65c 63 "java/util/ArrayList" "modCount" "I", Cond.sameField "java/util/ArrayList" "java/util/AbstractList" "modCount" "I", Cond.fieldLink RJx4a65c 9 "java/util/ArrayList" "elementData" "[Ljava/lang/Object;", Cond.fieldLink RJx4a65c 48 "java/util/ArrayList" "size" "I", Cond.methodLink RJx4a65c 131 yJx4a65c_add_72be8, Cond.instanceMethod yJx4a65c_add_72be8, Cond.selects RJx4a65c yJx4a65c_add_72be8 yJx4a65c_add_72be8, Cond.initialized RJx4a65c, Cond.code yJx4a65c_add_72be8 cJx4a65c_add_72be8 4 none, Cond.methodLink RJx4a65c 129 yJx4a65c_grow_d5877, Cond.instanceMethod yJx4a65c_grow_d5877, Cond.selects RJx4a65c yJx4a65c_grow_d5877 yJx4a65c_grow_d5877, Cond.code yJx4a65c_grow_d5877 cJx4a65c_grow_d5877 1 (some (.array (.object "java/lang/Object"))), Cond.methodLink RJx4a65c 69 yJx4a65c_grow_92f84, Cond.instanceMethod yJx4a65c_grow_92f84, Cond.selects RJx4a65c yJx4a65c_grow_92f84 yJx4a65c_grow_92f84, Cond.code yJx4a65c_grow_92f84 cJx4a65c_grow_92f84 4 (some (.array (.object "java/lang/Object"))), Cond.fieldLink RJx4a65c 39 "java/util/ArrayList" "DEFAULTCAPACITY_EMPTY_ELEMENTDATA" "[Ljava/lang/Object;", Cond.methodLink RJx4a65c 79 Lib.Math.max.name, Cond.static Lib.Math.max.name, Cond.initialized "java/lang/Math", Cond.code Lib.Math.max.name Lib.Math.max.code 2 (some .int), Cond.classLink RJx4a65c 7 "java/lang/Object", Cond.methodLink RJx4a65c 73 yJ8_newLength_cabcc]
def wsJx4a65c_add_9ea2d_r2 : List Cond := [Cond.static yJ8_newLength_cabcc, Cond.initialized RJ8, Cond.code yJ8_newLength_cabcc cJ8_newLength_cabcc 4 (some .int), Cond.methodLink RJ8 194 Lib.Math.max.name, Cond.constant RJ8 200 (2147483639), Cond.methodLink RJ8 201 yJ8_hugeLength_7cf53, Cond.static yJ8_hugeLength_7cf53, Cond.code yJ8_hugeLength_7cf53 cJ8_hugeLength_7cf53 3 (some .int), Cond.methodLink RJx4a65c 66 yJ7_copyOf_1904c, Cond.static yJ7_copyOf_1904c, Cond.initialized RJ7, Cond.code yJ7_copyOf_1904c cJ7_copyOf_1904c 2 (some (.array (.object "java/lang/Object"))), Cond.methodLink RJ7 86 ⟨"java/lang/Object", "getClass", "()Ljava/lang/Class;"⟩, Cond.selects "[Ljava/lang/Object;" ⟨"java/lang/Object", "getClass", "()Ljava/lang/Class;"⟩ ⟨"java/lang/Object", "getClass", "()Ljava/lang/Class;"⟩, Cond.instanceMethod ⟨"java/lang/Object", "getClass", "()Ljava/lang/Class;"⟩, Cond.native ⟨"java/lang/Object", "getClass", "()Ljava/lang/Class;"⟩, Cond.methodLink RJ7 300 yJ7_copyOf_6403c, Cond.static yJ7_copyOf_6403c, Cond.code yJ7_copyOf_6403c cJ7_copyOf_6403c 4 (some (.array (.object "java/lang/Object"))), Cond.classLink RJ7 110 "[Ljava/lang/Object;", Cond.classLink RJ7 2 "java/lang/Object", Cond.methodLink RJ7 304 Lib.Math.min.name, Cond.static Lib.Math.min.name, Cond.code Lib.Math.min.name Lib.Math.min.code 2 (some .int)]
def wsJx4a65c_add_9ea2d_r3 : List Cond := [Cond.methodLink RJ7 150 arraycopyName, Cond.native arraycopyName, Cond.static arraycopyName, Cond.initialized "java/lang/System"]
def wsJx4a65c_add_9ea2d : List Cond := .code yJx4a65c_add_9ea2d cJx4a65c_add_9ea2d 2 (some .boolean) :: ((wsJx4a65c_add_9ea2d_r1 ++ (wsJx4a65c_add_9ea2d_r2 ++ wsJx4a65c_add_9ea2d_r3)) ++ wsJx4a65c0)
def wsX1_put_r1 : List Cond := [Cond.fieldLink RX1 22 "DryingKiln$Load" "boards" "Ljava/util/ArrayList;", Cond.methodLink RX1 36 yJx4a65c_add_9ea2d, Cond.instanceMethod yJx4a65c_add_9ea2d, Cond.selects RJx4a65c yJx4a65c_add_9ea2d yJx4a65c_add_9ea2d, Cond.initialized RJx4a65c, Cond.code yJx4a65c_add_9ea2d cJx4a65c_add_9ea2d 2 (some .boolean), Cond.fieldLink RJx4a65c 63 "java/util/ArrayList" "modCount" "I", Cond.sameField "java/util/ArrayList" "java/util/AbstractList" "modCount" "I", Cond.fieldLink RJx4a65c 9 "java/util/ArrayList" "elementData" "[Ljava/lang/Object;", Cond.fieldLink RJx4a65c 48 "java/util/ArrayList" "size" "I", Cond.methodLink RJx4a65c 131 yJx4a65c_add_72be8, Cond.instanceMethod yJx4a65c_add_72be8, Cond.selects RJx4a65c yJx4a65c_add_72be8 yJx4a65c_add_72be8, Cond.code yJx4a65c_add_72be8 cJx4a65c_add_72be8 4 none, Cond.methodLink RJx4a65c 129 yJx4a65c_grow_d5877, Cond.instanceMethod yJx4a65c_grow_d5877, Cond.selects RJx4a65c yJx4a65c_grow_d5877 yJx4a65c_grow_d5877, Cond.code yJx4a65c_grow_d5877 cJx4a65c_grow_d5877 1 (some (.array (.object "java/lang/Object"))), Cond.methodLink RJx4a65c 69 yJx4a65c_grow_92f84, Cond.instanceMethod yJx4a65c_grow_92f84, Cond.selects RJx4a65c yJx4a65c_grow_92f84 yJx4a65c_grow_92f84, Cond.code yJx4a65c_grow_92f84 cJx4a65c_grow_92f84 4 (some (.array (.object "java/lang/Object"))), Cond.fieldLink RJx4a65c 39 "java/util/ArrayList" "DEFAULTCAPACITY_EMPTY_ELEMENTDATA" "[Ljava/lang/Object;", Cond.methodLink RJx4a65c 79 Lib.Math.max.name]
def wsX1_put_r2 : List Cond := [Cond.static Lib.Math.max.name, Cond.initialized "java/lang/Math", Cond.code Lib.Math.max.name Lib.Math.max.code 2 (some .int), Cond.classLink RJx4a65c 7 "java/lang/Object", Cond.methodLink RJx4a65c 73 yJ8_newLength_cabcc, Cond.static yJ8_newLength_cabcc, Cond.initialized RJ8, Cond.code yJ8_newLength_cabcc cJ8_newLength_cabcc 4 (some .int), Cond.methodLink RJ8 194 Lib.Math.max.name, Cond.constant RJ8 200 (2147483639), Cond.methodLink RJ8 201 yJ8_hugeLength_7cf53, Cond.static yJ8_hugeLength_7cf53, Cond.code yJ8_hugeLength_7cf53 cJ8_hugeLength_7cf53 3 (some .int), Cond.methodLink RJx4a65c 66 yJ7_copyOf_1904c, Cond.static yJ7_copyOf_1904c, Cond.initialized RJ7, Cond.code yJ7_copyOf_1904c cJ7_copyOf_1904c 2 (some (.array (.object "java/lang/Object"))), Cond.methodLink RJ7 86 ⟨"java/lang/Object", "getClass", "()Ljava/lang/Class;"⟩, Cond.selects "[Ljava/lang/Object;" ⟨"java/lang/Object", "getClass", "()Ljava/lang/Class;"⟩ ⟨"java/lang/Object", "getClass", "()Ljava/lang/Class;"⟩, Cond.instanceMethod ⟨"java/lang/Object", "getClass", "()Ljava/lang/Class;"⟩, Cond.native ⟨"java/lang/Object", "getClass", "()Ljava/lang/Class;"⟩, Cond.methodLink RJ7 300 yJ7_copyOf_6403c, Cond.static yJ7_copyOf_6403c, Cond.code yJ7_copyOf_6403c cJ7_copyOf_6403c 4 (some (.array (.object "java/lang/Object")))]
def wsX1_put_r3 : List Cond := [Cond.classLink RJ7 110 "[Ljava/lang/Object;", Cond.classLink RJ7 2 "java/lang/Object", Cond.methodLink RJ7 304 Lib.Math.min.name, Cond.static Lib.Math.min.name, Cond.code Lib.Math.min.name Lib.Math.min.code 2 (some .int), Cond.methodLink RJ7 150 arraycopyName, Cond.native arraycopyName, Cond.static arraycopyName, Cond.initialized "java/lang/System"]
def wsX1_put : List Cond := .code yX1_put cX1_put 2 none :: ((wsX1_put_r1 ++ (wsX1_put_r2 ++ wsX1_put_r3)) ++ wsX10 ++ wsJx4a65c0)
def wsX1_copyFrom_r1 : List Cond := [Cond.fieldLink RX1 22 "DryingKiln$Load" "boards" "Ljava/util/ArrayList;", Cond.classLink RX1 34 "DryingKiln$Board", Cond.fieldLink RX1 9 "DryingKiln$Load" "reversed" "Z", Cond.fieldLink RX1 15 "DryingKiln$Load" "dryingHours" "I", Cond.methodLink RX1 26 yJx4a65c_size_8abf5, Cond.instanceMethod yJx4a65c_size_8abf5, Cond.selects RJx4a65c yJx4a65c_size_8abf5 yJx4a65c_size_8abf5, Cond.initialized RJx4a65c, Cond.code yJx4a65c_size_8abf5 cJx4a65c_size_8abf5 1 (some .int), Cond.fieldLink RJx4a65c 48 "java/util/ArrayList" "size" "I", Cond.methodLink RX1 30 yJx4a65c_get_915e3, Cond.instanceMethod yJx4a65c_get_915e3, Cond.selects RJx4a65c yJx4a65c_get_915e3 yJx4a65c_get_915e3, Cond.code yJx4a65c_get_915e3 cJx4a65c_get_915e3 2 (some (.object "java/lang/Object")), Cond.methodLink RJx4a65c 118 yJ15_checkIndex_7cf53, Cond.static yJ15_checkIndex_7cf53, Cond.initialized RJ15, Cond.code yJ15_checkIndex_7cf53 cJ15_checkIndex_7cf53 2 (some .int), Cond.methodLink RJ15 105 yJ3_checkIndex_8e157, Cond.static yJ3_checkIndex_8e157, Cond.initialized RJ3, Cond.code yJ3_checkIndex_8e157 cJ3_checkIndex_8e157 3 (some .int), Cond.methodLink RJx4a65c 123 yJx4a65c_elementData_915e3, Cond.instanceMethod yJx4a65c_elementData_915e3]
def wsX1_copyFrom_r2 : List Cond := [Cond.selects RJx4a65c yJx4a65c_elementData_915e3 yJx4a65c_elementData_915e3, Cond.code yJx4a65c_elementData_915e3 cJx4a65c_elementData_915e3 2 (some (.object "java/lang/Object")), Cond.fieldLink RJx4a65c 9 "java/util/ArrayList" "elementData" "[Ljava/lang/Object;", Cond.methodLink RX1 40 yX0_copyMoistureFrom, Cond.instanceMethod yX0_copyMoistureFrom, Cond.selects RX0 yX0_copyMoistureFrom yX0_copyMoistureFrom, Cond.initialized RX0, Cond.code yX0_copyMoistureFrom cX0_copyMoistureFrom 3 none, Cond.fieldLink RX0 19 "DryingKiln$Board" "moisture" "[I", Cond.methodLink RX0 42 Lib.Math.min.name, Cond.static Lib.Math.min.name, Cond.initialized "java/lang/Math", Cond.code Lib.Math.min.name Lib.Math.min.code 2 (some .int), Cond.methodLink RX0 57 arraycopyName, Cond.native arraycopyName, Cond.static arraycopyName, Cond.initialized "java/lang/System"]
def wsX1_copyFrom : List Cond := .code yX1_copyFrom cX1_copyFrom 3 none :: ((wsX1_copyFrom_r1 ++ wsX1_copyFrom_r2) ++ wsX10 ++ wsJx4a65c0 ++ wsX00)
def wsX1_water_r1 : List Cond := [Cond.fieldLink RX1 22 "DryingKiln$Load" "boards" "Ljava/util/ArrayList;", Cond.classLink RX1 34 "DryingKiln$Board", Cond.methodLink RX1 26 yJx4a65c_size_8abf5, Cond.instanceMethod yJx4a65c_size_8abf5, Cond.selects RJx4a65c yJx4a65c_size_8abf5 yJx4a65c_size_8abf5, Cond.initialized RJx4a65c, Cond.code yJx4a65c_size_8abf5 cJx4a65c_size_8abf5 1 (some .int), Cond.fieldLink RJx4a65c 48 "java/util/ArrayList" "size" "I", Cond.methodLink RX1 30 yJx4a65c_get_915e3, Cond.instanceMethod yJx4a65c_get_915e3, Cond.selects RJx4a65c yJx4a65c_get_915e3 yJx4a65c_get_915e3, Cond.code yJx4a65c_get_915e3 cJx4a65c_get_915e3 2 (some (.object "java/lang/Object")), Cond.methodLink RJx4a65c 118 yJ15_checkIndex_7cf53, Cond.static yJ15_checkIndex_7cf53, Cond.initialized RJ15, Cond.code yJ15_checkIndex_7cf53 cJ15_checkIndex_7cf53 2 (some .int), Cond.methodLink RJ15 105 yJ3_checkIndex_8e157, Cond.static yJ3_checkIndex_8e157, Cond.initialized RJ3, Cond.code yJ3_checkIndex_8e157 cJ3_checkIndex_8e157 3 (some .int), Cond.methodLink RJx4a65c 123 yJx4a65c_elementData_915e3, Cond.instanceMethod yJx4a65c_elementData_915e3, Cond.selects RJx4a65c yJx4a65c_elementData_915e3 yJx4a65c_elementData_915e3, Cond.code yJx4a65c_elementData_915e3 cJx4a65c_elementData_915e3 2 (some (.object "java/lang/Object"))]
def wsX1_water_r2 : List Cond := [Cond.fieldLink RJx4a65c 9 "java/util/ArrayList" "elementData" "[Ljava/lang/Object;", Cond.methodLink RX1 44 yX0_water, Cond.instanceMethod yX0_water, Cond.selects RX0 yX0_water yX0_water, Cond.initialized RX0, Cond.code yX0_water cX0_water 3 (some .int), Cond.fieldLink RX0 19 "DryingKiln$Board" "moisture" "[I"]
def wsX1_water : List Cond := .code yX1_water cX1_water 3 (some .int) :: ((wsX1_water_r1 ++ wsX1_water_r2) ++ wsX10 ++ wsJx4a65c0 ++ wsX00)
def wsX1_wettest_r1 : List Cond := [Cond.constant RX1 47 (-1000005), Cond.fieldLink RX1 22 "DryingKiln$Load" "boards" "Ljava/util/ArrayList;", Cond.classLink RX1 34 "DryingKiln$Board", Cond.methodLink RX1 26 yJx4a65c_size_8abf5, Cond.instanceMethod yJx4a65c_size_8abf5, Cond.selects RJx4a65c yJx4a65c_size_8abf5 yJx4a65c_size_8abf5, Cond.initialized RJx4a65c, Cond.code yJx4a65c_size_8abf5 cJx4a65c_size_8abf5 1 (some .int), Cond.fieldLink RJx4a65c 48 "java/util/ArrayList" "size" "I", Cond.methodLink RX1 30 yJx4a65c_get_915e3, Cond.instanceMethod yJx4a65c_get_915e3, Cond.selects RJx4a65c yJx4a65c_get_915e3 yJx4a65c_get_915e3, Cond.code yJx4a65c_get_915e3 cJx4a65c_get_915e3 2 (some (.object "java/lang/Object")), Cond.methodLink RJx4a65c 118 yJ15_checkIndex_7cf53, Cond.static yJ15_checkIndex_7cf53, Cond.initialized RJ15, Cond.code yJ15_checkIndex_7cf53 cJ15_checkIndex_7cf53 2 (some .int), Cond.methodLink RJ15 105 yJ3_checkIndex_8e157, Cond.static yJ3_checkIndex_8e157, Cond.initialized RJ3, Cond.code yJ3_checkIndex_8e157 cJ3_checkIndex_8e157 3 (some .int), Cond.methodLink RJx4a65c 123 yJx4a65c_elementData_915e3, Cond.instanceMethod yJx4a65c_elementData_915e3, Cond.selects RJx4a65c yJx4a65c_elementData_915e3 yJx4a65c_elementData_915e3]
def wsX1_wettest_r2 : List Cond := [Cond.code yJx4a65c_elementData_915e3 cJx4a65c_elementData_915e3 2 (some (.object "java/lang/Object")), Cond.fieldLink RJx4a65c 9 "java/util/ArrayList" "elementData" "[Ljava/lang/Object;", Cond.methodLink RX1 48 yX0_average, Cond.instanceMethod yX0_average, Cond.selects RX0 yX0_average yX0_average, Cond.initialized RX0, Cond.code yX0_average cX0_average 1 (some .int), Cond.fieldLink RX0 19 "DryingKiln$Board" "moisture" "[I", Cond.methodLink RX0 29 yX0_water, Cond.instanceMethod yX0_water, Cond.selects RX0 yX0_water yX0_water, Cond.code yX0_water cX0_water 3 (some .int), Cond.static yX4_quotient, Cond.initialized RX4, Cond.code yX4_quotient cX4_quotient 2 (some .int)]
def wsX1_wettest : List Cond := .code yX1_wettest cX1_wettest 5 (some .int) :: ((wsX1_wettest_r1 ++ wsX1_wettest_r2) ++ wsX10 ++ wsJx4a65c0 ++ wsX00)
def wsX1_greatestAverage_r1 : List Cond := [Cond.fieldLink RX1 22 "DryingKiln$Load" "boards" "Ljava/util/ArrayList;", Cond.classLink RX1 34 "DryingKiln$Board", Cond.methodLink RX1 51 Lib.Math.max.name, Cond.static Lib.Math.max.name, Cond.initialized "java/lang/Math", Cond.code Lib.Math.max.name Lib.Math.max.code 2 (some .int), Cond.methodLink RX1 26 yJx4a65c_size_8abf5, Cond.instanceMethod yJx4a65c_size_8abf5, Cond.selects RJx4a65c yJx4a65c_size_8abf5 yJx4a65c_size_8abf5, Cond.initialized RJx4a65c, Cond.code yJx4a65c_size_8abf5 cJx4a65c_size_8abf5 1 (some .int), Cond.fieldLink RJx4a65c 48 "java/util/ArrayList" "size" "I", Cond.methodLink RX1 30 yJx4a65c_get_915e3, Cond.instanceMethod yJx4a65c_get_915e3, Cond.selects RJx4a65c yJx4a65c_get_915e3 yJx4a65c_get_915e3, Cond.code yJx4a65c_get_915e3 cJx4a65c_get_915e3 2 (some (.object "java/lang/Object")), Cond.methodLink RJx4a65c 118 yJ15_checkIndex_7cf53, Cond.static yJ15_checkIndex_7cf53, Cond.initialized RJ15, Cond.code yJ15_checkIndex_7cf53 cJ15_checkIndex_7cf53 2 (some .int), Cond.methodLink RJ15 105 yJ3_checkIndex_8e157, Cond.static yJ3_checkIndex_8e157, Cond.initialized RJ3, Cond.code yJ3_checkIndex_8e157 cJ3_checkIndex_8e157 3 (some .int)]
def wsX1_greatestAverage_r2 : List Cond := [Cond.methodLink RJx4a65c 123 yJx4a65c_elementData_915e3, Cond.instanceMethod yJx4a65c_elementData_915e3, Cond.selects RJx4a65c yJx4a65c_elementData_915e3 yJx4a65c_elementData_915e3, Cond.code yJx4a65c_elementData_915e3 cJx4a65c_elementData_915e3 2 (some (.object "java/lang/Object")), Cond.fieldLink RJx4a65c 9 "java/util/ArrayList" "elementData" "[Ljava/lang/Object;", Cond.methodLink RX1 48 yX0_average, Cond.instanceMethod yX0_average, Cond.selects RX0 yX0_average yX0_average, Cond.initialized RX0, Cond.code yX0_average cX0_average 1 (some .int), Cond.fieldLink RX0 19 "DryingKiln$Board" "moisture" "[I", Cond.methodLink RX0 29 yX0_water, Cond.instanceMethod yX0_water, Cond.selects RX0 yX0_water yX0_water, Cond.code yX0_water cX0_water 3 (some .int), Cond.static yX4_quotient, Cond.initialized RX4, Cond.code yX4_quotient cX4_quotient 2 (some .int)]
def wsX1_greatestAverage : List Cond := .code yX1_greatestAverage cX1_greatestAverage 3 (some .int) :: ((wsX1_greatestAverage_r1 ++ wsX1_greatestAverage_r2) ++ wsX10 ++ wsJx4a65c0 ++ wsX00)
def wsX1_isWetterThan_r1 : List Cond := [Cond.methodLink RX1 57 yX1_greatestAverage, Cond.instanceMethod yX1_greatestAverage, Cond.selects RX1 yX1_greatestAverage yX1_greatestAverage, Cond.initialized RX1, Cond.code yX1_greatestAverage cX1_greatestAverage 3 (some .int), Cond.fieldLink RX1 22 "DryingKiln$Load" "boards" "Ljava/util/ArrayList;", Cond.classLink RX1 34 "DryingKiln$Board", Cond.methodLink RX1 51 Lib.Math.max.name, Cond.static Lib.Math.max.name, Cond.initialized "java/lang/Math", Cond.code Lib.Math.max.name Lib.Math.max.code 2 (some .int), Cond.methodLink RX1 26 yJx4a65c_size_8abf5, Cond.instanceMethod yJx4a65c_size_8abf5, Cond.selects RJx4a65c yJx4a65c_size_8abf5 yJx4a65c_size_8abf5, Cond.initialized RJx4a65c, Cond.code yJx4a65c_size_8abf5 cJx4a65c_size_8abf5 1 (some .int), Cond.fieldLink RJx4a65c 48 "java/util/ArrayList" "size" "I", Cond.methodLink RX1 30 yJx4a65c_get_915e3, Cond.instanceMethod yJx4a65c_get_915e3, Cond.selects RJx4a65c yJx4a65c_get_915e3 yJx4a65c_get_915e3, Cond.code yJx4a65c_get_915e3 cJx4a65c_get_915e3 2 (some (.object "java/lang/Object")), Cond.methodLink RJx4a65c 118 yJ15_checkIndex_7cf53, Cond.static yJ15_checkIndex_7cf53, Cond.initialized RJ15]
def wsX1_isWetterThan_r2 : List Cond := [Cond.code yJ15_checkIndex_7cf53 cJ15_checkIndex_7cf53 2 (some .int), Cond.methodLink RJ15 105 yJ3_checkIndex_8e157, Cond.static yJ3_checkIndex_8e157, Cond.initialized RJ3, Cond.code yJ3_checkIndex_8e157 cJ3_checkIndex_8e157 3 (some .int), Cond.methodLink RJx4a65c 123 yJx4a65c_elementData_915e3, Cond.instanceMethod yJx4a65c_elementData_915e3, Cond.selects RJx4a65c yJx4a65c_elementData_915e3 yJx4a65c_elementData_915e3, Cond.code yJx4a65c_elementData_915e3 cJx4a65c_elementData_915e3 2 (some (.object "java/lang/Object")), Cond.fieldLink RJx4a65c 9 "java/util/ArrayList" "elementData" "[Ljava/lang/Object;", Cond.methodLink RX1 48 yX0_average, Cond.instanceMethod yX0_average, Cond.selects RX0 yX0_average yX0_average, Cond.initialized RX0, Cond.code yX0_average cX0_average 1 (some .int), Cond.fieldLink RX0 19 "DryingKiln$Board" "moisture" "[I", Cond.methodLink RX0 29 yX0_water, Cond.instanceMethod yX0_water, Cond.selects RX0 yX0_water yX0_water, Cond.code yX0_water cX0_water 3 (some .int), Cond.static yX4_quotient, Cond.initialized RX4, Cond.code yX4_quotient cX4_quotient 2 (some .int)]
def wsX1_isWetterThan : List Cond := .code yX1_isWetterThan cX1_isWetterThan 2 (some .boolean) :: ((wsX1_isWetterThan_r1 ++ wsX1_isWetterThan_r2) ++ wsX10 ++ wsJx4a65c0 ++ wsX00)
def wsX1_greatestGradient_r1 : List Cond := [Cond.fieldLink RX1 22 "DryingKiln$Load" "boards" "Ljava/util/ArrayList;", Cond.classLink RX1 34 "DryingKiln$Board", Cond.methodLink RX1 51 Lib.Math.max.name, Cond.static Lib.Math.max.name, Cond.initialized "java/lang/Math", Cond.code Lib.Math.max.name Lib.Math.max.code 2 (some .int), Cond.methodLink RX1 26 yJx4a65c_size_8abf5, Cond.instanceMethod yJx4a65c_size_8abf5, Cond.selects RJx4a65c yJx4a65c_size_8abf5 yJx4a65c_size_8abf5, Cond.initialized RJx4a65c, Cond.code yJx4a65c_size_8abf5 cJx4a65c_size_8abf5 1 (some .int), Cond.fieldLink RJx4a65c 48 "java/util/ArrayList" "size" "I", Cond.methodLink RX1 30 yJx4a65c_get_915e3, Cond.instanceMethod yJx4a65c_get_915e3, Cond.selects RJx4a65c yJx4a65c_get_915e3 yJx4a65c_get_915e3, Cond.code yJx4a65c_get_915e3 cJx4a65c_get_915e3 2 (some (.object "java/lang/Object")), Cond.methodLink RJx4a65c 118 yJ15_checkIndex_7cf53, Cond.static yJ15_checkIndex_7cf53, Cond.initialized RJ15, Cond.code yJ15_checkIndex_7cf53 cJ15_checkIndex_7cf53 2 (some .int), Cond.methodLink RJ15 105 yJ3_checkIndex_8e157, Cond.static yJ3_checkIndex_8e157, Cond.initialized RJ3, Cond.code yJ3_checkIndex_8e157 cJ3_checkIndex_8e157 3 (some .int)]
def wsX1_greatestGradient_r2 : List Cond := [Cond.methodLink RJx4a65c 123 yJx4a65c_elementData_915e3, Cond.instanceMethod yJx4a65c_elementData_915e3, Cond.selects RJx4a65c yJx4a65c_elementData_915e3 yJx4a65c_elementData_915e3, Cond.code yJx4a65c_elementData_915e3 cJx4a65c_elementData_915e3 2 (some (.object "java/lang/Object")), Cond.fieldLink RJx4a65c 9 "java/util/ArrayList" "elementData" "[Ljava/lang/Object;", Cond.methodLink RX1 60 yX0_gradient, Cond.instanceMethod yX0_gradient, Cond.selects RX0 yX0_gradient yX0_gradient, Cond.initialized RX0, Cond.code yX0_gradient cX0_gradient 3 (some .int), Cond.fieldLink RX0 19 "DryingKiln$Board" "moisture" "[I", Cond.methodLink RX0 37 Lib.Math.max.name, Cond.methodLink RX0 42 Lib.Math.min.name, Cond.static Lib.Math.min.name, Cond.code Lib.Math.min.name Lib.Math.min.code 2 (some .int)]
def wsX1_greatestGradient : List Cond := .code yX1_greatestGradient cX1_greatestGradient 3 (some .int) :: ((wsX1_greatestGradient_r1 ++ wsX1_greatestGradient_r2) ++ wsX10 ++ wsJx4a65c0 ++ wsX00)
def wsJ6_bitCount_0f7a4 : List Cond := .code yJ6_bitCount_0f7a4 cJ6_bitCount_0f7a4 1 (some .int) :: ([.constant RJ6 265 (1431655765), .constant RJ6 266 (858993459), .constant RJ6 267 (252645135)])
def wsX1_meanOf_r1 : List Cond := [Cond.fieldLink RX1 22 "DryingKiln$Load" "boards" "Ljava/util/ArrayList;", Cond.classLink RX1 34 "DryingKiln$Board", Cond.methodLink RX1 26 yJx4a65c_size_8abf5, Cond.instanceMethod yJx4a65c_size_8abf5, Cond.selects RJx4a65c yJx4a65c_size_8abf5 yJx4a65c_size_8abf5, Cond.initialized RJx4a65c, Cond.code yJx4a65c_size_8abf5 cJx4a65c_size_8abf5 1 (some .int), Cond.fieldLink RJx4a65c 48 "java/util/ArrayList" "size" "I", Cond.methodLink RX1 30 yJx4a65c_get_915e3, Cond.instanceMethod yJx4a65c_get_915e3, Cond.selects RJx4a65c yJx4a65c_get_915e3 yJx4a65c_get_915e3, Cond.code yJx4a65c_get_915e3 cJx4a65c_get_915e3 2 (some (.object "java/lang/Object")), Cond.methodLink RJx4a65c 118 yJ15_checkIndex_7cf53, Cond.static yJ15_checkIndex_7cf53, Cond.initialized RJ15, Cond.code yJ15_checkIndex_7cf53 cJ15_checkIndex_7cf53 2 (some .int), Cond.methodLink RJ15 105 yJ3_checkIndex_8e157, Cond.static yJ3_checkIndex_8e157, Cond.initialized RJ3, Cond.code yJ3_checkIndex_8e157 cJ3_checkIndex_8e157 3 (some .int), Cond.methodLink RJx4a65c 123 yJx4a65c_elementData_915e3, Cond.instanceMethod yJx4a65c_elementData_915e3, Cond.selects RJx4a65c yJx4a65c_elementData_915e3 yJx4a65c_elementData_915e3, Cond.code yJx4a65c_elementData_915e3 cJx4a65c_elementData_915e3 2 (some (.object "java/lang/Object"))]
def wsX1_meanOf_r2 : List Cond := [Cond.fieldLink RJx4a65c 9 "java/util/ArrayList" "elementData" "[Ljava/lang/Object;", Cond.methodLink RX1 48 yX0_average, Cond.instanceMethod yX0_average, Cond.selects RX0 yX0_average yX0_average, Cond.initialized RX0, Cond.code yX0_average cX0_average 1 (some .int), Cond.fieldLink RX0 19 "DryingKiln$Board" "moisture" "[I", Cond.methodLink RX0 29 yX0_water, Cond.instanceMethod yX0_water, Cond.selects RX0 yX0_water yX0_water, Cond.code yX0_water cX0_water 3 (some .int), Cond.static yX4_quotient, Cond.initialized RX4, Cond.code yX4_quotient cX4_quotient 2 (some .int), Cond.methodLink RX1 63 yJ6_bitCount_0f7a4, Cond.static yJ6_bitCount_0f7a4, Cond.initialized RJ6, Cond.code yJ6_bitCount_0f7a4 cJ6_bitCount_0f7a4 1 (some .int), Cond.constant RJ6 265 (1431655765), Cond.constant RJ6 266 (858993459), Cond.constant RJ6 267 (252645135)]
def wsX1_meanOf : List Cond := .code yX1_meanOf cX1_meanOf 4 (some .int) :: ((wsX1_meanOf_r1 ++ wsX1_meanOf_r2) ++ wsX10 ++ wsJx4a65c0 ++ wsX00)
def wsX1_countDryingHour : List Cond := .code yX1_countDryingHour cX1_countDryingHour 2 none :: ([.fieldLink RX1 15 "DryingKiln$Load" "dryingHours" "I", .fieldLink RX1 9 "DryingKiln$Load" "reversed" "Z"] ++ wsX10)
def wsX1_passDryingHour_r1 : List Cond := [Cond.fieldLink RX1 22 "DryingKiln$Load" "boards" "Ljava/util/ArrayList;", Cond.fieldLink RX1 9 "DryingKiln$Load" "reversed" "Z", Cond.fieldLink RX1 72 "DryingKiln$Settings" "capacity" "I", Cond.methodLink RX1 51 Lib.Math.max.name, Cond.static Lib.Math.max.name, Cond.initialized "java/lang/Math", Cond.code Lib.Math.max.name Lib.Math.max.code 2 (some .int), Cond.classLink RX1 34 "DryingKiln$Board", Cond.fieldLink RX1 81 "DryingKiln$Settings" "reversalPeriod" "I", Cond.methodLink RX1 26 yJx4a65c_size_8abf5, Cond.instanceMethod yJx4a65c_size_8abf5, Cond.selects RJx4a65c yJx4a65c_size_8abf5 yJx4a65c_size_8abf5, Cond.initialized RJx4a65c, Cond.code yJx4a65c_size_8abf5 cJx4a65c_size_8abf5 1 (some .int), Cond.fieldLink RJx4a65c 48 "java/util/ArrayList" "size" "I", Cond.static yX4_quotient, Cond.initialized RX4, Cond.code yX4_quotient cX4_quotient 2 (some .int), Cond.methodLink RX1 30 yJx4a65c_get_915e3, Cond.instanceMethod yJx4a65c_get_915e3, Cond.selects RJx4a65c yJx4a65c_get_915e3 yJx4a65c_get_915e3, Cond.code yJx4a65c_get_915e3 cJx4a65c_get_915e3 2 (some (.object "java/lang/Object")), Cond.methodLink RJx4a65c 118 yJ15_checkIndex_7cf53, Cond.static yJ15_checkIndex_7cf53]
def wsX1_passDryingHour_r2 : List Cond := [Cond.initialized RJ15, Cond.code yJ15_checkIndex_7cf53 cJ15_checkIndex_7cf53 2 (some .int), Cond.methodLink RJ15 105 yJ3_checkIndex_8e157, Cond.static yJ3_checkIndex_8e157, Cond.initialized RJ3, Cond.code yJ3_checkIndex_8e157 cJ3_checkIndex_8e157 3 (some .int), Cond.methodLink RJx4a65c 123 yJx4a65c_elementData_915e3, Cond.instanceMethod yJx4a65c_elementData_915e3, Cond.selects RJx4a65c yJx4a65c_elementData_915e3 yJx4a65c_elementData_915e3, Cond.code yJx4a65c_elementData_915e3 cJx4a65c_elementData_915e3 2 (some (.object "java/lang/Object")), Cond.fieldLink RJx4a65c 9 "java/util/ArrayList" "elementData" "[Ljava/lang/Object;", Cond.methodLink RX1 77 yX0_passDryingHour, Cond.instanceMethod yX0_passDryingHour, Cond.selects RX0 yX0_passDryingHour yX0_passDryingHour, Cond.initialized RX0, Cond.code yX0_passDryingHour cX0_passDryingHour 5 (some .int), Cond.fieldLink RX0 16 "DryingKiln$Board" "air" "I", Cond.fieldLink RX0 19 "DryingKiln$Board" "moisture" "[I", Cond.fieldLink RX0 45 "DryingKiln$Settings" "surface" "I", Cond.fieldLink RX0 50 "DryingKiln$Settings" "diffusion" "I", Cond.methodLink RX0 53 yX0_applyFlows, Cond.instanceMethod yX0_applyFlows, Cond.selects RX0 yX0_applyFlows yX0_applyFlows, Cond.code yX0_applyFlows cX0_applyFlows 7 none]
def wsX1_passDryingHour_r3 : List Cond := [Cond.methodLink RX1 84 yX1_countDryingHour, Cond.instanceMethod yX1_countDryingHour, Cond.selects RX1 yX1_countDryingHour yX1_countDryingHour, Cond.initialized RX1, Cond.code yX1_countDryingHour cX1_countDryingHour 2 none, Cond.fieldLink RX1 15 "DryingKiln$Load" "dryingHours" "I"]
def wsX1_passDryingHour : List Cond := .code yX1_passDryingHour cX1_passDryingHour 7 (some .int) :: ((wsX1_passDryingHour_r1 ++ (wsX1_passDryingHour_r2 ++ wsX1_passDryingHour_r3)) ++ wsX10 ++ wsX30 ++ wsJx4a65c0 ++ wsX00)
def wsX1_passRestHour_r1 : List Cond := [Cond.fieldLink RX1 22 "DryingKiln$Load" "boards" "Ljava/util/ArrayList;", Cond.classLink RX1 34 "DryingKiln$Board", Cond.fieldLink RX1 88 "DryingKiln$Settings" "diffusion" "I", Cond.methodLink RX1 26 yJx4a65c_size_8abf5, Cond.instanceMethod yJx4a65c_size_8abf5, Cond.selects RJx4a65c yJx4a65c_size_8abf5 yJx4a65c_size_8abf5, Cond.initialized RJx4a65c, Cond.code yJx4a65c_size_8abf5 cJx4a65c_size_8abf5 1 (some .int), Cond.fieldLink RJx4a65c 48 "java/util/ArrayList" "size" "I", Cond.methodLink RX1 30 yJx4a65c_get_915e3, Cond.instanceMethod yJx4a65c_get_915e3, Cond.selects RJx4a65c yJx4a65c_get_915e3 yJx4a65c_get_915e3, Cond.code yJx4a65c_get_915e3 cJx4a65c_get_915e3 2 (some (.object "java/lang/Object")), Cond.methodLink RJx4a65c 118 yJ15_checkIndex_7cf53, Cond.static yJ15_checkIndex_7cf53, Cond.initialized RJ15, Cond.code yJ15_checkIndex_7cf53 cJ15_checkIndex_7cf53 2 (some .int), Cond.methodLink RJ15 105 yJ3_checkIndex_8e157, Cond.static yJ3_checkIndex_8e157, Cond.initialized RJ3, Cond.code yJ3_checkIndex_8e157 cJ3_checkIndex_8e157 3 (some .int), Cond.methodLink RJx4a65c 123 yJx4a65c_elementData_915e3, Cond.instanceMethod yJx4a65c_elementData_915e3, Cond.selects RJx4a65c yJx4a65c_elementData_915e3 yJx4a65c_elementData_915e3]
def wsX1_passRestHour_r2 : List Cond := [Cond.code yJx4a65c_elementData_915e3 cJx4a65c_elementData_915e3 2 (some (.object "java/lang/Object")), Cond.fieldLink RJx4a65c 9 "java/util/ArrayList" "elementData" "[Ljava/lang/Object;", Cond.methodLink RX1 91 yX0_passRestHour, Cond.instanceMethod yX0_passRestHour, Cond.selects RX0 yX0_passRestHour yX0_passRestHour, Cond.initialized RX0, Cond.code yX0_passRestHour cX0_passRestHour 2 none, Cond.methodLink RX0 53 yX0_applyFlows, Cond.instanceMethod yX0_applyFlows, Cond.selects RX0 yX0_applyFlows yX0_applyFlows, Cond.code yX0_applyFlows cX0_applyFlows 7 none, Cond.fieldLink RX0 19 "DryingKiln$Board" "moisture" "[I"]
def wsX1_passRestHour : List Cond := .code yX1_passRestHour cX1_passRestHour 3 none :: ((wsX1_passRestHour_r1 ++ wsX1_passRestHour_r2) ++ wsX10 ++ wsX30 ++ wsJx4a65c0 ++ wsX00)
def wsX1_recordChecks_r1 : List Cond := [Cond.fieldLink RX1 22 "DryingKiln$Load" "boards" "Ljava/util/ArrayList;", Cond.classLink RX1 34 "DryingKiln$Board", Cond.fieldLink RX1 94 "DryingKiln$Board" "checkedAt" "I", Cond.constant RX1 47 (-1000005), Cond.methodLink RX1 26 yJx4a65c_size_8abf5, Cond.instanceMethod yJx4a65c_size_8abf5, Cond.selects RJx4a65c yJx4a65c_size_8abf5 yJx4a65c_size_8abf5, Cond.initialized RJx4a65c, Cond.code yJx4a65c_size_8abf5 cJx4a65c_size_8abf5 1 (some .int), Cond.fieldLink RJx4a65c 48 "java/util/ArrayList" "size" "I", Cond.methodLink RX1 30 yJx4a65c_get_915e3, Cond.instanceMethod yJx4a65c_get_915e3, Cond.selects RJx4a65c yJx4a65c_get_915e3 yJx4a65c_get_915e3, Cond.code yJx4a65c_get_915e3 cJx4a65c_get_915e3 2 (some (.object "java/lang/Object")), Cond.methodLink RJx4a65c 118 yJ15_checkIndex_7cf53, Cond.static yJ15_checkIndex_7cf53, Cond.initialized RJ15, Cond.code yJ15_checkIndex_7cf53 cJ15_checkIndex_7cf53 2 (some .int), Cond.methodLink RJ15 105 yJ3_checkIndex_8e157, Cond.static yJ3_checkIndex_8e157, Cond.initialized RJ3, Cond.code yJ3_checkIndex_8e157 cJ3_checkIndex_8e157 3 (some .int), Cond.methodLink RJx4a65c 123 yJx4a65c_elementData_915e3, Cond.instanceMethod yJx4a65c_elementData_915e3]
def wsX1_recordChecks_r2 : List Cond := [Cond.selects RJx4a65c yJx4a65c_elementData_915e3 yJx4a65c_elementData_915e3, Cond.code yJx4a65c_elementData_915e3 cJx4a65c_elementData_915e3 2 (some (.object "java/lang/Object")), Cond.fieldLink RJx4a65c 9 "java/util/ArrayList" "elementData" "[Ljava/lang/Object;", Cond.methodLink RX1 60 yX0_gradient, Cond.instanceMethod yX0_gradient, Cond.selects RX0 yX0_gradient yX0_gradient, Cond.initialized RX0, Cond.code yX0_gradient cX0_gradient 3 (some .int), Cond.fieldLink RX0 19 "DryingKiln$Board" "moisture" "[I", Cond.methodLink RX0 37 Lib.Math.max.name, Cond.static Lib.Math.max.name, Cond.initialized "java/lang/Math", Cond.code Lib.Math.max.name Lib.Math.max.code 2 (some .int), Cond.methodLink RX0 42 Lib.Math.min.name, Cond.static Lib.Math.min.name, Cond.code Lib.Math.min.name Lib.Math.min.code 2 (some .int)]
def wsX1_recordChecks : List Cond := .code yX1_recordChecks cX1_recordChecks 6 (some .int) :: ((wsX1_recordChecks_r1 ++ wsX1_recordChecks_r2) ++ wsX10 ++ wsX00 ++ wsJx4a65c0)
def wsX2_init : List Cond := .code yX2_init cX2_init 1 none :: ([.methodLink RX2 3 objectInit, .instanceMethod objectInit, .code objectInit ⟨#[0xb1]⟩ 1 none, .arrayClass .int, .fieldLink RX2 9 "DryingKiln$Schedule" "thresholds" "[I", .fieldLink RX2 15 "DryingKiln$Schedule" "inlets" "[I", .fieldLink RX2 18 "DryingKiln$Schedule" "size" "I"] ++ wsX20)
def wsX2_append : List Cond := .code yX2_append cX2_append 5 (some .int) :: ([.fieldLink RX2 18 "DryingKiln$Schedule" "size" "I", .fieldLink RX2 9 "DryingKiln$Schedule" "thresholds" "[I", .constant RX2 22 (-1000003), .constant RX2 23 (-1000004), .fieldLink RX2 15 "DryingKiln$Schedule" "inlets" "[I"] ++ wsX20)
def wsX2_clear : List Cond := .code yX2_clear cX2_clear 2 (some .int) :: ([.fieldLink RX2 18 "DryingKiln$Schedule" "size" "I"] ++ wsX20)
def wsX2_stageFor : List Cond := .code yX2_stageFor cX2_stageFor 4 (some .int) :: ([.constant RX2 24 (-1000005), .fieldLink RX2 18 "DryingKiln$Schedule" "size" "I", .fieldLink RX2 9 "DryingKiln$Schedule" "thresholds" "[I"] ++ wsX20)
def wsX2_inletOf : List Cond := .code yX2_inletOf cX2_inletOf 3 (some .int) :: ([.fieldLink RX2 15 "DryingKiln$Schedule" "inlets" "[I"] ++ wsX20)
def wsX3_init : List Cond := .code yX3_init cX3_init 1 none :: ([.methodLink RX3 1 objectInit, .instanceMethod objectInit, .code objectInit ⟨#[0xb1]⟩ 1 none, .fieldLink RX3 7 "DryingKiln$Settings" "diffusion" "I", .fieldLink RX3 13 "DryingKiln$Settings" "surface" "I", .fieldLink RX3 16 "DryingKiln$Settings" "capacity" "I", .fieldLink RX3 19 "DryingKiln$Settings" "strainLimit" "I", .fieldLink RX3 22 "DryingKiln$Settings" "humidity" "I", .fieldLink RX3 25 "DryingKiln$Settings" "reversalPeriod" "I"] ++ wsX30)
def wsX4_init_r1 : List Cond := [Cond.methodLink RX4 1 objectInit, Cond.instanceMethod objectInit, Cond.code objectInit ⟨#[0xb1]⟩ 1 none, Cond.classLink RX4 7 RX3, Cond.instantiable RX3 6, Cond.initialized RX3, Cond.fieldLink RX4 10 "DryingKiln" "settings" "LDryingKiln$Settings;", Cond.classLink RX4 16 RX2, Cond.instantiable RX2 3, Cond.initialized RX2, Cond.fieldLink RX4 19 "DryingKiln" "schedule" "LDryingKiln$Schedule;", Cond.classLink RX4 23 RX1, Cond.instantiable RX1 3, Cond.initialized RX1, Cond.fieldLink RX4 26 "DryingKiln" "load" "LDryingKiln$Load;", Cond.fieldLink RX4 30 "DryingKiln" "planned" "LDryingKiln$Load;", Cond.fieldLink RX4 33 "DryingKiln" "trial" "LDryingKiln$Load;", Cond.arrayClass .int, Cond.fieldLink RX4 36 "DryingKiln" "plan" "[I", Cond.fieldLink RX4 40 "DryingKiln" "hoursRun" "I", Cond.fieldLink RX4 44 "DryingKiln" "waterGivenOff" "I", Cond.instanceMethod yX3_init, Cond.code yX3_init cX3_init 1 none, Cond.methodLink RX3 1 objectInit]
def wsX4_init_r2 : List Cond := [Cond.fieldLink RX3 7 "DryingKiln$Settings" "diffusion" "I", Cond.fieldLink RX3 13 "DryingKiln$Settings" "surface" "I", Cond.fieldLink RX3 16 "DryingKiln$Settings" "capacity" "I", Cond.fieldLink RX3 19 "DryingKiln$Settings" "strainLimit" "I", Cond.fieldLink RX3 22 "DryingKiln$Settings" "humidity" "I", Cond.fieldLink RX3 25 "DryingKiln$Settings" "reversalPeriod" "I", Cond.instanceMethod yX2_init, Cond.code yX2_init cX2_init 1 none, Cond.methodLink RX2 3 objectInit, Cond.fieldLink RX2 9 "DryingKiln$Schedule" "thresholds" "[I", Cond.fieldLink RX2 15 "DryingKiln$Schedule" "inlets" "[I", Cond.fieldLink RX2 18 "DryingKiln$Schedule" "size" "I", Cond.instanceMethod yX1_init, Cond.code yX1_init cX1_init 1 none, Cond.methodLink RX1 3 objectInit, Cond.fieldLink RX1 9 "DryingKiln$Load" "reversed" "Z", Cond.fieldLink RX1 15 "DryingKiln$Load" "dryingHours" "I", Cond.classLink RX1 19 RJx4a65c, Cond.instantiable RJx4a65c 3, Cond.initialized RJx4a65c, Cond.fieldLink RX1 22 "DryingKiln$Load" "boards" "Ljava/util/ArrayList;", Cond.methodLink RX1 21 yJx4a65c_init_da8c8, Cond.instanceMethod yJx4a65c_init_da8c8, Cond.code yJx4a65c_init_da8c8 cJx4a65c_init_da8c8 1 none]
def wsX4_init_r3 : List Cond := [Cond.fieldLink RJx4a65c 39 "java/util/ArrayList" "DEFAULTCAPACITY_EMPTY_ELEMENTDATA" "[Ljava/lang/Object;", Cond.fieldLink RJx4a65c 9 "java/util/ArrayList" "elementData" "[Ljava/lang/Object;", Cond.methodLink RJx4a65c 1 yJxc12de_init_da8c8, Cond.instanceMethod yJxc12de_init_da8c8, Cond.initialized RJxc12de, Cond.code yJxc12de_init_da8c8 cJxc12de_init_da8c8 1 none, Cond.fieldLink RJxc12de 7 "java/util/AbstractList" "modCount" "I", Cond.methodLink RJxc12de 1 yJxa1e45_init_da8c8, Cond.instanceMethod yJxa1e45_init_da8c8, Cond.initialized RJxa1e45, Cond.code yJxa1e45_init_da8c8 cJxa1e45_init_da8c8 1 none, Cond.methodLink RJxa1e45 1 objectInit]
def wsX4_init : List Cond := .code yX4_init cX4_init 1 none :: ((wsX4_init_r1 ++ (wsX4_init_r2 ++ wsX4_init_r3)) ++ wsX30 ++ wsX40 ++ wsX20 ++ wsX10 ++ wsJx4a65c0)
def wsX4_isOutside : List Cond := .code yX4_isOutside cX4_isOutside 3 (some .boolean) :: ([])
def wsX4_addBoard_r1 : List Cond := [Cond.constant RX4 51 (-1000003), Cond.fieldLink RX4 26 "DryingKiln" "load" "LDryingKiln$Load;", Cond.constant RX4 56 (-1000004), Cond.classLink RX4 57 RX0, Cond.instantiable RX0 3, Cond.initialized RX0, Cond.fieldLink RX4 30 "DryingKiln" "planned" "LDryingKiln$Load;", Cond.fieldLink RX4 33 "DryingKiln" "trial" "LDryingKiln$Load;", Cond.methodLink RX4 47 yX4_isOutside, Cond.static yX4_isOutside, Cond.initialized RX4, Cond.code yX4_isOutside cX4_isOutside 3 (some .boolean), Cond.methodLink RX4 52 yX1_size, Cond.instanceMethod yX1_size, Cond.selects RX1 yX1_size yX1_size, Cond.initialized RX1, Cond.code yX1_size cX1_size 1 (some .int), Cond.fieldLink RX1 22 "DryingKiln$Load" "boards" "Ljava/util/ArrayList;", Cond.methodLink RX1 26 yJx4a65c_size_8abf5, Cond.instanceMethod yJx4a65c_size_8abf5, Cond.selects RJx4a65c yJx4a65c_size_8abf5 yJx4a65c_size_8abf5, Cond.initialized RJx4a65c, Cond.code yJx4a65c_size_8abf5 cJx4a65c_size_8abf5 1 (some .int), Cond.fieldLink RJx4a65c 48 "java/util/ArrayList" "size" "I"]
def wsX4_addBoard_r2 : List Cond := [Cond.methodLink RX4 59 yX0_init, Cond.instanceMethod yX0_init, Cond.code yX0_init cX0_init 3 none, Cond.methodLink RX0 3 objectInit, Cond.instanceMethod objectInit, Cond.code objectInit ⟨#[0xb1]⟩ 1 none, Cond.constant RX0 9 (-1000005), Cond.fieldLink RX0 10 "DryingKiln$Board" "checkedAt" "I", Cond.fieldLink RX0 16 "DryingKiln$Board" "air" "I", Cond.arrayClass .int, Cond.fieldLink RX0 19 "DryingKiln$Board" "moisture" "[I", Cond.methodLink RX0 23 yJ7_fill_53178, Cond.static yJ7_fill_53178, Cond.initialized RJ7, Cond.code yJ7_fill_53178 cJ7_fill_53178 4 none, Cond.methodLink RX4 62 yX1_put, Cond.instanceMethod yX1_put, Cond.selects RX1 yX1_put yX1_put, Cond.code yX1_put cX1_put 2 none, Cond.methodLink RX1 36 yJx4a65c_add_9ea2d, Cond.instanceMethod yJx4a65c_add_9ea2d, Cond.selects RJx4a65c yJx4a65c_add_9ea2d yJx4a65c_add_9ea2d, Cond.code yJx4a65c_add_9ea2d cJx4a65c_add_9ea2d 2 (some .boolean), Cond.fieldLink RJx4a65c 63 "java/util/ArrayList" "modCount" "I"]
def wsX4_addBoard_r3 : List Cond := [Cond.sameField "java/util/ArrayList" "java/util/AbstractList" "modCount" "I", Cond.fieldLink RJx4a65c 9 "java/util/ArrayList" "elementData" "[Ljava/lang/Object;", Cond.methodLink RJx4a65c 131 yJx4a65c_add_72be8, Cond.instanceMethod yJx4a65c_add_72be8, Cond.selects RJx4a65c yJx4a65c_add_72be8 yJx4a65c_add_72be8, Cond.code yJx4a65c_add_72be8 cJx4a65c_add_72be8 4 none, Cond.methodLink RJx4a65c 129 yJx4a65c_grow_d5877, Cond.instanceMethod yJx4a65c_grow_d5877, Cond.selects RJx4a65c yJx4a65c_grow_d5877 yJx4a65c_grow_d5877, Cond.code yJx4a65c_grow_d5877 cJx4a65c_grow_d5877 1 (some (.array (.object "java/lang/Object"))), Cond.methodLink RJx4a65c 69 yJx4a65c_grow_92f84, Cond.instanceMethod yJx4a65c_grow_92f84, Cond.selects RJx4a65c yJx4a65c_grow_92f84 yJx4a65c_grow_92f84, Cond.code yJx4a65c_grow_92f84 cJx4a65c_grow_92f84 4 (some (.array (.object "java/lang/Object"))), Cond.fieldLink RJx4a65c 39 "java/util/ArrayList" "DEFAULTCAPACITY_EMPTY_ELEMENTDATA" "[Ljava/lang/Object;", Cond.methodLink RJx4a65c 79 Lib.Math.max.name, Cond.static Lib.Math.max.name, Cond.initialized "java/lang/Math", Cond.code Lib.Math.max.name Lib.Math.max.code 2 (some .int), Cond.classLink RJx4a65c 7 "java/lang/Object", Cond.methodLink RJx4a65c 73 yJ8_newLength_cabcc, Cond.static yJ8_newLength_cabcc, Cond.initialized RJ8, Cond.code yJ8_newLength_cabcc cJ8_newLength_cabcc 4 (some .int)]
def wsX4_addBoard_r4 : List Cond := [Cond.methodLink RJ8 194 Lib.Math.max.name, Cond.constant RJ8 200 (2147483639), Cond.methodLink RJ8 201 yJ8_hugeLength_7cf53, Cond.static yJ8_hugeLength_7cf53, Cond.code yJ8_hugeLength_7cf53 cJ8_hugeLength_7cf53 3 (some .int), Cond.methodLink RJx4a65c 66 yJ7_copyOf_1904c, Cond.static yJ7_copyOf_1904c, Cond.code yJ7_copyOf_1904c cJ7_copyOf_1904c 2 (some (.array (.object "java/lang/Object"))), Cond.methodLink RJ7 86 ⟨"java/lang/Object", "getClass", "()Ljava/lang/Class;"⟩, Cond.selects "[Ljava/lang/Object;" ⟨"java/lang/Object", "getClass", "()Ljava/lang/Class;"⟩ ⟨"java/lang/Object", "getClass", "()Ljava/lang/Class;"⟩, Cond.instanceMethod ⟨"java/lang/Object", "getClass", "()Ljava/lang/Class;"⟩, Cond.native ⟨"java/lang/Object", "getClass", "()Ljava/lang/Class;"⟩, Cond.methodLink RJ7 300 yJ7_copyOf_6403c, Cond.static yJ7_copyOf_6403c, Cond.code yJ7_copyOf_6403c cJ7_copyOf_6403c 4 (some (.array (.object "java/lang/Object"))), Cond.classLink RJ7 110 "[Ljava/lang/Object;", Cond.classLink RJ7 2 "java/lang/Object", Cond.methodLink RJ7 304 Lib.Math.min.name, Cond.static Lib.Math.min.name, Cond.code Lib.Math.min.name Lib.Math.min.code 2 (some .int), Cond.methodLink RJ7 150 arraycopyName, Cond.native arraycopyName, Cond.static arraycopyName, Cond.initialized "java/lang/System"]
def wsX4_addBoard : List Cond := .code yX4_addBoard cX4_addBoard 4 (some .int) :: ((wsX4_addBoard_r1 ++ (wsX4_addBoard_r2 ++ (wsX4_addBoard_r3 ++ wsX4_addBoard_r4))) ++ wsX40 ++ wsX00 ++ wsX10 ++ wsJx4a65c0)
def wsX4_setLayer_r1 : List Cond := [Cond.fieldLink RX4 26 "DryingKiln" "load" "LDryingKiln$Load;", Cond.constant RX4 70 (-1000001), Cond.fieldLink RX4 75 "DryingKiln$Board" "moisture" "[I", Cond.constant RX4 78 (-1000002), Cond.constant RX4 51 (-1000003), Cond.methodLink RX4 66 yX1_has, Cond.instanceMethod yX1_has, Cond.selects RX1 yX1_has yX1_has, Cond.initialized RX1, Cond.code yX1_has cX1_has 2 (some .boolean), Cond.fieldLink RX1 22 "DryingKiln$Load" "boards" "Ljava/util/ArrayList;", Cond.methodLink RX1 26 yJx4a65c_size_8abf5, Cond.instanceMethod yJx4a65c_size_8abf5, Cond.selects RJx4a65c yJx4a65c_size_8abf5 yJx4a65c_size_8abf5, Cond.initialized RJx4a65c, Cond.code yJx4a65c_size_8abf5 cJx4a65c_size_8abf5 1 (some .int), Cond.fieldLink RJx4a65c 48 "java/util/ArrayList" "size" "I", Cond.methodLink RX4 71 yX1_boardAt, Cond.instanceMethod yX1_boardAt, Cond.selects RX1 yX1_boardAt yX1_boardAt, Cond.code yX1_boardAt cX1_boardAt 2 (some (.object "DryingKiln$Board")), Cond.classLink RX1 34 "DryingKiln$Board", Cond.methodLink RX1 30 yJx4a65c_get_915e3, Cond.instanceMethod yJx4a65c_get_915e3]
def wsX4_setLayer_r2 : List Cond := [Cond.selects RJx4a65c yJx4a65c_get_915e3 yJx4a65c_get_915e3, Cond.code yJx4a65c_get_915e3 cJx4a65c_get_915e3 2 (some (.object "java/lang/Object")), Cond.methodLink RJx4a65c 118 yJ15_checkIndex_7cf53, Cond.static yJ15_checkIndex_7cf53, Cond.initialized RJ15, Cond.code yJ15_checkIndex_7cf53 cJ15_checkIndex_7cf53 2 (some .int), Cond.methodLink RJ15 105 yJ3_checkIndex_8e157, Cond.static yJ3_checkIndex_8e157, Cond.initialized RJ3, Cond.code yJ3_checkIndex_8e157 cJ3_checkIndex_8e157 3 (some .int), Cond.methodLink RJx4a65c 123 yJx4a65c_elementData_915e3, Cond.instanceMethod yJx4a65c_elementData_915e3, Cond.selects RJx4a65c yJx4a65c_elementData_915e3 yJx4a65c_elementData_915e3, Cond.code yJx4a65c_elementData_915e3 cJx4a65c_elementData_915e3 2 (some (.object "java/lang/Object")), Cond.fieldLink RJx4a65c 9 "java/util/ArrayList" "elementData" "[Ljava/lang/Object;", Cond.methodLink RX4 47 yX4_isOutside, Cond.static yX4_isOutside, Cond.initialized RX4, Cond.code yX4_isOutside cX4_isOutside 3 (some .boolean)]
def wsX4_setLayer : List Cond := .code yX4_setLayer cX4_setLayer 6 (some .int) :: ((wsX4_setLayer_r1 ++ wsX4_setLayer_r2) ++ wsX40 ++ wsX00 ++ wsX10 ++ wsJx4a65c0)
def wsX4_layerMoisture_r1 : List Cond := [Cond.fieldLink RX4 26 "DryingKiln" "load" "LDryingKiln$Load;", Cond.constant RX4 70 (-1000001), Cond.fieldLink RX4 75 "DryingKiln$Board" "moisture" "[I", Cond.constant RX4 78 (-1000002), Cond.methodLink RX4 66 yX1_has, Cond.instanceMethod yX1_has, Cond.selects RX1 yX1_has yX1_has, Cond.initialized RX1, Cond.code yX1_has cX1_has 2 (some .boolean), Cond.fieldLink RX1 22 "DryingKiln$Load" "boards" "Ljava/util/ArrayList;", Cond.methodLink RX1 26 yJx4a65c_size_8abf5, Cond.instanceMethod yJx4a65c_size_8abf5, Cond.selects RJx4a65c yJx4a65c_size_8abf5 yJx4a65c_size_8abf5, Cond.initialized RJx4a65c, Cond.code yJx4a65c_size_8abf5 cJx4a65c_size_8abf5 1 (some .int), Cond.fieldLink RJx4a65c 48 "java/util/ArrayList" "size" "I", Cond.methodLink RX4 71 yX1_boardAt, Cond.instanceMethod yX1_boardAt, Cond.selects RX1 yX1_boardAt yX1_boardAt, Cond.code yX1_boardAt cX1_boardAt 2 (some (.object "DryingKiln$Board")), Cond.classLink RX1 34 "DryingKiln$Board", Cond.methodLink RX1 30 yJx4a65c_get_915e3, Cond.instanceMethod yJx4a65c_get_915e3, Cond.selects RJx4a65c yJx4a65c_get_915e3 yJx4a65c_get_915e3]
def wsX4_layerMoisture_r2 : List Cond := [Cond.code yJx4a65c_get_915e3 cJx4a65c_get_915e3 2 (some (.object "java/lang/Object")), Cond.methodLink RJx4a65c 118 yJ15_checkIndex_7cf53, Cond.static yJ15_checkIndex_7cf53, Cond.initialized RJ15, Cond.code yJ15_checkIndex_7cf53 cJ15_checkIndex_7cf53 2 (some .int), Cond.methodLink RJ15 105 yJ3_checkIndex_8e157, Cond.static yJ3_checkIndex_8e157, Cond.initialized RJ3, Cond.code yJ3_checkIndex_8e157 cJ3_checkIndex_8e157 3 (some .int), Cond.methodLink RJx4a65c 123 yJx4a65c_elementData_915e3, Cond.instanceMethod yJx4a65c_elementData_915e3, Cond.selects RJx4a65c yJx4a65c_elementData_915e3 yJx4a65c_elementData_915e3, Cond.code yJx4a65c_elementData_915e3 cJx4a65c_elementData_915e3 2 (some (.object "java/lang/Object")), Cond.fieldLink RJx4a65c 9 "java/util/ArrayList" "elementData" "[Ljava/lang/Object;"]
def wsX4_layerMoisture : List Cond := .code yX4_layerMoisture cX4_layerMoisture 4 (some .int) :: ((wsX4_layerMoisture_r1 ++ wsX4_layerMoisture_r2) ++ wsX40 ++ wsX00 ++ wsX10 ++ wsJx4a65c0)
def wsX4_averageMoisture_r1 : List Cond := [Cond.fieldLink RX4 26 "DryingKiln" "load" "LDryingKiln$Load;", Cond.constant RX4 70 (-1000001), Cond.methodLink RX4 66 yX1_has, Cond.instanceMethod yX1_has, Cond.selects RX1 yX1_has yX1_has, Cond.initialized RX1, Cond.code yX1_has cX1_has 2 (some .boolean), Cond.fieldLink RX1 22 "DryingKiln$Load" "boards" "Ljava/util/ArrayList;", Cond.methodLink RX1 26 yJx4a65c_size_8abf5, Cond.instanceMethod yJx4a65c_size_8abf5, Cond.selects RJx4a65c yJx4a65c_size_8abf5 yJx4a65c_size_8abf5, Cond.initialized RJx4a65c, Cond.code yJx4a65c_size_8abf5 cJx4a65c_size_8abf5 1 (some .int), Cond.fieldLink RJx4a65c 48 "java/util/ArrayList" "size" "I", Cond.methodLink RX4 71 yX1_boardAt, Cond.instanceMethod yX1_boardAt, Cond.selects RX1 yX1_boardAt yX1_boardAt, Cond.code yX1_boardAt cX1_boardAt 2 (some (.object "DryingKiln$Board")), Cond.classLink RX1 34 "DryingKiln$Board", Cond.methodLink RX1 30 yJx4a65c_get_915e3, Cond.instanceMethod yJx4a65c_get_915e3, Cond.selects RJx4a65c yJx4a65c_get_915e3 yJx4a65c_get_915e3, Cond.code yJx4a65c_get_915e3 cJx4a65c_get_915e3 2 (some (.object "java/lang/Object")), Cond.methodLink RJx4a65c 118 yJ15_checkIndex_7cf53]
def wsX4_averageMoisture_r2 : List Cond := [Cond.static yJ15_checkIndex_7cf53, Cond.initialized RJ15, Cond.code yJ15_checkIndex_7cf53 cJ15_checkIndex_7cf53 2 (some .int), Cond.methodLink RJ15 105 yJ3_checkIndex_8e157, Cond.static yJ3_checkIndex_8e157, Cond.initialized RJ3, Cond.code yJ3_checkIndex_8e157 cJ3_checkIndex_8e157 3 (some .int), Cond.methodLink RJx4a65c 123 yJx4a65c_elementData_915e3, Cond.instanceMethod yJx4a65c_elementData_915e3, Cond.selects RJx4a65c yJx4a65c_elementData_915e3 yJx4a65c_elementData_915e3, Cond.code yJx4a65c_elementData_915e3 cJx4a65c_elementData_915e3 2 (some (.object "java/lang/Object")), Cond.fieldLink RJx4a65c 9 "java/util/ArrayList" "elementData" "[Ljava/lang/Object;", Cond.methodLink RX4 79 yX0_average, Cond.instanceMethod yX0_average, Cond.selects RX0 yX0_average yX0_average, Cond.initialized RX0, Cond.code yX0_average cX0_average 1 (some .int), Cond.fieldLink RX0 19 "DryingKiln$Board" "moisture" "[I", Cond.methodLink RX0 29 yX0_water, Cond.instanceMethod yX0_water, Cond.selects RX0 yX0_water yX0_water, Cond.code yX0_water cX0_water 3 (some .int), Cond.static yX4_quotient, Cond.initialized RX4]
def wsX4_averageMoisture_r3 : List Cond := [Cond.code yX4_quotient cX4_quotient 2 (some .int)]
def wsX4_averageMoisture : List Cond := .code yX4_averageMoisture cX4_averageMoisture 2 (some .int) :: ((wsX4_averageMoisture_r1 ++ (wsX4_averageMoisture_r2 ++ wsX4_averageMoisture_r3)) ++ wsX40 ++ wsX10 ++ wsJx4a65c0 ++ wsX00)
def wsX4_strain_r1 : List Cond := [Cond.fieldLink RX4 26 "DryingKiln" "load" "LDryingKiln$Load;", Cond.constant RX4 70 (-1000001), Cond.methodLink RX4 66 yX1_has, Cond.instanceMethod yX1_has, Cond.selects RX1 yX1_has yX1_has, Cond.initialized RX1, Cond.code yX1_has cX1_has 2 (some .boolean), Cond.fieldLink RX1 22 "DryingKiln$Load" "boards" "Ljava/util/ArrayList;", Cond.methodLink RX1 26 yJx4a65c_size_8abf5, Cond.instanceMethod yJx4a65c_size_8abf5, Cond.selects RJx4a65c yJx4a65c_size_8abf5 yJx4a65c_size_8abf5, Cond.initialized RJx4a65c, Cond.code yJx4a65c_size_8abf5 cJx4a65c_size_8abf5 1 (some .int), Cond.fieldLink RJx4a65c 48 "java/util/ArrayList" "size" "I", Cond.methodLink RX4 71 yX1_boardAt, Cond.instanceMethod yX1_boardAt, Cond.selects RX1 yX1_boardAt yX1_boardAt, Cond.code yX1_boardAt cX1_boardAt 2 (some (.object "DryingKiln$Board")), Cond.classLink RX1 34 "DryingKiln$Board", Cond.methodLink RX1 30 yJx4a65c_get_915e3, Cond.instanceMethod yJx4a65c_get_915e3, Cond.selects RJx4a65c yJx4a65c_get_915e3 yJx4a65c_get_915e3, Cond.code yJx4a65c_get_915e3 cJx4a65c_get_915e3 2 (some (.object "java/lang/Object")), Cond.methodLink RJx4a65c 118 yJ15_checkIndex_7cf53]
def wsX4_strain_r2 : List Cond := [Cond.static yJ15_checkIndex_7cf53, Cond.initialized RJ15, Cond.code yJ15_checkIndex_7cf53 cJ15_checkIndex_7cf53 2 (some .int), Cond.methodLink RJ15 105 yJ3_checkIndex_8e157, Cond.static yJ3_checkIndex_8e157, Cond.initialized RJ3, Cond.code yJ3_checkIndex_8e157 cJ3_checkIndex_8e157 3 (some .int), Cond.methodLink RJx4a65c 123 yJx4a65c_elementData_915e3, Cond.instanceMethod yJx4a65c_elementData_915e3, Cond.selects RJx4a65c yJx4a65c_elementData_915e3 yJx4a65c_elementData_915e3, Cond.code yJx4a65c_elementData_915e3 cJx4a65c_elementData_915e3 2 (some (.object "java/lang/Object")), Cond.fieldLink RJx4a65c 9 "java/util/ArrayList" "elementData" "[Ljava/lang/Object;", Cond.methodLink RX4 82 yX0_gradient, Cond.instanceMethod yX0_gradient, Cond.selects RX0 yX0_gradient yX0_gradient, Cond.initialized RX0, Cond.code yX0_gradient cX0_gradient 3 (some .int), Cond.fieldLink RX0 19 "DryingKiln$Board" "moisture" "[I", Cond.methodLink RX0 37 Lib.Math.max.name, Cond.static Lib.Math.max.name, Cond.initialized "java/lang/Math", Cond.code Lib.Math.max.name Lib.Math.max.code 2 (some .int), Cond.methodLink RX0 42 Lib.Math.min.name, Cond.static Lib.Math.min.name]
def wsX4_strain_r3 : List Cond := [Cond.code Lib.Math.min.name Lib.Math.min.code 2 (some .int)]
def wsX4_strain : List Cond := .code yX4_strain cX4_strain 2 (some .int) :: ((wsX4_strain_r1 ++ (wsX4_strain_r2 ++ wsX4_strain_r3)) ++ wsX40 ++ wsX10 ++ wsJx4a65c0 ++ wsX00)
def wsX4_checkHour_r1 : List Cond := [Cond.fieldLink RX4 26 "DryingKiln" "load" "LDryingKiln$Load;", Cond.fieldLink RX4 85 "DryingKiln$Board" "checkedAt" "I", Cond.constant RX4 70 (-1000001), Cond.methodLink RX4 66 yX1_has, Cond.instanceMethod yX1_has, Cond.selects RX1 yX1_has yX1_has, Cond.initialized RX1, Cond.code yX1_has cX1_has 2 (some .boolean), Cond.fieldLink RX1 22 "DryingKiln$Load" "boards" "Ljava/util/ArrayList;", Cond.methodLink RX1 26 yJx4a65c_size_8abf5, Cond.instanceMethod yJx4a65c_size_8abf5, Cond.selects RJx4a65c yJx4a65c_size_8abf5 yJx4a65c_size_8abf5, Cond.initialized RJx4a65c, Cond.code yJx4a65c_size_8abf5 cJx4a65c_size_8abf5 1 (some .int), Cond.fieldLink RJx4a65c 48 "java/util/ArrayList" "size" "I", Cond.methodLink RX4 71 yX1_boardAt, Cond.instanceMethod yX1_boardAt, Cond.selects RX1 yX1_boardAt yX1_boardAt, Cond.code yX1_boardAt cX1_boardAt 2 (some (.object "DryingKiln$Board")), Cond.classLink RX1 34 "DryingKiln$Board", Cond.methodLink RX1 30 yJx4a65c_get_915e3, Cond.instanceMethod yJx4a65c_get_915e3, Cond.selects RJx4a65c yJx4a65c_get_915e3 yJx4a65c_get_915e3, Cond.code yJx4a65c_get_915e3 cJx4a65c_get_915e3 2 (some (.object "java/lang/Object"))]
def wsX4_checkHour_r2 : List Cond := [Cond.methodLink RJx4a65c 118 yJ15_checkIndex_7cf53, Cond.static yJ15_checkIndex_7cf53, Cond.initialized RJ15, Cond.code yJ15_checkIndex_7cf53 cJ15_checkIndex_7cf53 2 (some .int), Cond.methodLink RJ15 105 yJ3_checkIndex_8e157, Cond.static yJ3_checkIndex_8e157, Cond.initialized RJ3, Cond.code yJ3_checkIndex_8e157 cJ3_checkIndex_8e157 3 (some .int), Cond.methodLink RJx4a65c 123 yJx4a65c_elementData_915e3, Cond.instanceMethod yJx4a65c_elementData_915e3, Cond.selects RJx4a65c yJx4a65c_elementData_915e3 yJx4a65c_elementData_915e3, Cond.code yJx4a65c_elementData_915e3 cJx4a65c_elementData_915e3 2 (some (.object "java/lang/Object")), Cond.fieldLink RJx4a65c 9 "java/util/ArrayList" "elementData" "[Ljava/lang/Object;"]
def wsX4_checkHour : List Cond := .code yX4_checkHour cX4_checkHour 2 (some .int) :: ((wsX4_checkHour_r1 ++ wsX4_checkHour_r2) ++ wsX40 ++ wsX00 ++ wsX10 ++ wsJx4a65c0)
def wsX4_wettestBoard_r1 : List Cond := [Cond.fieldLink RX4 26 "DryingKiln" "load" "LDryingKiln$Load;", Cond.methodLink RX4 88 yX1_wettest, Cond.instanceMethod yX1_wettest, Cond.selects RX1 yX1_wettest yX1_wettest, Cond.initialized RX1, Cond.code yX1_wettest cX1_wettest 5 (some .int), Cond.constant RX1 47 (-1000005), Cond.fieldLink RX1 22 "DryingKiln$Load" "boards" "Ljava/util/ArrayList;", Cond.classLink RX1 34 "DryingKiln$Board", Cond.methodLink RX1 26 yJx4a65c_size_8abf5, Cond.instanceMethod yJx4a65c_size_8abf5, Cond.selects RJx4a65c yJx4a65c_size_8abf5 yJx4a65c_size_8abf5, Cond.initialized RJx4a65c, Cond.code yJx4a65c_size_8abf5 cJx4a65c_size_8abf5 1 (some .int), Cond.fieldLink RJx4a65c 48 "java/util/ArrayList" "size" "I", Cond.methodLink RX1 30 yJx4a65c_get_915e3, Cond.instanceMethod yJx4a65c_get_915e3, Cond.selects RJx4a65c yJx4a65c_get_915e3 yJx4a65c_get_915e3, Cond.code yJx4a65c_get_915e3 cJx4a65c_get_915e3 2 (some (.object "java/lang/Object")), Cond.methodLink RJx4a65c 118 yJ15_checkIndex_7cf53, Cond.static yJ15_checkIndex_7cf53, Cond.initialized RJ15, Cond.code yJ15_checkIndex_7cf53 cJ15_checkIndex_7cf53 2 (some .int), Cond.methodLink RJ15 105 yJ3_checkIndex_8e157]
def wsX4_wettestBoard_r2 : List Cond := [Cond.static yJ3_checkIndex_8e157, Cond.initialized RJ3, Cond.code yJ3_checkIndex_8e157 cJ3_checkIndex_8e157 3 (some .int), Cond.methodLink RJx4a65c 123 yJx4a65c_elementData_915e3, Cond.instanceMethod yJx4a65c_elementData_915e3, Cond.selects RJx4a65c yJx4a65c_elementData_915e3 yJx4a65c_elementData_915e3, Cond.code yJx4a65c_elementData_915e3 cJx4a65c_elementData_915e3 2 (some (.object "java/lang/Object")), Cond.fieldLink RJx4a65c 9 "java/util/ArrayList" "elementData" "[Ljava/lang/Object;", Cond.methodLink RX1 48 yX0_average, Cond.instanceMethod yX0_average, Cond.selects RX0 yX0_average yX0_average, Cond.initialized RX0, Cond.code yX0_average cX0_average 1 (some .int), Cond.fieldLink RX0 19 "DryingKiln$Board" "moisture" "[I", Cond.methodLink RX0 29 yX0_water, Cond.instanceMethod yX0_water, Cond.selects RX0 yX0_water yX0_water, Cond.code yX0_water cX0_water 3 (some .int), Cond.static yX4_quotient, Cond.initialized RX4, Cond.code yX4_quotient cX4_quotient 2 (some .int)]
def wsX4_wettestBoard : List Cond := .code yX4_wettestBoard cX4_wettestBoard 1 (some .int) :: ((wsX4_wettestBoard_r1 ++ wsX4_wettestBoard_r2) ++ wsX40 ++ wsX10 ++ wsJx4a65c0 ++ wsX00)
def wsX4_totalWater_r1 : List Cond := [Cond.fieldLink RX4 26 "DryingKiln" "load" "LDryingKiln$Load;", Cond.methodLink RX4 91 yX1_water, Cond.instanceMethod yX1_water, Cond.selects RX1 yX1_water yX1_water, Cond.initialized RX1, Cond.code yX1_water cX1_water 3 (some .int), Cond.fieldLink RX1 22 "DryingKiln$Load" "boards" "Ljava/util/ArrayList;", Cond.classLink RX1 34 "DryingKiln$Board", Cond.methodLink RX1 26 yJx4a65c_size_8abf5, Cond.instanceMethod yJx4a65c_size_8abf5, Cond.selects RJx4a65c yJx4a65c_size_8abf5 yJx4a65c_size_8abf5, Cond.initialized RJx4a65c, Cond.code yJx4a65c_size_8abf5 cJx4a65c_size_8abf5 1 (some .int), Cond.fieldLink RJx4a65c 48 "java/util/ArrayList" "size" "I", Cond.methodLink RX1 30 yJx4a65c_get_915e3, Cond.instanceMethod yJx4a65c_get_915e3, Cond.selects RJx4a65c yJx4a65c_get_915e3 yJx4a65c_get_915e3, Cond.code yJx4a65c_get_915e3 cJx4a65c_get_915e3 2 (some (.object "java/lang/Object")), Cond.methodLink RJx4a65c 118 yJ15_checkIndex_7cf53, Cond.static yJ15_checkIndex_7cf53, Cond.initialized RJ15, Cond.code yJ15_checkIndex_7cf53 cJ15_checkIndex_7cf53 2 (some .int), Cond.methodLink RJ15 105 yJ3_checkIndex_8e157, Cond.static yJ3_checkIndex_8e157]
def wsX4_totalWater_r2 : List Cond := [Cond.initialized RJ3, Cond.code yJ3_checkIndex_8e157 cJ3_checkIndex_8e157 3 (some .int), Cond.methodLink RJx4a65c 123 yJx4a65c_elementData_915e3, Cond.instanceMethod yJx4a65c_elementData_915e3, Cond.selects RJx4a65c yJx4a65c_elementData_915e3 yJx4a65c_elementData_915e3, Cond.code yJx4a65c_elementData_915e3 cJx4a65c_elementData_915e3 2 (some (.object "java/lang/Object")), Cond.fieldLink RJx4a65c 9 "java/util/ArrayList" "elementData" "[Ljava/lang/Object;", Cond.methodLink RX1 44 yX0_water, Cond.instanceMethod yX0_water, Cond.selects RX0 yX0_water yX0_water, Cond.initialized RX0, Cond.code yX0_water cX0_water 3 (some .int), Cond.fieldLink RX0 19 "DryingKiln$Board" "moisture" "[I"]
def wsX4_totalWater : List Cond := .code yX4_totalWater cX4_totalWater 1 (some .int) :: ((wsX4_totalWater_r1 ++ wsX4_totalWater_r2) ++ wsX40 ++ wsX10 ++ wsJx4a65c0 ++ wsX00)
def wsX4_sampleError_r1 : List Cond := [Cond.fieldLink RX4 26 "DryingKiln" "load" "LDryingKiln$Load;", Cond.constant RX4 51 (-1000003), Cond.methodLink RX4 52 yX1_size, Cond.instanceMethod yX1_size, Cond.selects RX1 yX1_size yX1_size, Cond.initialized RX1, Cond.code yX1_size cX1_size 1 (some .int), Cond.fieldLink RX1 22 "DryingKiln$Load" "boards" "Ljava/util/ArrayList;", Cond.methodLink RX1 26 yJx4a65c_size_8abf5, Cond.instanceMethod yJx4a65c_size_8abf5, Cond.selects RJx4a65c yJx4a65c_size_8abf5 yJx4a65c_size_8abf5, Cond.initialized RJx4a65c, Cond.code yJx4a65c_size_8abf5 cJx4a65c_size_8abf5 1 (some .int), Cond.fieldLink RJx4a65c 48 "java/util/ArrayList" "size" "I", Cond.methodLink RX4 94 yX1_meanOf, Cond.instanceMethod yX1_meanOf, Cond.selects RX1 yX1_meanOf yX1_meanOf, Cond.code yX1_meanOf cX1_meanOf 4 (some .int), Cond.classLink RX1 34 "DryingKiln$Board", Cond.methodLink RX1 30 yJx4a65c_get_915e3, Cond.instanceMethod yJx4a65c_get_915e3, Cond.selects RJx4a65c yJx4a65c_get_915e3 yJx4a65c_get_915e3, Cond.code yJx4a65c_get_915e3 cJx4a65c_get_915e3 2 (some (.object "java/lang/Object")), Cond.methodLink RJx4a65c 118 yJ15_checkIndex_7cf53]
def wsX4_sampleError_r2 : List Cond := [Cond.static yJ15_checkIndex_7cf53, Cond.initialized RJ15, Cond.code yJ15_checkIndex_7cf53 cJ15_checkIndex_7cf53 2 (some .int), Cond.methodLink RJ15 105 yJ3_checkIndex_8e157, Cond.static yJ3_checkIndex_8e157, Cond.initialized RJ3, Cond.code yJ3_checkIndex_8e157 cJ3_checkIndex_8e157 3 (some .int), Cond.methodLink RJx4a65c 123 yJx4a65c_elementData_915e3, Cond.instanceMethod yJx4a65c_elementData_915e3, Cond.selects RJx4a65c yJx4a65c_elementData_915e3 yJx4a65c_elementData_915e3, Cond.code yJx4a65c_elementData_915e3 cJx4a65c_elementData_915e3 2 (some (.object "java/lang/Object")), Cond.fieldLink RJx4a65c 9 "java/util/ArrayList" "elementData" "[Ljava/lang/Object;", Cond.methodLink RX1 48 yX0_average, Cond.instanceMethod yX0_average, Cond.selects RX0 yX0_average yX0_average, Cond.initialized RX0, Cond.code yX0_average cX0_average 1 (some .int), Cond.fieldLink RX0 19 "DryingKiln$Board" "moisture" "[I", Cond.methodLink RX0 29 yX0_water, Cond.instanceMethod yX0_water, Cond.selects RX0 yX0_water yX0_water, Cond.code yX0_water cX0_water 3 (some .int), Cond.static yX4_quotient, Cond.initialized RX4]
def wsX4_sampleError_r3 : List Cond := [Cond.code yX4_quotient cX4_quotient 2 (some .int), Cond.methodLink RX1 63 yJ6_bitCount_0f7a4, Cond.static yJ6_bitCount_0f7a4, Cond.initialized RJ6, Cond.code yJ6_bitCount_0f7a4 cJ6_bitCount_0f7a4 1 (some .int), Cond.constant RJ6 265 (1431655765), Cond.constant RJ6 266 (858993459), Cond.constant RJ6 267 (252645135)]
def wsX4_sampleError : List Cond := .code yX4_sampleError cX4_sampleError 3 (some .int) :: ((wsX4_sampleError_r1 ++ (wsX4_sampleError_r2 ++ wsX4_sampleError_r3)) ++ wsX40 ++ wsX10 ++ wsJx4a65c0 ++ wsX00)
def wsX4_setDiffusion : List Cond := .code yX4_setDiffusion cX4_setDiffusion 3 (some .int) :: ([.constant RX4 51 (-1000003), .fieldLink RX4 10 "DryingKiln" "settings" "LDryingKiln$Settings;", .fieldLink RX4 98 "DryingKiln$Settings" "diffusion" "I", .methodLink RX4 47 yX4_isOutside, .static yX4_isOutside, .initialized RX4, .code yX4_isOutside cX4_isOutside 3 (some .boolean)] ++ wsX40 ++ wsX30)
def wsX4_setSurface : List Cond := .code yX4_setSurface cX4_setSurface 3 (some .int) :: ([.constant RX4 51 (-1000003), .fieldLink RX4 10 "DryingKiln" "settings" "LDryingKiln$Settings;", .fieldLink RX4 101 "DryingKiln$Settings" "surface" "I", .methodLink RX4 47 yX4_isOutside, .static yX4_isOutside, .initialized RX4, .code yX4_isOutside cX4_isOutside 3 (some .boolean)] ++ wsX40 ++ wsX30)
def wsX4_setCapacity : List Cond := .code yX4_setCapacity cX4_setCapacity 3 (some .int) :: ([.constant RX4 51 (-1000003), .fieldLink RX4 10 "DryingKiln" "settings" "LDryingKiln$Settings;", .fieldLink RX4 104 "DryingKiln$Settings" "capacity" "I", .methodLink RX4 47 yX4_isOutside, .static yX4_isOutside, .initialized RX4, .code yX4_isOutside cX4_isOutside 3 (some .boolean)] ++ wsX40 ++ wsX30)
def wsX4_setStrainLimit : List Cond := .code yX4_setStrainLimit cX4_setStrainLimit 3 (some .int) :: ([.constant RX4 51 (-1000003), .fieldLink RX4 10 "DryingKiln" "settings" "LDryingKiln$Settings;", .fieldLink RX4 107 "DryingKiln$Settings" "strainLimit" "I", .methodLink RX4 47 yX4_isOutside, .static yX4_isOutside, .initialized RX4, .code yX4_isOutside cX4_isOutside 3 (some .boolean)] ++ wsX40 ++ wsX30)
def wsX4_setHumidity : List Cond := .code yX4_setHumidity cX4_setHumidity 3 (some .int) :: ([.constant RX4 51 (-1000003), .fieldLink RX4 10 "DryingKiln" "settings" "LDryingKiln$Settings;", .fieldLink RX4 110 "DryingKiln$Settings" "humidity" "I", .methodLink RX4 47 yX4_isOutside, .static yX4_isOutside, .initialized RX4, .code yX4_isOutside cX4_isOutside 3 (some .boolean)] ++ wsX40 ++ wsX30)
def wsX4_setFan : List Cond := .code yX4_setFan cX4_setFan 3 (some .int) :: ([.fieldLink RX4 26 "DryingKiln" "load" "LDryingKiln$Load;", .fieldLink RX4 113 "DryingKiln$Load" "reversed" "Z"] ++ wsX40 ++ wsX10)
def wsX4_isFanReversed : List Cond := .code yX4_isFanReversed cX4_isFanReversed 1 (some .int) :: ([.fieldLink RX4 26 "DryingKiln" "load" "LDryingKiln$Load;", .fieldLink RX4 113 "DryingKiln$Load" "reversed" "Z"] ++ wsX40 ++ wsX10)
def wsX4_setReversalPeriod : List Cond := .code yX4_setReversalPeriod cX4_setReversalPeriod 3 (some .int) :: ([.constant RX4 51 (-1000003), .fieldLink RX4 10 "DryingKiln" "settings" "LDryingKiln$Settings;", .fieldLink RX4 117 "DryingKiln$Settings" "reversalPeriod" "I", .methodLink RX4 47 yX4_isOutside, .static yX4_isOutside, .initialized RX4, .code yX4_isOutside cX4_isOutside 3 (some .boolean)] ++ wsX40 ++ wsX30)
def wsX4_endHour_r1 : List Cond := [Cond.fieldLink RX4 40 "DryingKiln" "hoursRun" "I", Cond.fieldLink RX4 26 "DryingKiln" "load" "LDryingKiln$Load;", Cond.fieldLink RX4 10 "DryingKiln" "settings" "LDryingKiln$Settings;", Cond.fieldLink RX4 107 "DryingKiln$Settings" "strainLimit" "I", Cond.methodLink RX4 160 yX1_recordChecks, Cond.instanceMethod yX1_recordChecks, Cond.selects RX1 yX1_recordChecks yX1_recordChecks, Cond.initialized RX1, Cond.code yX1_recordChecks cX1_recordChecks 6 (some .int), Cond.fieldLink RX1 22 "DryingKiln$Load" "boards" "Ljava/util/ArrayList;", Cond.classLink RX1 34 "DryingKiln$Board", Cond.fieldLink RX1 94 "DryingKiln$Board" "checkedAt" "I", Cond.constant RX1 47 (-1000005), Cond.methodLink RX1 26 yJx4a65c_size_8abf5, Cond.instanceMethod yJx4a65c_size_8abf5, Cond.selects RJx4a65c yJx4a65c_size_8abf5 yJx4a65c_size_8abf5, Cond.initialized RJx4a65c, Cond.code yJx4a65c_size_8abf5 cJx4a65c_size_8abf5 1 (some .int), Cond.fieldLink RJx4a65c 48 "java/util/ArrayList" "size" "I", Cond.methodLink RX1 30 yJx4a65c_get_915e3, Cond.instanceMethod yJx4a65c_get_915e3, Cond.selects RJx4a65c yJx4a65c_get_915e3 yJx4a65c_get_915e3, Cond.code yJx4a65c_get_915e3 cJx4a65c_get_915e3 2 (some (.object "java/lang/Object")), Cond.methodLink RJx4a65c 118 yJ15_checkIndex_7cf53]
def wsX4_endHour_r2 : List Cond := [Cond.static yJ15_checkIndex_7cf53, Cond.initialized RJ15, Cond.code yJ15_checkIndex_7cf53 cJ15_checkIndex_7cf53 2 (some .int), Cond.methodLink RJ15 105 yJ3_checkIndex_8e157, Cond.static yJ3_checkIndex_8e157, Cond.initialized RJ3, Cond.code yJ3_checkIndex_8e157 cJ3_checkIndex_8e157 3 (some .int), Cond.methodLink RJx4a65c 123 yJx4a65c_elementData_915e3, Cond.instanceMethod yJx4a65c_elementData_915e3, Cond.selects RJx4a65c yJx4a65c_elementData_915e3 yJx4a65c_elementData_915e3, Cond.code yJx4a65c_elementData_915e3 cJx4a65c_elementData_915e3 2 (some (.object "java/lang/Object")), Cond.fieldLink RJx4a65c 9 "java/util/ArrayList" "elementData" "[Ljava/lang/Object;", Cond.methodLink RX1 60 yX0_gradient, Cond.instanceMethod yX0_gradient, Cond.selects RX0 yX0_gradient yX0_gradient, Cond.initialized RX0, Cond.code yX0_gradient cX0_gradient 3 (some .int), Cond.fieldLink RX0 19 "DryingKiln$Board" "moisture" "[I", Cond.methodLink RX0 37 Lib.Math.max.name, Cond.static Lib.Math.max.name, Cond.initialized "java/lang/Math", Cond.code Lib.Math.max.name Lib.Math.max.code 2 (some .int), Cond.methodLink RX0 42 Lib.Math.min.name, Cond.static Lib.Math.min.name]
def wsX4_endHour_r3 : List Cond := [Cond.code Lib.Math.min.name Lib.Math.min.code 2 (some .int)]
def wsX4_endHour : List Cond := .code yX4_endHour cX4_endHour 1 (some .int) :: ((wsX4_endHour_r1 ++ (wsX4_endHour_r2 ++ wsX4_endHour_r3)) ++ wsX40 ++ wsX30 ++ wsX10 ++ wsX00 ++ wsJx4a65c0)
def wsX4_runDryingHour_r1 : List Cond := [Cond.fieldLink RX4 26 "DryingKiln" "load" "LDryingKiln$Load;", Cond.fieldLink RX4 10 "DryingKiln" "settings" "LDryingKiln$Settings;", Cond.fieldLink RX4 44 "DryingKiln" "waterGivenOff" "I", Cond.methodLink RX4 156 yX1_passDryingHour, Cond.instanceMethod yX1_passDryingHour, Cond.selects RX1 yX1_passDryingHour yX1_passDryingHour, Cond.initialized RX1, Cond.code yX1_passDryingHour cX1_passDryingHour 7 (some .int), Cond.fieldLink RX1 22 "DryingKiln$Load" "boards" "Ljava/util/ArrayList;", Cond.fieldLink RX1 9 "DryingKiln$Load" "reversed" "Z", Cond.fieldLink RX1 72 "DryingKiln$Settings" "capacity" "I", Cond.methodLink RX1 51 Lib.Math.max.name, Cond.static Lib.Math.max.name, Cond.initialized "java/lang/Math", Cond.code Lib.Math.max.name Lib.Math.max.code 2 (some .int), Cond.classLink RX1 34 "DryingKiln$Board", Cond.fieldLink RX1 81 "DryingKiln$Settings" "reversalPeriod" "I", Cond.methodLink RX1 26 yJx4a65c_size_8abf5, Cond.instanceMethod yJx4a65c_size_8abf5, Cond.selects RJx4a65c yJx4a65c_size_8abf5 yJx4a65c_size_8abf5, Cond.initialized RJx4a65c, Cond.code yJx4a65c_size_8abf5 cJx4a65c_size_8abf5 1 (some .int), Cond.fieldLink RJx4a65c 48 "java/util/ArrayList" "size" "I", Cond.static yX4_quotient]
def wsX4_runDryingHour_r2 : List Cond := [Cond.initialized RX4, Cond.code yX4_quotient cX4_quotient 2 (some .int), Cond.methodLink RX1 30 yJx4a65c_get_915e3, Cond.instanceMethod yJx4a65c_get_915e3, Cond.selects RJx4a65c yJx4a65c_get_915e3 yJx4a65c_get_915e3, Cond.code yJx4a65c_get_915e3 cJx4a65c_get_915e3 2 (some (.object "java/lang/Object")), Cond.methodLink RJx4a65c 118 yJ15_checkIndex_7cf53, Cond.static yJ15_checkIndex_7cf53, Cond.initialized RJ15, Cond.code yJ15_checkIndex_7cf53 cJ15_checkIndex_7cf53 2 (some .int), Cond.methodLink RJ15 105 yJ3_checkIndex_8e157, Cond.static yJ3_checkIndex_8e157, Cond.initialized RJ3, Cond.code yJ3_checkIndex_8e157 cJ3_checkIndex_8e157 3 (some .int), Cond.methodLink RJx4a65c 123 yJx4a65c_elementData_915e3, Cond.instanceMethod yJx4a65c_elementData_915e3, Cond.selects RJx4a65c yJx4a65c_elementData_915e3 yJx4a65c_elementData_915e3, Cond.code yJx4a65c_elementData_915e3 cJx4a65c_elementData_915e3 2 (some (.object "java/lang/Object")), Cond.fieldLink RJx4a65c 9 "java/util/ArrayList" "elementData" "[Ljava/lang/Object;", Cond.methodLink RX1 77 yX0_passDryingHour, Cond.instanceMethod yX0_passDryingHour, Cond.selects RX0 yX0_passDryingHour yX0_passDryingHour, Cond.initialized RX0, Cond.code yX0_passDryingHour cX0_passDryingHour 5 (some .int)]
def wsX4_runDryingHour_r3 : List Cond := [Cond.fieldLink RX0 16 "DryingKiln$Board" "air" "I", Cond.fieldLink RX0 19 "DryingKiln$Board" "moisture" "[I", Cond.fieldLink RX0 45 "DryingKiln$Settings" "surface" "I", Cond.fieldLink RX0 50 "DryingKiln$Settings" "diffusion" "I", Cond.methodLink RX0 53 yX0_applyFlows, Cond.instanceMethod yX0_applyFlows, Cond.selects RX0 yX0_applyFlows yX0_applyFlows, Cond.code yX0_applyFlows cX0_applyFlows 7 none, Cond.methodLink RX1 84 yX1_countDryingHour, Cond.instanceMethod yX1_countDryingHour, Cond.selects RX1 yX1_countDryingHour yX1_countDryingHour, Cond.code yX1_countDryingHour cX1_countDryingHour 2 none, Cond.fieldLink RX1 15 "DryingKiln$Load" "dryingHours" "I", Cond.methodLink RX4 127 yX4_endHour, Cond.instanceMethod yX4_endHour, Cond.selects RX4 yX4_endHour yX4_endHour, Cond.code yX4_endHour cX4_endHour 1 (some .int), Cond.fieldLink RX4 40 "DryingKiln" "hoursRun" "I", Cond.fieldLink RX4 107 "DryingKiln$Settings" "strainLimit" "I", Cond.methodLink RX4 160 yX1_recordChecks, Cond.instanceMethod yX1_recordChecks, Cond.selects RX1 yX1_recordChecks yX1_recordChecks, Cond.code yX1_recordChecks cX1_recordChecks 6 (some .int), Cond.fieldLink RX1 94 "DryingKiln$Board" "checkedAt" "I"]
def wsX4_runDryingHour_r4 : List Cond := [Cond.constant RX1 47 (-1000005), Cond.methodLink RX1 60 yX0_gradient, Cond.instanceMethod yX0_gradient, Cond.selects RX0 yX0_gradient yX0_gradient, Cond.code yX0_gradient cX0_gradient 3 (some .int), Cond.methodLink RX0 37 Lib.Math.max.name, Cond.methodLink RX0 42 Lib.Math.min.name, Cond.static Lib.Math.min.name, Cond.code Lib.Math.min.name Lib.Math.min.code 2 (some .int)]
def wsX4_runDryingHour : List Cond := .code yX4_runDryingHour cX4_runDryingHour 3 (some .int) :: ((wsX4_runDryingHour_r1 ++ (wsX4_runDryingHour_r2 ++ (wsX4_runDryingHour_r3 ++ wsX4_runDryingHour_r4))) ++ wsX40 ++ wsX10 ++ wsX30 ++ wsJx4a65c0 ++ wsX00)
def wsX4_dry_r1 : List Cond := [Cond.constant RX4 51 (-1000003), Cond.fieldLink RX4 10 "DryingKiln" "settings" "LDryingKiln$Settings;", Cond.fieldLink RX4 110 "DryingKiln$Settings" "humidity" "I", Cond.methodLink RX4 47 yX4_isOutside, Cond.static yX4_isOutside, Cond.initialized RX4, Cond.code yX4_isOutside cX4_isOutside 3 (some .boolean), Cond.methodLink RX4 120 yX4_runDryingHour, Cond.instanceMethod yX4_runDryingHour, Cond.selects RX4 yX4_runDryingHour yX4_runDryingHour, Cond.code yX4_runDryingHour cX4_runDryingHour 3 (some .int), Cond.fieldLink RX4 26 "DryingKiln" "load" "LDryingKiln$Load;", Cond.fieldLink RX4 44 "DryingKiln" "waterGivenOff" "I", Cond.methodLink RX4 156 yX1_passDryingHour, Cond.instanceMethod yX1_passDryingHour, Cond.selects RX1 yX1_passDryingHour yX1_passDryingHour, Cond.initialized RX1, Cond.code yX1_passDryingHour cX1_passDryingHour 7 (some .int), Cond.fieldLink RX1 22 "DryingKiln$Load" "boards" "Ljava/util/ArrayList;", Cond.fieldLink RX1 9 "DryingKiln$Load" "reversed" "Z", Cond.fieldLink RX1 72 "DryingKiln$Settings" "capacity" "I", Cond.methodLink RX1 51 Lib.Math.max.name, Cond.static Lib.Math.max.name, Cond.initialized "java/lang/Math"]
def wsX4_dry_r2 : List Cond := [Cond.code Lib.Math.max.name Lib.Math.max.code 2 (some .int), Cond.classLink RX1 34 "DryingKiln$Board", Cond.fieldLink RX1 81 "DryingKiln$Settings" "reversalPeriod" "I", Cond.methodLink RX1 26 yJx4a65c_size_8abf5, Cond.instanceMethod yJx4a65c_size_8abf5, Cond.selects RJx4a65c yJx4a65c_size_8abf5 yJx4a65c_size_8abf5, Cond.initialized RJx4a65c, Cond.code yJx4a65c_size_8abf5 cJx4a65c_size_8abf5 1 (some .int), Cond.fieldLink RJx4a65c 48 "java/util/ArrayList" "size" "I", Cond.static yX4_quotient, Cond.code yX4_quotient cX4_quotient 2 (some .int), Cond.methodLink RX1 30 yJx4a65c_get_915e3, Cond.instanceMethod yJx4a65c_get_915e3, Cond.selects RJx4a65c yJx4a65c_get_915e3 yJx4a65c_get_915e3, Cond.code yJx4a65c_get_915e3 cJx4a65c_get_915e3 2 (some (.object "java/lang/Object")), Cond.methodLink RJx4a65c 118 yJ15_checkIndex_7cf53, Cond.static yJ15_checkIndex_7cf53, Cond.initialized RJ15, Cond.code yJ15_checkIndex_7cf53 cJ15_checkIndex_7cf53 2 (some .int), Cond.methodLink RJ15 105 yJ3_checkIndex_8e157, Cond.static yJ3_checkIndex_8e157, Cond.initialized RJ3, Cond.code yJ3_checkIndex_8e157 cJ3_checkIndex_8e157 3 (some .int), Cond.methodLink RJx4a65c 123 yJx4a65c_elementData_915e3]
def wsX4_dry_r3 : List Cond := [Cond.instanceMethod yJx4a65c_elementData_915e3, Cond.selects RJx4a65c yJx4a65c_elementData_915e3 yJx4a65c_elementData_915e3, Cond.code yJx4a65c_elementData_915e3 cJx4a65c_elementData_915e3 2 (some (.object "java/lang/Object")), Cond.fieldLink RJx4a65c 9 "java/util/ArrayList" "elementData" "[Ljava/lang/Object;", Cond.methodLink RX1 77 yX0_passDryingHour, Cond.instanceMethod yX0_passDryingHour, Cond.selects RX0 yX0_passDryingHour yX0_passDryingHour, Cond.initialized RX0, Cond.code yX0_passDryingHour cX0_passDryingHour 5 (some .int), Cond.fieldLink RX0 16 "DryingKiln$Board" "air" "I", Cond.fieldLink RX0 19 "DryingKiln$Board" "moisture" "[I", Cond.fieldLink RX0 45 "DryingKiln$Settings" "surface" "I", Cond.fieldLink RX0 50 "DryingKiln$Settings" "diffusion" "I", Cond.methodLink RX0 53 yX0_applyFlows, Cond.instanceMethod yX0_applyFlows, Cond.selects RX0 yX0_applyFlows yX0_applyFlows, Cond.code yX0_applyFlows cX0_applyFlows 7 none, Cond.methodLink RX1 84 yX1_countDryingHour, Cond.instanceMethod yX1_countDryingHour, Cond.selects RX1 yX1_countDryingHour yX1_countDryingHour, Cond.code yX1_countDryingHour cX1_countDryingHour 2 none, Cond.fieldLink RX1 15 "DryingKiln$Load" "dryingHours" "I", Cond.methodLink RX4 127 yX4_endHour, Cond.instanceMethod yX4_endHour]
def wsX4_dry_r4 : List Cond := [Cond.selects RX4 yX4_endHour yX4_endHour, Cond.code yX4_endHour cX4_endHour 1 (some .int), Cond.fieldLink RX4 40 "DryingKiln" "hoursRun" "I", Cond.fieldLink RX4 107 "DryingKiln$Settings" "strainLimit" "I", Cond.methodLink RX4 160 yX1_recordChecks, Cond.instanceMethod yX1_recordChecks, Cond.selects RX1 yX1_recordChecks yX1_recordChecks, Cond.code yX1_recordChecks cX1_recordChecks 6 (some .int), Cond.fieldLink RX1 94 "DryingKiln$Board" "checkedAt" "I", Cond.constant RX1 47 (-1000005), Cond.methodLink RX1 60 yX0_gradient, Cond.instanceMethod yX0_gradient, Cond.selects RX0 yX0_gradient yX0_gradient, Cond.code yX0_gradient cX0_gradient 3 (some .int), Cond.methodLink RX0 37 Lib.Math.max.name, Cond.methodLink RX0 42 Lib.Math.min.name, Cond.static Lib.Math.min.name, Cond.code Lib.Math.min.name Lib.Math.min.code 2 (some .int)]
def wsX4_dry : List Cond := .code yX4_dry cX4_dry 4 (some .int) :: ((wsX4_dry_r1 ++ (wsX4_dry_r2 ++ (wsX4_dry_r3 ++ wsX4_dry_r4))) ++ wsX40 ++ wsX30 ++ wsX10 ++ wsJx4a65c0 ++ wsX00)
def wsX4_rest_r1 : List Cond := [Cond.constant RX4 51 (-1000003), Cond.fieldLink RX4 26 "DryingKiln" "load" "LDryingKiln$Load;", Cond.fieldLink RX4 10 "DryingKiln" "settings" "LDryingKiln$Settings;", Cond.methodLink RX4 47 yX4_isOutside, Cond.static yX4_isOutside, Cond.initialized RX4, Cond.code yX4_isOutside cX4_isOutside 3 (some .boolean), Cond.methodLink RX4 123 yX1_passRestHour, Cond.instanceMethod yX1_passRestHour, Cond.selects RX1 yX1_passRestHour yX1_passRestHour, Cond.initialized RX1, Cond.code yX1_passRestHour cX1_passRestHour 3 none, Cond.fieldLink RX1 22 "DryingKiln$Load" "boards" "Ljava/util/ArrayList;", Cond.classLink RX1 34 "DryingKiln$Board", Cond.fieldLink RX1 88 "DryingKiln$Settings" "diffusion" "I", Cond.methodLink RX1 26 yJx4a65c_size_8abf5, Cond.instanceMethod yJx4a65c_size_8abf5, Cond.selects RJx4a65c yJx4a65c_size_8abf5 yJx4a65c_size_8abf5, Cond.initialized RJx4a65c, Cond.code yJx4a65c_size_8abf5 cJx4a65c_size_8abf5 1 (some .int), Cond.fieldLink RJx4a65c 48 "java/util/ArrayList" "size" "I", Cond.methodLink RX1 30 yJx4a65c_get_915e3, Cond.instanceMethod yJx4a65c_get_915e3, Cond.selects RJx4a65c yJx4a65c_get_915e3 yJx4a65c_get_915e3]
def wsX4_rest_r2 : List Cond := [Cond.code yJx4a65c_get_915e3 cJx4a65c_get_915e3 2 (some (.object "java/lang/Object")), Cond.methodLink RJx4a65c 118 yJ15_checkIndex_7cf53, Cond.static yJ15_checkIndex_7cf53, Cond.initialized RJ15, Cond.code yJ15_checkIndex_7cf53 cJ15_checkIndex_7cf53 2 (some .int), Cond.methodLink RJ15 105 yJ3_checkIndex_8e157, Cond.static yJ3_checkIndex_8e157, Cond.initialized RJ3, Cond.code yJ3_checkIndex_8e157 cJ3_checkIndex_8e157 3 (some .int), Cond.methodLink RJx4a65c 123 yJx4a65c_elementData_915e3, Cond.instanceMethod yJx4a65c_elementData_915e3, Cond.selects RJx4a65c yJx4a65c_elementData_915e3 yJx4a65c_elementData_915e3, Cond.code yJx4a65c_elementData_915e3 cJx4a65c_elementData_915e3 2 (some (.object "java/lang/Object")), Cond.fieldLink RJx4a65c 9 "java/util/ArrayList" "elementData" "[Ljava/lang/Object;", Cond.methodLink RX1 91 yX0_passRestHour, Cond.instanceMethod yX0_passRestHour, Cond.selects RX0 yX0_passRestHour yX0_passRestHour, Cond.initialized RX0, Cond.code yX0_passRestHour cX0_passRestHour 2 none, Cond.methodLink RX0 53 yX0_applyFlows, Cond.instanceMethod yX0_applyFlows, Cond.selects RX0 yX0_applyFlows yX0_applyFlows, Cond.code yX0_applyFlows cX0_applyFlows 7 none, Cond.fieldLink RX0 19 "DryingKiln$Board" "moisture" "[I"]
def wsX4_rest_r3 : List Cond := [Cond.methodLink RX4 127 yX4_endHour, Cond.instanceMethod yX4_endHour, Cond.selects RX4 yX4_endHour yX4_endHour, Cond.code yX4_endHour cX4_endHour 1 (some .int), Cond.fieldLink RX4 40 "DryingKiln" "hoursRun" "I", Cond.fieldLink RX4 107 "DryingKiln$Settings" "strainLimit" "I", Cond.methodLink RX4 160 yX1_recordChecks, Cond.instanceMethod yX1_recordChecks, Cond.selects RX1 yX1_recordChecks yX1_recordChecks, Cond.code yX1_recordChecks cX1_recordChecks 6 (some .int), Cond.fieldLink RX1 94 "DryingKiln$Board" "checkedAt" "I", Cond.constant RX1 47 (-1000005), Cond.methodLink RX1 60 yX0_gradient, Cond.instanceMethod yX0_gradient, Cond.selects RX0 yX0_gradient yX0_gradient, Cond.code yX0_gradient cX0_gradient 3 (some .int), Cond.methodLink RX0 37 Lib.Math.max.name, Cond.static Lib.Math.max.name, Cond.initialized "java/lang/Math", Cond.code Lib.Math.max.name Lib.Math.max.code 2 (some .int), Cond.methodLink RX0 42 Lib.Math.min.name, Cond.static Lib.Math.min.name, Cond.code Lib.Math.min.name Lib.Math.min.code 2 (some .int)]
def wsX4_rest : List Cond := .code yX4_rest cX4_rest 4 (some .int) :: ((wsX4_rest_r1 ++ (wsX4_rest_r2 ++ wsX4_rest_r3)) ++ wsX40 ++ wsX10 ++ wsX30 ++ wsJx4a65c0 ++ wsX00)
def wsX4_hour : List Cond := .code yX4_hour cX4_hour 1 (some .int) :: ([.fieldLink RX4 40 "DryingKiln" "hoursRun" "I"] ++ wsX40)
def wsX4_evaporated : List Cond := .code yX4_evaporated cX4_evaporated 1 (some .int) :: ([.fieldLink RX4 44 "DryingKiln" "waterGivenOff" "I"] ++ wsX40)
def wsX4_airMoisture_r1 : List Cond := [Cond.fieldLink RX4 26 "DryingKiln" "load" "LDryingKiln$Load;", Cond.fieldLink RX4 130 "DryingKiln$Board" "air" "I", Cond.constant RX4 70 (-1000001), Cond.methodLink RX4 66 yX1_has, Cond.instanceMethod yX1_has, Cond.selects RX1 yX1_has yX1_has, Cond.initialized RX1, Cond.code yX1_has cX1_has 2 (some .boolean), Cond.fieldLink RX1 22 "DryingKiln$Load" "boards" "Ljava/util/ArrayList;", Cond.methodLink RX1 26 yJx4a65c_size_8abf5, Cond.instanceMethod yJx4a65c_size_8abf5, Cond.selects RJx4a65c yJx4a65c_size_8abf5 yJx4a65c_size_8abf5, Cond.initialized RJx4a65c, Cond.code yJx4a65c_size_8abf5 cJx4a65c_size_8abf5 1 (some .int), Cond.fieldLink RJx4a65c 48 "java/util/ArrayList" "size" "I", Cond.methodLink RX4 71 yX1_boardAt, Cond.instanceMethod yX1_boardAt, Cond.selects RX1 yX1_boardAt yX1_boardAt, Cond.code yX1_boardAt cX1_boardAt 2 (some (.object "DryingKiln$Board")), Cond.classLink RX1 34 "DryingKiln$Board", Cond.methodLink RX1 30 yJx4a65c_get_915e3, Cond.instanceMethod yJx4a65c_get_915e3, Cond.selects RJx4a65c yJx4a65c_get_915e3 yJx4a65c_get_915e3, Cond.code yJx4a65c_get_915e3 cJx4a65c_get_915e3 2 (some (.object "java/lang/Object"))]
def wsX4_airMoisture_r2 : List Cond := [Cond.methodLink RJx4a65c 118 yJ15_checkIndex_7cf53, Cond.static yJ15_checkIndex_7cf53, Cond.initialized RJ15, Cond.code yJ15_checkIndex_7cf53 cJ15_checkIndex_7cf53 2 (some .int), Cond.methodLink RJ15 105 yJ3_checkIndex_8e157, Cond.static yJ3_checkIndex_8e157, Cond.initialized RJ3, Cond.code yJ3_checkIndex_8e157 cJ3_checkIndex_8e157 3 (some .int), Cond.methodLink RJx4a65c 123 yJx4a65c_elementData_915e3, Cond.instanceMethod yJx4a65c_elementData_915e3, Cond.selects RJx4a65c yJx4a65c_elementData_915e3 yJx4a65c_elementData_915e3, Cond.code yJx4a65c_elementData_915e3 cJx4a65c_elementData_915e3 2 (some (.object "java/lang/Object")), Cond.fieldLink RJx4a65c 9 "java/util/ArrayList" "elementData" "[Ljava/lang/Object;"]
def wsX4_airMoisture : List Cond := .code yX4_airMoisture cX4_airMoisture 2 (some .int) :: ((wsX4_airMoisture_r1 ++ wsX4_airMoisture_r2) ++ wsX40 ++ wsX00 ++ wsX10 ++ wsJx4a65c0)
def wsX4_addStage : List Cond := .code yX4_addStage cX4_addStage 3 (some .int) :: ([.constant RX4 51 (-1000003), .fieldLink RX4 19 "DryingKiln" "schedule" "LDryingKiln$Schedule;", .methodLink RX4 47 yX4_isOutside, .static yX4_isOutside, .initialized RX4, .code yX4_isOutside cX4_isOutside 3 (some .boolean), .methodLink RX4 133 yX2_append, .instanceMethod yX2_append, .selects RX2 yX2_append yX2_append, .initialized RX2, .code yX2_append cX2_append 5 (some .int), .fieldLink RX2 18 "DryingKiln$Schedule" "size" "I", .fieldLink RX2 9 "DryingKiln$Schedule" "thresholds" "[I", .constant RX2 22 (-1000003), .constant RX2 23 (-1000004), .fieldLink RX2 15 "DryingKiln$Schedule" "inlets" "[I"] ++ wsX40 ++ wsX20)
def wsX4_clearStages : List Cond := .code yX4_clearStages cX4_clearStages 1 (some .int) :: ([.fieldLink RX4 19 "DryingKiln" "schedule" "LDryingKiln$Schedule;", .methodLink RX4 137 yX2_clear, .instanceMethod yX2_clear, .selects RX2 yX2_clear yX2_clear, .initialized RX2, .code yX2_clear cX2_clear 2 (some .int), .fieldLink RX2 18 "DryingKiln$Schedule" "size" "I"] ++ wsX40 ++ wsX20)
def wsX4_currentStage_r1 : List Cond := [Cond.fieldLink RX4 26 "DryingKiln" "load" "LDryingKiln$Load;", Cond.constant RX4 140 (-1000005), Cond.fieldLink RX4 19 "DryingKiln" "schedule" "LDryingKiln$Schedule;", Cond.methodLink RX4 52 yX1_size, Cond.instanceMethod yX1_size, Cond.selects RX1 yX1_size yX1_size, Cond.initialized RX1, Cond.code yX1_size cX1_size 1 (some .int), Cond.fieldLink RX1 22 "DryingKiln$Load" "boards" "Ljava/util/ArrayList;", Cond.methodLink RX1 26 yJx4a65c_size_8abf5, Cond.instanceMethod yJx4a65c_size_8abf5, Cond.selects RJx4a65c yJx4a65c_size_8abf5 yJx4a65c_size_8abf5, Cond.initialized RJx4a65c, Cond.code yJx4a65c_size_8abf5 cJx4a65c_size_8abf5 1 (some .int), Cond.fieldLink RJx4a65c 48 "java/util/ArrayList" "size" "I", Cond.methodLink RX4 141 yX1_greatestAverage, Cond.instanceMethod yX1_greatestAverage, Cond.selects RX1 yX1_greatestAverage yX1_greatestAverage, Cond.code yX1_greatestAverage cX1_greatestAverage 3 (some .int), Cond.classLink RX1 34 "DryingKiln$Board", Cond.methodLink RX1 51 Lib.Math.max.name, Cond.static Lib.Math.max.name, Cond.initialized "java/lang/Math", Cond.code Lib.Math.max.name Lib.Math.max.code 2 (some .int)]
def wsX4_currentStage_r2 : List Cond := [Cond.methodLink RX1 30 yJx4a65c_get_915e3, Cond.instanceMethod yJx4a65c_get_915e3, Cond.selects RJx4a65c yJx4a65c_get_915e3 yJx4a65c_get_915e3, Cond.code yJx4a65c_get_915e3 cJx4a65c_get_915e3 2 (some (.object "java/lang/Object")), Cond.methodLink RJx4a65c 118 yJ15_checkIndex_7cf53, Cond.static yJ15_checkIndex_7cf53, Cond.initialized RJ15, Cond.code yJ15_checkIndex_7cf53 cJ15_checkIndex_7cf53 2 (some .int), Cond.methodLink RJ15 105 yJ3_checkIndex_8e157, Cond.static yJ3_checkIndex_8e157, Cond.initialized RJ3, Cond.code yJ3_checkIndex_8e157 cJ3_checkIndex_8e157 3 (some .int), Cond.methodLink RJx4a65c 123 yJx4a65c_elementData_915e3, Cond.instanceMethod yJx4a65c_elementData_915e3, Cond.selects RJx4a65c yJx4a65c_elementData_915e3 yJx4a65c_elementData_915e3, Cond.code yJx4a65c_elementData_915e3 cJx4a65c_elementData_915e3 2 (some (.object "java/lang/Object")), Cond.fieldLink RJx4a65c 9 "java/util/ArrayList" "elementData" "[Ljava/lang/Object;", Cond.methodLink RX1 48 yX0_average, Cond.instanceMethod yX0_average, Cond.selects RX0 yX0_average yX0_average, Cond.initialized RX0, Cond.code yX0_average cX0_average 1 (some .int), Cond.fieldLink RX0 19 "DryingKiln$Board" "moisture" "[I", Cond.methodLink RX0 29 yX0_water]
def wsX4_currentStage_r3 : List Cond := [Cond.instanceMethod yX0_water, Cond.selects RX0 yX0_water yX0_water, Cond.code yX0_water cX0_water 3 (some .int), Cond.static yX4_quotient, Cond.initialized RX4, Cond.code yX4_quotient cX4_quotient 2 (some .int), Cond.methodLink RX4 144 yX2_stageFor, Cond.instanceMethod yX2_stageFor, Cond.selects RX2 yX2_stageFor yX2_stageFor, Cond.initialized RX2, Cond.code yX2_stageFor cX2_stageFor 4 (some .int), Cond.constant RX2 24 (-1000005), Cond.fieldLink RX2 18 "DryingKiln$Schedule" "size" "I", Cond.fieldLink RX2 9 "DryingKiln$Schedule" "thresholds" "[I"]
def wsX4_currentStage : List Cond := .code yX4_currentStage cX4_currentStage 1 (some .int) :: ((wsX4_currentStage_r1 ++ (wsX4_currentStage_r2 ++ wsX4_currentStage_r3)) ++ wsX40 ++ wsX10 ++ wsJx4a65c0 ++ wsX00 ++ wsX20)
def wsX4_scheduledInlet_r1 : List Cond := [Cond.fieldLink RX4 19 "DryingKiln" "schedule" "LDryingKiln$Schedule;", Cond.fieldLink RX4 10 "DryingKiln" "settings" "LDryingKiln$Settings;", Cond.fieldLink RX4 110 "DryingKiln$Settings" "humidity" "I", Cond.methodLink RX4 163 yX4_currentStage, Cond.instanceMethod yX4_currentStage, Cond.selects RX4 yX4_currentStage yX4_currentStage, Cond.initialized RX4, Cond.code yX4_currentStage cX4_currentStage 1 (some .int), Cond.fieldLink RX4 26 "DryingKiln" "load" "LDryingKiln$Load;", Cond.constant RX4 140 (-1000005), Cond.methodLink RX4 52 yX1_size, Cond.instanceMethod yX1_size, Cond.selects RX1 yX1_size yX1_size, Cond.initialized RX1, Cond.code yX1_size cX1_size 1 (some .int), Cond.fieldLink RX1 22 "DryingKiln$Load" "boards" "Ljava/util/ArrayList;", Cond.methodLink RX1 26 yJx4a65c_size_8abf5, Cond.instanceMethod yJx4a65c_size_8abf5, Cond.selects RJx4a65c yJx4a65c_size_8abf5 yJx4a65c_size_8abf5, Cond.initialized RJx4a65c, Cond.code yJx4a65c_size_8abf5 cJx4a65c_size_8abf5 1 (some .int), Cond.fieldLink RJx4a65c 48 "java/util/ArrayList" "size" "I", Cond.methodLink RX4 141 yX1_greatestAverage, Cond.instanceMethod yX1_greatestAverage]
def wsX4_scheduledInlet_r2 : List Cond := [Cond.selects RX1 yX1_greatestAverage yX1_greatestAverage, Cond.code yX1_greatestAverage cX1_greatestAverage 3 (some .int), Cond.classLink RX1 34 "DryingKiln$Board", Cond.methodLink RX1 51 Lib.Math.max.name, Cond.static Lib.Math.max.name, Cond.initialized "java/lang/Math", Cond.code Lib.Math.max.name Lib.Math.max.code 2 (some .int), Cond.methodLink RX1 30 yJx4a65c_get_915e3, Cond.instanceMethod yJx4a65c_get_915e3, Cond.selects RJx4a65c yJx4a65c_get_915e3 yJx4a65c_get_915e3, Cond.code yJx4a65c_get_915e3 cJx4a65c_get_915e3 2 (some (.object "java/lang/Object")), Cond.methodLink RJx4a65c 118 yJ15_checkIndex_7cf53, Cond.static yJ15_checkIndex_7cf53, Cond.initialized RJ15, Cond.code yJ15_checkIndex_7cf53 cJ15_checkIndex_7cf53 2 (some .int), Cond.methodLink RJ15 105 yJ3_checkIndex_8e157, Cond.static yJ3_checkIndex_8e157, Cond.initialized RJ3, Cond.code yJ3_checkIndex_8e157 cJ3_checkIndex_8e157 3 (some .int), Cond.methodLink RJx4a65c 123 yJx4a65c_elementData_915e3, Cond.instanceMethod yJx4a65c_elementData_915e3, Cond.selects RJx4a65c yJx4a65c_elementData_915e3 yJx4a65c_elementData_915e3, Cond.code yJx4a65c_elementData_915e3 cJx4a65c_elementData_915e3 2 (some (.object "java/lang/Object")), Cond.fieldLink RJx4a65c 9 "java/util/ArrayList" "elementData" "[Ljava/lang/Object;"]
def wsX4_scheduledInlet_r3 : List Cond := [Cond.methodLink RX1 48 yX0_average, Cond.instanceMethod yX0_average, Cond.selects RX0 yX0_average yX0_average, Cond.initialized RX0, Cond.code yX0_average cX0_average 1 (some .int), Cond.fieldLink RX0 19 "DryingKiln$Board" "moisture" "[I", Cond.methodLink RX0 29 yX0_water, Cond.instanceMethod yX0_water, Cond.selects RX0 yX0_water yX0_water, Cond.code yX0_water cX0_water 3 (some .int), Cond.static yX4_quotient, Cond.code yX4_quotient cX4_quotient 2 (some .int), Cond.methodLink RX4 144 yX2_stageFor, Cond.instanceMethod yX2_stageFor, Cond.selects RX2 yX2_stageFor yX2_stageFor, Cond.initialized RX2, Cond.code yX2_stageFor cX2_stageFor 4 (some .int), Cond.constant RX2 24 (-1000005), Cond.fieldLink RX2 18 "DryingKiln$Schedule" "size" "I", Cond.fieldLink RX2 9 "DryingKiln$Schedule" "thresholds" "[I", Cond.methodLink RX4 166 yX2_inletOf, Cond.instanceMethod yX2_inletOf, Cond.selects RX2 yX2_inletOf yX2_inletOf, Cond.code yX2_inletOf cX2_inletOf 3 (some .int)]
def wsX4_scheduledInlet_r4 : List Cond := [Cond.fieldLink RX2 15 "DryingKiln$Schedule" "inlets" "[I"]
def wsX4_scheduledInlet : List Cond := .code yX4_scheduledInlet cX4_scheduledInlet 1 (some .int) :: ((wsX4_scheduledInlet_r1 ++ (wsX4_scheduledInlet_r2 ++ (wsX4_scheduledInlet_r3 ++ wsX4_scheduledInlet_r4))) ++ wsX40 ++ wsX30 ++ wsX10 ++ wsJx4a65c0 ++ wsX00 ++ wsX20)
def wsX4_runSchedule_r1 : List Cond := [Cond.constant RX4 51 (-1000003), Cond.fieldLink RX4 26 "DryingKiln" "load" "LDryingKiln$Load;", Cond.methodLink RX4 47 yX4_isOutside, Cond.static yX4_isOutside, Cond.initialized RX4, Cond.code yX4_isOutside cX4_isOutside 3 (some .boolean), Cond.methodLink RX4 147 yX1_isWetterThan, Cond.instanceMethod yX1_isWetterThan, Cond.selects RX1 yX1_isWetterThan yX1_isWetterThan, Cond.initialized RX1, Cond.code yX1_isWetterThan cX1_isWetterThan 2 (some .boolean), Cond.methodLink RX1 57 yX1_greatestAverage, Cond.instanceMethod yX1_greatestAverage, Cond.selects RX1 yX1_greatestAverage yX1_greatestAverage, Cond.code yX1_greatestAverage cX1_greatestAverage 3 (some .int), Cond.fieldLink RX1 22 "DryingKiln$Load" "boards" "Ljava/util/ArrayList;", Cond.classLink RX1 34 "DryingKiln$Board", Cond.methodLink RX1 51 Lib.Math.max.name, Cond.static Lib.Math.max.name, Cond.initialized "java/lang/Math", Cond.code Lib.Math.max.name Lib.Math.max.code 2 (some .int), Cond.methodLink RX1 26 yJx4a65c_size_8abf5, Cond.instanceMethod yJx4a65c_size_8abf5, Cond.selects RJx4a65c yJx4a65c_size_8abf5 yJx4a65c_size_8abf5]
def wsX4_runSchedule_r2 : List Cond := [Cond.initialized RJx4a65c, Cond.code yJx4a65c_size_8abf5 cJx4a65c_size_8abf5 1 (some .int), Cond.fieldLink RJx4a65c 48 "java/util/ArrayList" "size" "I", Cond.methodLink RX1 30 yJx4a65c_get_915e3, Cond.instanceMethod yJx4a65c_get_915e3, Cond.selects RJx4a65c yJx4a65c_get_915e3 yJx4a65c_get_915e3, Cond.code yJx4a65c_get_915e3 cJx4a65c_get_915e3 2 (some (.object "java/lang/Object")), Cond.methodLink RJx4a65c 118 yJ15_checkIndex_7cf53, Cond.static yJ15_checkIndex_7cf53, Cond.initialized RJ15, Cond.code yJ15_checkIndex_7cf53 cJ15_checkIndex_7cf53 2 (some .int), Cond.methodLink RJ15 105 yJ3_checkIndex_8e157, Cond.static yJ3_checkIndex_8e157, Cond.initialized RJ3, Cond.code yJ3_checkIndex_8e157 cJ3_checkIndex_8e157 3 (some .int), Cond.methodLink RJx4a65c 123 yJx4a65c_elementData_915e3, Cond.instanceMethod yJx4a65c_elementData_915e3, Cond.selects RJx4a65c yJx4a65c_elementData_915e3 yJx4a65c_elementData_915e3, Cond.code yJx4a65c_elementData_915e3 cJx4a65c_elementData_915e3 2 (some (.object "java/lang/Object")), Cond.fieldLink RJx4a65c 9 "java/util/ArrayList" "elementData" "[Ljava/lang/Object;", Cond.methodLink RX1 48 yX0_average, Cond.instanceMethod yX0_average, Cond.selects RX0 yX0_average yX0_average, Cond.initialized RX0]
def wsX4_runSchedule_r3 : List Cond := [Cond.code yX0_average cX0_average 1 (some .int), Cond.fieldLink RX0 19 "DryingKiln$Board" "moisture" "[I", Cond.methodLink RX0 29 yX0_water, Cond.instanceMethod yX0_water, Cond.selects RX0 yX0_water yX0_water, Cond.code yX0_water cX0_water 3 (some .int), Cond.static yX4_quotient, Cond.code yX4_quotient cX4_quotient 2 (some .int), Cond.methodLink RX4 150 yX4_scheduledInlet, Cond.instanceMethod yX4_scheduledInlet, Cond.selects RX4 yX4_scheduledInlet yX4_scheduledInlet, Cond.code yX4_scheduledInlet cX4_scheduledInlet 1 (some .int), Cond.fieldLink RX4 19 "DryingKiln" "schedule" "LDryingKiln$Schedule;", Cond.fieldLink RX4 10 "DryingKiln" "settings" "LDryingKiln$Settings;", Cond.fieldLink RX4 110 "DryingKiln$Settings" "humidity" "I", Cond.methodLink RX4 163 yX4_currentStage, Cond.instanceMethod yX4_currentStage, Cond.selects RX4 yX4_currentStage yX4_currentStage, Cond.code yX4_currentStage cX4_currentStage 1 (some .int), Cond.constant RX4 140 (-1000005), Cond.methodLink RX4 52 yX1_size, Cond.instanceMethod yX1_size, Cond.selects RX1 yX1_size yX1_size, Cond.code yX1_size cX1_size 1 (some .int)]
def wsX4_runSchedule_r4 : List Cond := [Cond.methodLink RX4 141 yX1_greatestAverage, Cond.methodLink RX4 144 yX2_stageFor, Cond.instanceMethod yX2_stageFor, Cond.selects RX2 yX2_stageFor yX2_stageFor, Cond.initialized RX2, Cond.code yX2_stageFor cX2_stageFor 4 (some .int), Cond.constant RX2 24 (-1000005), Cond.fieldLink RX2 18 "DryingKiln$Schedule" "size" "I", Cond.fieldLink RX2 9 "DryingKiln$Schedule" "thresholds" "[I", Cond.methodLink RX4 166 yX2_inletOf, Cond.instanceMethod yX2_inletOf, Cond.selects RX2 yX2_inletOf yX2_inletOf, Cond.code yX2_inletOf cX2_inletOf 3 (some .int), Cond.fieldLink RX2 15 "DryingKiln$Schedule" "inlets" "[I", Cond.methodLink RX4 120 yX4_runDryingHour, Cond.instanceMethod yX4_runDryingHour, Cond.selects RX4 yX4_runDryingHour yX4_runDryingHour, Cond.code yX4_runDryingHour cX4_runDryingHour 3 (some .int), Cond.fieldLink RX4 44 "DryingKiln" "waterGivenOff" "I", Cond.methodLink RX4 156 yX1_passDryingHour, Cond.instanceMethod yX1_passDryingHour, Cond.selects RX1 yX1_passDryingHour yX1_passDryingHour, Cond.code yX1_passDryingHour cX1_passDryingHour 7 (some .int), Cond.fieldLink RX1 9 "DryingKiln$Load" "reversed" "Z"]
def wsX4_runSchedule_r5 : List Cond := [Cond.fieldLink RX1 72 "DryingKiln$Settings" "capacity" "I", Cond.fieldLink RX1 81 "DryingKiln$Settings" "reversalPeriod" "I", Cond.methodLink RX1 77 yX0_passDryingHour, Cond.instanceMethod yX0_passDryingHour, Cond.selects RX0 yX0_passDryingHour yX0_passDryingHour, Cond.code yX0_passDryingHour cX0_passDryingHour 5 (some .int), Cond.fieldLink RX0 16 "DryingKiln$Board" "air" "I", Cond.fieldLink RX0 45 "DryingKiln$Settings" "surface" "I", Cond.fieldLink RX0 50 "DryingKiln$Settings" "diffusion" "I", Cond.methodLink RX0 53 yX0_applyFlows, Cond.instanceMethod yX0_applyFlows, Cond.selects RX0 yX0_applyFlows yX0_applyFlows, Cond.code yX0_applyFlows cX0_applyFlows 7 none, Cond.methodLink RX1 84 yX1_countDryingHour, Cond.instanceMethod yX1_countDryingHour, Cond.selects RX1 yX1_countDryingHour yX1_countDryingHour, Cond.code yX1_countDryingHour cX1_countDryingHour 2 none, Cond.fieldLink RX1 15 "DryingKiln$Load" "dryingHours" "I", Cond.methodLink RX4 127 yX4_endHour, Cond.instanceMethod yX4_endHour, Cond.selects RX4 yX4_endHour yX4_endHour, Cond.code yX4_endHour cX4_endHour 1 (some .int), Cond.fieldLink RX4 40 "DryingKiln" "hoursRun" "I", Cond.fieldLink RX4 107 "DryingKiln$Settings" "strainLimit" "I"]
def wsX4_runSchedule_r6 : List Cond := [Cond.methodLink RX4 160 yX1_recordChecks, Cond.instanceMethod yX1_recordChecks, Cond.selects RX1 yX1_recordChecks yX1_recordChecks, Cond.code yX1_recordChecks cX1_recordChecks 6 (some .int), Cond.fieldLink RX1 94 "DryingKiln$Board" "checkedAt" "I", Cond.constant RX1 47 (-1000005), Cond.methodLink RX1 60 yX0_gradient, Cond.instanceMethod yX0_gradient, Cond.selects RX0 yX0_gradient yX0_gradient, Cond.code yX0_gradient cX0_gradient 3 (some .int), Cond.methodLink RX0 37 Lib.Math.max.name, Cond.methodLink RX0 42 Lib.Math.min.name, Cond.static Lib.Math.min.name, Cond.code Lib.Math.min.name Lib.Math.min.code 2 (some .int)]
def wsX4_runSchedule : List Cond := .code yX4_runSchedule cX4_runSchedule 4 (some .int) :: ((wsX4_runSchedule_r1 ++ (wsX4_runSchedule_r2 ++ (wsX4_runSchedule_r3 ++ (wsX4_runSchedule_r4 ++ (wsX4_runSchedule_r5 ++ wsX4_runSchedule_r6))))) ++ wsX40 ++ wsX10 ++ wsJx4a65c0 ++ wsX00 ++ wsX30 ++ wsX20)
def wsX4_chooseInlet_r1 : List Cond := [Cond.fieldLink RX4 33 "DryingKiln" "trial" "LDryingKiln$Load;", Cond.fieldLink RX4 30 "DryingKiln" "planned" "LDryingKiln$Load;", Cond.fieldLink RX4 10 "DryingKiln" "settings" "LDryingKiln$Settings;", Cond.fieldLink RX4 107 "DryingKiln$Settings" "strainLimit" "I", Cond.constant RX4 176 (-1000006), Cond.methodLink RX4 169 yX1_copyFrom, Cond.instanceMethod yX1_copyFrom, Cond.selects RX1 yX1_copyFrom yX1_copyFrom, Cond.initialized RX1, Cond.code yX1_copyFrom cX1_copyFrom 3 none, Cond.fieldLink RX1 22 "DryingKiln$Load" "boards" "Ljava/util/ArrayList;", Cond.classLink RX1 34 "DryingKiln$Board", Cond.fieldLink RX1 9 "DryingKiln$Load" "reversed" "Z", Cond.fieldLink RX1 15 "DryingKiln$Load" "dryingHours" "I", Cond.methodLink RX1 26 yJx4a65c_size_8abf5, Cond.instanceMethod yJx4a65c_size_8abf5, Cond.selects RJx4a65c yJx4a65c_size_8abf5 yJx4a65c_size_8abf5, Cond.initialized RJx4a65c, Cond.code yJx4a65c_size_8abf5 cJx4a65c_size_8abf5 1 (some .int), Cond.fieldLink RJx4a65c 48 "java/util/ArrayList" "size" "I", Cond.methodLink RX1 30 yJx4a65c_get_915e3, Cond.instanceMethod yJx4a65c_get_915e3, Cond.selects RJx4a65c yJx4a65c_get_915e3 yJx4a65c_get_915e3, Cond.code yJx4a65c_get_915e3 cJx4a65c_get_915e3 2 (some (.object "java/lang/Object"))]
def wsX4_chooseInlet_r2 : List Cond := [Cond.methodLink RJx4a65c 118 yJ15_checkIndex_7cf53, Cond.static yJ15_checkIndex_7cf53, Cond.initialized RJ15, Cond.code yJ15_checkIndex_7cf53 cJ15_checkIndex_7cf53 2 (some .int), Cond.methodLink RJ15 105 yJ3_checkIndex_8e157, Cond.static yJ3_checkIndex_8e157, Cond.initialized RJ3, Cond.code yJ3_checkIndex_8e157 cJ3_checkIndex_8e157 3 (some .int), Cond.methodLink RJx4a65c 123 yJx4a65c_elementData_915e3, Cond.instanceMethod yJx4a65c_elementData_915e3, Cond.selects RJx4a65c yJx4a65c_elementData_915e3 yJx4a65c_elementData_915e3, Cond.code yJx4a65c_elementData_915e3 cJx4a65c_elementData_915e3 2 (some (.object "java/lang/Object")), Cond.fieldLink RJx4a65c 9 "java/util/ArrayList" "elementData" "[Ljava/lang/Object;", Cond.methodLink RX1 40 yX0_copyMoistureFrom, Cond.instanceMethod yX0_copyMoistureFrom, Cond.selects RX0 yX0_copyMoistureFrom yX0_copyMoistureFrom, Cond.initialized RX0, Cond.code yX0_copyMoistureFrom cX0_copyMoistureFrom 3 none, Cond.fieldLink RX0 19 "DryingKiln$Board" "moisture" "[I", Cond.methodLink RX0 42 Lib.Math.min.name, Cond.static Lib.Math.min.name, Cond.initialized "java/lang/Math", Cond.code Lib.Math.min.name Lib.Math.min.code 2 (some .int), Cond.methodLink RX0 57 arraycopyName]
def wsX4_chooseInlet_r3 : List Cond := [Cond.native arraycopyName, Cond.static arraycopyName, Cond.initialized "java/lang/System", Cond.methodLink RX4 156 yX1_passDryingHour, Cond.instanceMethod yX1_passDryingHour, Cond.selects RX1 yX1_passDryingHour yX1_passDryingHour, Cond.code yX1_passDryingHour cX1_passDryingHour 7 (some .int), Cond.fieldLink RX1 72 "DryingKiln$Settings" "capacity" "I", Cond.methodLink RX1 51 Lib.Math.max.name, Cond.static Lib.Math.max.name, Cond.code Lib.Math.max.name Lib.Math.max.code 2 (some .int), Cond.fieldLink RX1 81 "DryingKiln$Settings" "reversalPeriod" "I", Cond.static yX4_quotient, Cond.initialized RX4, Cond.code yX4_quotient cX4_quotient 2 (some .int), Cond.methodLink RX1 77 yX0_passDryingHour, Cond.instanceMethod yX0_passDryingHour, Cond.selects RX0 yX0_passDryingHour yX0_passDryingHour, Cond.code yX0_passDryingHour cX0_passDryingHour 5 (some .int), Cond.fieldLink RX0 16 "DryingKiln$Board" "air" "I", Cond.fieldLink RX0 45 "DryingKiln$Settings" "surface" "I", Cond.fieldLink RX0 50 "DryingKiln$Settings" "diffusion" "I", Cond.methodLink RX0 53 yX0_applyFlows, Cond.instanceMethod yX0_applyFlows]
def wsX4_chooseInlet_r4 : List Cond := [Cond.selects RX0 yX0_applyFlows yX0_applyFlows, Cond.code yX0_applyFlows cX0_applyFlows 7 none, Cond.methodLink RX1 84 yX1_countDryingHour, Cond.instanceMethod yX1_countDryingHour, Cond.selects RX1 yX1_countDryingHour yX1_countDryingHour, Cond.code yX1_countDryingHour cX1_countDryingHour 2 none, Cond.methodLink RX4 177 yX1_greatestGradient, Cond.instanceMethod yX1_greatestGradient, Cond.selects RX1 yX1_greatestGradient yX1_greatestGradient, Cond.code yX1_greatestGradient cX1_greatestGradient 3 (some .int), Cond.methodLink RX1 60 yX0_gradient, Cond.instanceMethod yX0_gradient, Cond.selects RX0 yX0_gradient yX0_gradient, Cond.code yX0_gradient cX0_gradient 3 (some .int), Cond.methodLink RX0 37 Lib.Math.max.name]
def wsX4_chooseInlet : List Cond := .code yX4_chooseInlet cX4_chooseInlet 2 (some .int) :: ((wsX4_chooseInlet_r1 ++ (wsX4_chooseInlet_r2 ++ (wsX4_chooseInlet_r3 ++ wsX4_chooseInlet_r4))) ++ wsX40 ++ wsX30 ++ wsX10 ++ wsJx4a65c0 ++ wsX00)
def wsX4_makePlan_r1 : List Cond := [Cond.fieldLink RX4 30 "DryingKiln" "planned" "LDryingKiln$Load;", Cond.fieldLink RX4 26 "DryingKiln" "load" "LDryingKiln$Load;", Cond.fieldLink RX4 36 "DryingKiln" "plan" "[I", Cond.constant RX4 176 (-1000006), Cond.fieldLink RX4 10 "DryingKiln" "settings" "LDryingKiln$Settings;", Cond.fieldLink RX4 33 "DryingKiln" "trial" "LDryingKiln$Load;", Cond.constant RX4 140 (-1000005), Cond.methodLink RX4 169 yX1_copyFrom, Cond.instanceMethod yX1_copyFrom, Cond.selects RX1 yX1_copyFrom yX1_copyFrom, Cond.initialized RX1, Cond.code yX1_copyFrom cX1_copyFrom 3 none, Cond.fieldLink RX1 22 "DryingKiln$Load" "boards" "Ljava/util/ArrayList;", Cond.classLink RX1 34 "DryingKiln$Board", Cond.fieldLink RX1 9 "DryingKiln$Load" "reversed" "Z", Cond.fieldLink RX1 15 "DryingKiln$Load" "dryingHours" "I", Cond.methodLink RX1 26 yJx4a65c_size_8abf5, Cond.instanceMethod yJx4a65c_size_8abf5, Cond.selects RJx4a65c yJx4a65c_size_8abf5 yJx4a65c_size_8abf5, Cond.initialized RJx4a65c, Cond.code yJx4a65c_size_8abf5 cJx4a65c_size_8abf5 1 (some .int), Cond.fieldLink RJx4a65c 48 "java/util/ArrayList" "size" "I", Cond.methodLink RX1 30 yJx4a65c_get_915e3, Cond.instanceMethod yJx4a65c_get_915e3]
def wsX4_makePlan_r2 : List Cond := [Cond.selects RJx4a65c yJx4a65c_get_915e3 yJx4a65c_get_915e3, Cond.code yJx4a65c_get_915e3 cJx4a65c_get_915e3 2 (some (.object "java/lang/Object")), Cond.methodLink RJx4a65c 118 yJ15_checkIndex_7cf53, Cond.static yJ15_checkIndex_7cf53, Cond.initialized RJ15, Cond.code yJ15_checkIndex_7cf53 cJ15_checkIndex_7cf53 2 (some .int), Cond.methodLink RJ15 105 yJ3_checkIndex_8e157, Cond.static yJ3_checkIndex_8e157, Cond.initialized RJ3, Cond.code yJ3_checkIndex_8e157 cJ3_checkIndex_8e157 3 (some .int), Cond.methodLink RJx4a65c 123 yJx4a65c_elementData_915e3, Cond.instanceMethod yJx4a65c_elementData_915e3, Cond.selects RJx4a65c yJx4a65c_elementData_915e3 yJx4a65c_elementData_915e3, Cond.code yJx4a65c_elementData_915e3 cJx4a65c_elementData_915e3 2 (some (.object "java/lang/Object")), Cond.fieldLink RJx4a65c 9 "java/util/ArrayList" "elementData" "[Ljava/lang/Object;", Cond.methodLink RX1 40 yX0_copyMoistureFrom, Cond.instanceMethod yX0_copyMoistureFrom, Cond.selects RX0 yX0_copyMoistureFrom yX0_copyMoistureFrom, Cond.initialized RX0, Cond.code yX0_copyMoistureFrom cX0_copyMoistureFrom 3 none, Cond.fieldLink RX0 19 "DryingKiln$Board" "moisture" "[I", Cond.methodLink RX0 42 Lib.Math.min.name, Cond.static Lib.Math.min.name, Cond.initialized "java/lang/Math"]
def wsX4_makePlan_r3 : List Cond := [Cond.code Lib.Math.min.name Lib.Math.min.code 2 (some .int), Cond.methodLink RX0 57 arraycopyName, Cond.native arraycopyName, Cond.static arraycopyName, Cond.initialized "java/lang/System", Cond.methodLink RX4 147 yX1_isWetterThan, Cond.instanceMethod yX1_isWetterThan, Cond.selects RX1 yX1_isWetterThan yX1_isWetterThan, Cond.code yX1_isWetterThan cX1_isWetterThan 2 (some .boolean), Cond.methodLink RX1 57 yX1_greatestAverage, Cond.instanceMethod yX1_greatestAverage, Cond.selects RX1 yX1_greatestAverage yX1_greatestAverage, Cond.code yX1_greatestAverage cX1_greatestAverage 3 (some .int), Cond.methodLink RX1 51 Lib.Math.max.name, Cond.static Lib.Math.max.name, Cond.code Lib.Math.max.name Lib.Math.max.code 2 (some .int), Cond.methodLink RX1 48 yX0_average, Cond.instanceMethod yX0_average, Cond.selects RX0 yX0_average yX0_average, Cond.code yX0_average cX0_average 1 (some .int), Cond.methodLink RX0 29 yX0_water, Cond.instanceMethod yX0_water, Cond.selects RX0 yX0_water yX0_water, Cond.code yX0_water cX0_water 3 (some .int)]
def wsX4_makePlan_r4 : List Cond := [Cond.static yX4_quotient, Cond.initialized RX4, Cond.code yX4_quotient cX4_quotient 2 (some .int), Cond.methodLink RX4 173 yX4_chooseInlet, Cond.instanceMethod yX4_chooseInlet, Cond.selects RX4 yX4_chooseInlet yX4_chooseInlet, Cond.code yX4_chooseInlet cX4_chooseInlet 2 (some .int), Cond.fieldLink RX4 107 "DryingKiln$Settings" "strainLimit" "I", Cond.methodLink RX4 156 yX1_passDryingHour, Cond.instanceMethod yX1_passDryingHour, Cond.selects RX1 yX1_passDryingHour yX1_passDryingHour, Cond.code yX1_passDryingHour cX1_passDryingHour 7 (some .int), Cond.fieldLink RX1 72 "DryingKiln$Settings" "capacity" "I", Cond.fieldLink RX1 81 "DryingKiln$Settings" "reversalPeriod" "I", Cond.methodLink RX1 77 yX0_passDryingHour, Cond.instanceMethod yX0_passDryingHour, Cond.selects RX0 yX0_passDryingHour yX0_passDryingHour, Cond.code yX0_passDryingHour cX0_passDryingHour 5 (some .int), Cond.fieldLink RX0 16 "DryingKiln$Board" "air" "I", Cond.fieldLink RX0 45 "DryingKiln$Settings" "surface" "I", Cond.fieldLink RX0 50 "DryingKiln$Settings" "diffusion" "I", Cond.methodLink RX0 53 yX0_applyFlows, Cond.instanceMethod yX0_applyFlows, Cond.selects RX0 yX0_applyFlows yX0_applyFlows]
def wsX4_makePlan_r5 : List Cond := [Cond.code yX0_applyFlows cX0_applyFlows 7 none, Cond.methodLink RX1 84 yX1_countDryingHour, Cond.instanceMethod yX1_countDryingHour, Cond.selects RX1 yX1_countDryingHour yX1_countDryingHour, Cond.code yX1_countDryingHour cX1_countDryingHour 2 none, Cond.methodLink RX4 177 yX1_greatestGradient, Cond.instanceMethod yX1_greatestGradient, Cond.selects RX1 yX1_greatestGradient yX1_greatestGradient, Cond.code yX1_greatestGradient cX1_greatestGradient 3 (some .int), Cond.methodLink RX1 60 yX0_gradient, Cond.instanceMethod yX0_gradient, Cond.selects RX0 yX0_gradient yX0_gradient, Cond.code yX0_gradient cX0_gradient 3 (some .int), Cond.methodLink RX0 37 Lib.Math.max.name, Cond.methodLink RX4 123 yX1_passRestHour, Cond.instanceMethod yX1_passRestHour, Cond.selects RX1 yX1_passRestHour yX1_passRestHour, Cond.code yX1_passRestHour cX1_passRestHour 3 none, Cond.fieldLink RX1 88 "DryingKiln$Settings" "diffusion" "I", Cond.methodLink RX1 91 yX0_passRestHour, Cond.instanceMethod yX0_passRestHour, Cond.selects RX0 yX0_passRestHour yX0_passRestHour, Cond.code yX0_passRestHour cX0_passRestHour 2 none]
def wsX4_makePlan : List Cond := .code yX4_makePlan cX4_makePlan 4 (some .int) :: ((wsX4_makePlan_r1 ++ (wsX4_makePlan_r2 ++ (wsX4_makePlan_r3 ++ (wsX4_makePlan_r4 ++ wsX4_makePlan_r5)))) ++ wsX40 ++ wsX10 ++ wsJx4a65c0 ++ wsX00 ++ wsX30)
def wsX4_plannedHours_r1 : List Cond := [Cond.constant RX4 51 (-1000003), Cond.methodLink RX4 47 yX4_isOutside, Cond.static yX4_isOutside, Cond.initialized RX4, Cond.code yX4_isOutside cX4_isOutside 3 (some .boolean), Cond.methodLink RX4 153 yX4_makePlan, Cond.instanceMethod yX4_makePlan, Cond.selects RX4 yX4_makePlan yX4_makePlan, Cond.code yX4_makePlan cX4_makePlan 4 (some .int), Cond.fieldLink RX4 30 "DryingKiln" "planned" "LDryingKiln$Load;", Cond.fieldLink RX4 26 "DryingKiln" "load" "LDryingKiln$Load;", Cond.fieldLink RX4 36 "DryingKiln" "plan" "[I", Cond.constant RX4 176 (-1000006), Cond.fieldLink RX4 10 "DryingKiln" "settings" "LDryingKiln$Settings;", Cond.fieldLink RX4 33 "DryingKiln" "trial" "LDryingKiln$Load;", Cond.constant RX4 140 (-1000005), Cond.methodLink RX4 169 yX1_copyFrom, Cond.instanceMethod yX1_copyFrom, Cond.selects RX1 yX1_copyFrom yX1_copyFrom, Cond.initialized RX1, Cond.code yX1_copyFrom cX1_copyFrom 3 none, Cond.fieldLink RX1 22 "DryingKiln$Load" "boards" "Ljava/util/ArrayList;", Cond.classLink RX1 34 "DryingKiln$Board", Cond.fieldLink RX1 9 "DryingKiln$Load" "reversed" "Z"]
def wsX4_plannedHours_r2 : List Cond := [Cond.fieldLink RX1 15 "DryingKiln$Load" "dryingHours" "I", Cond.methodLink RX1 26 yJx4a65c_size_8abf5, Cond.instanceMethod yJx4a65c_size_8abf5, Cond.selects RJx4a65c yJx4a65c_size_8abf5 yJx4a65c_size_8abf5, Cond.initialized RJx4a65c, Cond.code yJx4a65c_size_8abf5 cJx4a65c_size_8abf5 1 (some .int), Cond.fieldLink RJx4a65c 48 "java/util/ArrayList" "size" "I", Cond.methodLink RX1 30 yJx4a65c_get_915e3, Cond.instanceMethod yJx4a65c_get_915e3, Cond.selects RJx4a65c yJx4a65c_get_915e3 yJx4a65c_get_915e3, Cond.code yJx4a65c_get_915e3 cJx4a65c_get_915e3 2 (some (.object "java/lang/Object")), Cond.methodLink RJx4a65c 118 yJ15_checkIndex_7cf53, Cond.static yJ15_checkIndex_7cf53, Cond.initialized RJ15, Cond.code yJ15_checkIndex_7cf53 cJ15_checkIndex_7cf53 2 (some .int), Cond.methodLink RJ15 105 yJ3_checkIndex_8e157, Cond.static yJ3_checkIndex_8e157, Cond.initialized RJ3, Cond.code yJ3_checkIndex_8e157 cJ3_checkIndex_8e157 3 (some .int), Cond.methodLink RJx4a65c 123 yJx4a65c_elementData_915e3, Cond.instanceMethod yJx4a65c_elementData_915e3, Cond.selects RJx4a65c yJx4a65c_elementData_915e3 yJx4a65c_elementData_915e3, Cond.code yJx4a65c_elementData_915e3 cJx4a65c_elementData_915e3 2 (some (.object "java/lang/Object")), Cond.fieldLink RJx4a65c 9 "java/util/ArrayList" "elementData" "[Ljava/lang/Object;"]
def wsX4_plannedHours_r3 : List Cond := [Cond.methodLink RX1 40 yX0_copyMoistureFrom, Cond.instanceMethod yX0_copyMoistureFrom, Cond.selects RX0 yX0_copyMoistureFrom yX0_copyMoistureFrom, Cond.initialized RX0, Cond.code yX0_copyMoistureFrom cX0_copyMoistureFrom 3 none, Cond.fieldLink RX0 19 "DryingKiln$Board" "moisture" "[I", Cond.methodLink RX0 42 Lib.Math.min.name, Cond.static Lib.Math.min.name, Cond.initialized "java/lang/Math", Cond.code Lib.Math.min.name Lib.Math.min.code 2 (some .int), Cond.methodLink RX0 57 arraycopyName, Cond.native arraycopyName, Cond.static arraycopyName, Cond.initialized "java/lang/System", Cond.methodLink RX4 147 yX1_isWetterThan, Cond.instanceMethod yX1_isWetterThan, Cond.selects RX1 yX1_isWetterThan yX1_isWetterThan, Cond.code yX1_isWetterThan cX1_isWetterThan 2 (some .boolean), Cond.methodLink RX1 57 yX1_greatestAverage, Cond.instanceMethod yX1_greatestAverage, Cond.selects RX1 yX1_greatestAverage yX1_greatestAverage, Cond.code yX1_greatestAverage cX1_greatestAverage 3 (some .int), Cond.methodLink RX1 51 Lib.Math.max.name, Cond.static Lib.Math.max.name]
def wsX4_plannedHours_r4 : List Cond := [Cond.code Lib.Math.max.name Lib.Math.max.code 2 (some .int), Cond.methodLink RX1 48 yX0_average, Cond.instanceMethod yX0_average, Cond.selects RX0 yX0_average yX0_average, Cond.code yX0_average cX0_average 1 (some .int), Cond.methodLink RX0 29 yX0_water, Cond.instanceMethod yX0_water, Cond.selects RX0 yX0_water yX0_water, Cond.code yX0_water cX0_water 3 (some .int), Cond.static yX4_quotient, Cond.code yX4_quotient cX4_quotient 2 (some .int), Cond.methodLink RX4 173 yX4_chooseInlet, Cond.instanceMethod yX4_chooseInlet, Cond.selects RX4 yX4_chooseInlet yX4_chooseInlet, Cond.code yX4_chooseInlet cX4_chooseInlet 2 (some .int), Cond.fieldLink RX4 107 "DryingKiln$Settings" "strainLimit" "I", Cond.methodLink RX4 156 yX1_passDryingHour, Cond.instanceMethod yX1_passDryingHour, Cond.selects RX1 yX1_passDryingHour yX1_passDryingHour, Cond.code yX1_passDryingHour cX1_passDryingHour 7 (some .int), Cond.fieldLink RX1 72 "DryingKiln$Settings" "capacity" "I", Cond.fieldLink RX1 81 "DryingKiln$Settings" "reversalPeriod" "I", Cond.methodLink RX1 77 yX0_passDryingHour, Cond.instanceMethod yX0_passDryingHour]
def wsX4_plannedHours_r5 : List Cond := [Cond.selects RX0 yX0_passDryingHour yX0_passDryingHour, Cond.code yX0_passDryingHour cX0_passDryingHour 5 (some .int), Cond.fieldLink RX0 16 "DryingKiln$Board" "air" "I", Cond.fieldLink RX0 45 "DryingKiln$Settings" "surface" "I", Cond.fieldLink RX0 50 "DryingKiln$Settings" "diffusion" "I", Cond.methodLink RX0 53 yX0_applyFlows, Cond.instanceMethod yX0_applyFlows, Cond.selects RX0 yX0_applyFlows yX0_applyFlows, Cond.code yX0_applyFlows cX0_applyFlows 7 none, Cond.methodLink RX1 84 yX1_countDryingHour, Cond.instanceMethod yX1_countDryingHour, Cond.selects RX1 yX1_countDryingHour yX1_countDryingHour, Cond.code yX1_countDryingHour cX1_countDryingHour 2 none, Cond.methodLink RX4 177 yX1_greatestGradient, Cond.instanceMethod yX1_greatestGradient, Cond.selects RX1 yX1_greatestGradient yX1_greatestGradient, Cond.code yX1_greatestGradient cX1_greatestGradient 3 (some .int), Cond.methodLink RX1 60 yX0_gradient, Cond.instanceMethod yX0_gradient, Cond.selects RX0 yX0_gradient yX0_gradient, Cond.code yX0_gradient cX0_gradient 3 (some .int), Cond.methodLink RX0 37 Lib.Math.max.name, Cond.methodLink RX4 123 yX1_passRestHour, Cond.instanceMethod yX1_passRestHour]
def wsX4_plannedHours_r6 : List Cond := [Cond.selects RX1 yX1_passRestHour yX1_passRestHour, Cond.code yX1_passRestHour cX1_passRestHour 3 none, Cond.fieldLink RX1 88 "DryingKiln$Settings" "diffusion" "I", Cond.methodLink RX1 91 yX0_passRestHour, Cond.instanceMethod yX0_passRestHour, Cond.selects RX0 yX0_passRestHour yX0_passRestHour, Cond.code yX0_passRestHour cX0_passRestHour 2 none]
def wsX4_plannedHours : List Cond := .code yX4_plannedHours cX4_plannedHours 2 (some .int) :: ((wsX4_plannedHours_r1 ++ (wsX4_plannedHours_r2 ++ (wsX4_plannedHours_r3 ++ (wsX4_plannedHours_r4 ++ (wsX4_plannedHours_r5 ++ wsX4_plannedHours_r6))))) ++ wsX40 ++ wsX10 ++ wsJx4a65c0 ++ wsX00 ++ wsX30)
def wsX4_plannedInlet_r1 : List Cond := [Cond.constant RX4 51 (-1000003), Cond.fieldLink RX4 36 "DryingKiln" "plan" "[I", Cond.constant RX4 140 (-1000005), Cond.methodLink RX4 47 yX4_isOutside, Cond.static yX4_isOutside, Cond.initialized RX4, Cond.code yX4_isOutside cX4_isOutside 3 (some .boolean), Cond.methodLink RX4 153 yX4_makePlan, Cond.instanceMethod yX4_makePlan, Cond.selects RX4 yX4_makePlan yX4_makePlan, Cond.code yX4_makePlan cX4_makePlan 4 (some .int), Cond.fieldLink RX4 30 "DryingKiln" "planned" "LDryingKiln$Load;", Cond.fieldLink RX4 26 "DryingKiln" "load" "LDryingKiln$Load;", Cond.constant RX4 176 (-1000006), Cond.fieldLink RX4 10 "DryingKiln" "settings" "LDryingKiln$Settings;", Cond.fieldLink RX4 33 "DryingKiln" "trial" "LDryingKiln$Load;", Cond.methodLink RX4 169 yX1_copyFrom, Cond.instanceMethod yX1_copyFrom, Cond.selects RX1 yX1_copyFrom yX1_copyFrom, Cond.initialized RX1, Cond.code yX1_copyFrom cX1_copyFrom 3 none, Cond.fieldLink RX1 22 "DryingKiln$Load" "boards" "Ljava/util/ArrayList;", Cond.classLink RX1 34 "DryingKiln$Board", Cond.fieldLink RX1 9 "DryingKiln$Load" "reversed" "Z"]
def wsX4_plannedInlet_r2 : List Cond := [Cond.fieldLink RX1 15 "DryingKiln$Load" "dryingHours" "I", Cond.methodLink RX1 26 yJx4a65c_size_8abf5, Cond.instanceMethod yJx4a65c_size_8abf5, Cond.selects RJx4a65c yJx4a65c_size_8abf5 yJx4a65c_size_8abf5, Cond.initialized RJx4a65c, Cond.code yJx4a65c_size_8abf5 cJx4a65c_size_8abf5 1 (some .int), Cond.fieldLink RJx4a65c 48 "java/util/ArrayList" "size" "I", Cond.methodLink RX1 30 yJx4a65c_get_915e3, Cond.instanceMethod yJx4a65c_get_915e3, Cond.selects RJx4a65c yJx4a65c_get_915e3 yJx4a65c_get_915e3, Cond.code yJx4a65c_get_915e3 cJx4a65c_get_915e3 2 (some (.object "java/lang/Object")), Cond.methodLink RJx4a65c 118 yJ15_checkIndex_7cf53, Cond.static yJ15_checkIndex_7cf53, Cond.initialized RJ15, Cond.code yJ15_checkIndex_7cf53 cJ15_checkIndex_7cf53 2 (some .int), Cond.methodLink RJ15 105 yJ3_checkIndex_8e157, Cond.static yJ3_checkIndex_8e157, Cond.initialized RJ3, Cond.code yJ3_checkIndex_8e157 cJ3_checkIndex_8e157 3 (some .int), Cond.methodLink RJx4a65c 123 yJx4a65c_elementData_915e3, Cond.instanceMethod yJx4a65c_elementData_915e3, Cond.selects RJx4a65c yJx4a65c_elementData_915e3 yJx4a65c_elementData_915e3, Cond.code yJx4a65c_elementData_915e3 cJx4a65c_elementData_915e3 2 (some (.object "java/lang/Object")), Cond.fieldLink RJx4a65c 9 "java/util/ArrayList" "elementData" "[Ljava/lang/Object;"]
def wsX4_plannedInlet_r3 : List Cond := [Cond.methodLink RX1 40 yX0_copyMoistureFrom, Cond.instanceMethod yX0_copyMoistureFrom, Cond.selects RX0 yX0_copyMoistureFrom yX0_copyMoistureFrom, Cond.initialized RX0, Cond.code yX0_copyMoistureFrom cX0_copyMoistureFrom 3 none, Cond.fieldLink RX0 19 "DryingKiln$Board" "moisture" "[I", Cond.methodLink RX0 42 Lib.Math.min.name, Cond.static Lib.Math.min.name, Cond.initialized "java/lang/Math", Cond.code Lib.Math.min.name Lib.Math.min.code 2 (some .int), Cond.methodLink RX0 57 arraycopyName, Cond.native arraycopyName, Cond.static arraycopyName, Cond.initialized "java/lang/System", Cond.methodLink RX4 147 yX1_isWetterThan, Cond.instanceMethod yX1_isWetterThan, Cond.selects RX1 yX1_isWetterThan yX1_isWetterThan, Cond.code yX1_isWetterThan cX1_isWetterThan 2 (some .boolean), Cond.methodLink RX1 57 yX1_greatestAverage, Cond.instanceMethod yX1_greatestAverage, Cond.selects RX1 yX1_greatestAverage yX1_greatestAverage, Cond.code yX1_greatestAverage cX1_greatestAverage 3 (some .int), Cond.methodLink RX1 51 Lib.Math.max.name, Cond.static Lib.Math.max.name]
def wsX4_plannedInlet_r4 : List Cond := [Cond.code Lib.Math.max.name Lib.Math.max.code 2 (some .int), Cond.methodLink RX1 48 yX0_average, Cond.instanceMethod yX0_average, Cond.selects RX0 yX0_average yX0_average, Cond.code yX0_average cX0_average 1 (some .int), Cond.methodLink RX0 29 yX0_water, Cond.instanceMethod yX0_water, Cond.selects RX0 yX0_water yX0_water, Cond.code yX0_water cX0_water 3 (some .int), Cond.static yX4_quotient, Cond.code yX4_quotient cX4_quotient 2 (some .int), Cond.methodLink RX4 173 yX4_chooseInlet, Cond.instanceMethod yX4_chooseInlet, Cond.selects RX4 yX4_chooseInlet yX4_chooseInlet, Cond.code yX4_chooseInlet cX4_chooseInlet 2 (some .int), Cond.fieldLink RX4 107 "DryingKiln$Settings" "strainLimit" "I", Cond.methodLink RX4 156 yX1_passDryingHour, Cond.instanceMethod yX1_passDryingHour, Cond.selects RX1 yX1_passDryingHour yX1_passDryingHour, Cond.code yX1_passDryingHour cX1_passDryingHour 7 (some .int), Cond.fieldLink RX1 72 "DryingKiln$Settings" "capacity" "I", Cond.fieldLink RX1 81 "DryingKiln$Settings" "reversalPeriod" "I", Cond.methodLink RX1 77 yX0_passDryingHour, Cond.instanceMethod yX0_passDryingHour]
def wsX4_plannedInlet_r5 : List Cond := [Cond.selects RX0 yX0_passDryingHour yX0_passDryingHour, Cond.code yX0_passDryingHour cX0_passDryingHour 5 (some .int), Cond.fieldLink RX0 16 "DryingKiln$Board" "air" "I", Cond.fieldLink RX0 45 "DryingKiln$Settings" "surface" "I", Cond.fieldLink RX0 50 "DryingKiln$Settings" "diffusion" "I", Cond.methodLink RX0 53 yX0_applyFlows, Cond.instanceMethod yX0_applyFlows, Cond.selects RX0 yX0_applyFlows yX0_applyFlows, Cond.code yX0_applyFlows cX0_applyFlows 7 none, Cond.methodLink RX1 84 yX1_countDryingHour, Cond.instanceMethod yX1_countDryingHour, Cond.selects RX1 yX1_countDryingHour yX1_countDryingHour, Cond.code yX1_countDryingHour cX1_countDryingHour 2 none, Cond.methodLink RX4 177 yX1_greatestGradient, Cond.instanceMethod yX1_greatestGradient, Cond.selects RX1 yX1_greatestGradient yX1_greatestGradient, Cond.code yX1_greatestGradient cX1_greatestGradient 3 (some .int), Cond.methodLink RX1 60 yX0_gradient, Cond.instanceMethod yX0_gradient, Cond.selects RX0 yX0_gradient yX0_gradient, Cond.code yX0_gradient cX0_gradient 3 (some .int), Cond.methodLink RX0 37 Lib.Math.max.name, Cond.methodLink RX4 123 yX1_passRestHour, Cond.instanceMethod yX1_passRestHour]
def wsX4_plannedInlet_r6 : List Cond := [Cond.selects RX1 yX1_passRestHour yX1_passRestHour, Cond.code yX1_passRestHour cX1_passRestHour 3 none, Cond.fieldLink RX1 88 "DryingKiln$Settings" "diffusion" "I", Cond.methodLink RX1 91 yX0_passRestHour, Cond.instanceMethod yX0_passRestHour, Cond.selects RX0 yX0_passRestHour yX0_passRestHour, Cond.code yX0_passRestHour cX0_passRestHour 2 none]
def wsX4_plannedInlet : List Cond := .code yX4_plannedInlet cX4_plannedInlet 3 (some .int) :: ((wsX4_plannedInlet_r1 ++ (wsX4_plannedInlet_r2 ++ (wsX4_plannedInlet_r3 ++ (wsX4_plannedInlet_r4 ++ (wsX4_plannedInlet_r5 ++ wsX4_plannedInlet_r6))))) ++ wsX40 ++ wsX10 ++ wsJx4a65c0 ++ wsX00 ++ wsX30)
def wsX5_init : List Cond := .code yX5_init cX5_init 1 none :: ([.methodLink RX5 1 objectInit, .instanceMethod objectInit, .code objectInit ⟨#[0xb1]⟩ 1 none, .arrayClass .int, .fieldLink RX5 7 "DryingKilnModel" "layersOf" "[I", .fieldLink RX5 13 "DryingKilnModel" "cells" "[I", .fieldLink RX5 16 "DryingKilnModel" "checkOf" "[I", .fieldLink RX5 19 "DryingKilnModel" "airOf" "[I", .fieldLink RX5 22 "DryingKilnModel" "surfaceNow" "I", .fieldLink RX5 26 "DryingKilnModel" "capacityNow" "I", .fieldLink RX5 29 "DryingKilnModel" "limitNow" "I", .fieldLink RX5 32 "DryingKilnModel" "humidityNow" "I", .fieldLink RX5 35 "DryingKilnModel" "flow" "[I", .fieldLink RX5 38 "DryingKilnModel" "thresholdOf" "[I", .fieldLink RX5 41 "DryingKilnModel" "inletOf" "[I", .fieldLink RX5 44 "DryingKilnModel" "savedCells" "[I", .fieldLink RX5 47 "DryingKilnModel" "savedAir" "[I", .fieldLink RX5 50 "DryingKilnModel" "hourCells" "[I", .fieldLink RX5 53 "DryingKilnModel" "plan" "[I", .fieldLink RX5 56 "DryingKilnModel" "diffusionNow" "I"] ++ wsX50)
def wsX5_isBetween : List Cond := .code yX5_isBetween cX5_isBetween 3 (some .boolean) :: ([])
def wsX5_isBoard : List Cond := .code yX5_isBoard cX5_isBoard 2 (some .boolean) :: ([.fieldLink RX5 59 "DryingKilnModel" "boards" "I", .methodLink RX5 62 yX5_isBetween, .static yX5_isBetween, .initialized RX5, .code yX5_isBetween cX5_isBetween 3 (some .boolean)] ++ wsX50)
def wsX5_addBoard : List Cond := .code yX5_addBoard cX5_addBoard 4 (some .int) :: ([.constant RX5 66 (-1000003), .fieldLink RX5 59 "DryingKilnModel" "boards" "I", .constant RX5 67 (-1000004), .fieldLink RX5 7 "DryingKilnModel" "layersOf" "[I", .fieldLink RX5 16 "DryingKilnModel" "checkOf" "[I", .constant RX5 68 (-1000005), .fieldLink RX5 19 "DryingKilnModel" "airOf" "[I", .fieldLink RX5 13 "DryingKilnModel" "cells" "[I", .methodLink RX5 62 yX5_isBetween, .static yX5_isBetween, .initialized RX5, .code yX5_isBetween cX5_isBetween 3 (some .boolean)] ++ wsX50)
def wsX5_checkLayer : List Cond := .code yX5_checkLayer cX5_checkLayer 3 (some .int) :: ([.constant RX5 73 (-1000001), .fieldLink RX5 7 "DryingKilnModel" "layersOf" "[I", .constant RX5 74 (-1000002), .methodLink RX5 69 yX5_isBoard, .instanceMethod yX5_isBoard, .selects RX5 yX5_isBoard yX5_isBoard, .initialized RX5, .code yX5_isBoard cX5_isBoard 2 (some .boolean), .fieldLink RX5 59 "DryingKilnModel" "boards" "I", .methodLink RX5 62 yX5_isBetween, .static yX5_isBetween, .code yX5_isBetween cX5_isBetween 3 (some .boolean)] ++ wsX50)
def wsX5_setLayer : List Cond := .code yX5_setLayer cX5_setLayer 6 (some .int) :: ([.constant RX5 66 (-1000003), .fieldLink RX5 13 "DryingKilnModel" "cells" "[I", .methodLink RX5 75 yX5_checkLayer, .instanceMethod yX5_checkLayer, .selects RX5 yX5_checkLayer yX5_checkLayer, .initialized RX5, .code yX5_checkLayer cX5_checkLayer 3 (some .int), .constant RX5 73 (-1000001), .fieldLink RX5 7 "DryingKilnModel" "layersOf" "[I", .constant RX5 74 (-1000002), .methodLink RX5 69 yX5_isBoard, .instanceMethod yX5_isBoard, .selects RX5 yX5_isBoard yX5_isBoard, .code yX5_isBoard cX5_isBoard 2 (some .boolean), .fieldLink RX5 59 "DryingKilnModel" "boards" "I", .methodLink RX5 62 yX5_isBetween, .static yX5_isBetween, .code yX5_isBetween cX5_isBetween 3 (some .boolean)] ++ wsX50)
def wsX5_layerMoisture : List Cond := .code yX5_layerMoisture cX5_layerMoisture 4 (some .int) :: ([.fieldLink RX5 13 "DryingKilnModel" "cells" "[I", .methodLink RX5 75 yX5_checkLayer, .instanceMethod yX5_checkLayer, .selects RX5 yX5_checkLayer yX5_checkLayer, .initialized RX5, .code yX5_checkLayer cX5_checkLayer 3 (some .int), .constant RX5 73 (-1000001), .fieldLink RX5 7 "DryingKilnModel" "layersOf" "[I", .constant RX5 74 (-1000002), .methodLink RX5 69 yX5_isBoard, .instanceMethod yX5_isBoard, .selects RX5 yX5_isBoard yX5_isBoard, .code yX5_isBoard cX5_isBoard 2 (some .boolean), .fieldLink RX5 59 "DryingKilnModel" "boards" "I", .methodLink RX5 62 yX5_isBetween, .static yX5_isBetween, .code yX5_isBetween cX5_isBetween 3 (some .boolean)] ++ wsX50)
def wsX5_sumOf : List Cond := .code yX5_sumOf cX5_sumOf 4 (some .int) :: ([.fieldLink RX5 7 "DryingKilnModel" "layersOf" "[I", .fieldLink RX5 13 "DryingKilnModel" "cells" "[I"] ++ wsX50)
def wsX5_averageOf : List Cond := .code yX5_averageOf cX5_averageOf 2 (some .int) :: ([.fieldLink RX5 7 "DryingKilnModel" "layersOf" "[I", .methodLink RX5 79 yX5_sumOf, .instanceMethod yX5_sumOf, .selects RX5 yX5_sumOf yX5_sumOf, .initialized RX5, .code yX5_sumOf cX5_sumOf 4 (some .int), .fieldLink RX5 13 "DryingKilnModel" "cells" "[I"] ++ wsX50)
def wsX5_strainOf : List Cond := .code yX5_strainOf cX5_strainOf 5 (some .int) :: ([.fieldLink RX5 7 "DryingKilnModel" "layersOf" "[I", .fieldLink RX5 13 "DryingKilnModel" "cells" "[I"] ++ wsX50)
def wsX5_averageMoisture : List Cond := .code yX5_averageMoisture cX5_averageMoisture 2 (some .int) :: ([.constant RX5 73 (-1000001), .methodLink RX5 69 yX5_isBoard, .instanceMethod yX5_isBoard, .selects RX5 yX5_isBoard yX5_isBoard, .initialized RX5, .code yX5_isBoard cX5_isBoard 2 (some .boolean), .fieldLink RX5 59 "DryingKilnModel" "boards" "I", .methodLink RX5 62 yX5_isBetween, .static yX5_isBetween, .code yX5_isBetween cX5_isBetween 3 (some .boolean), .methodLink RX5 83 yX5_averageOf, .instanceMethod yX5_averageOf, .selects RX5 yX5_averageOf yX5_averageOf, .code yX5_averageOf cX5_averageOf 2 (some .int), .fieldLink RX5 7 "DryingKilnModel" "layersOf" "[I", .methodLink RX5 79 yX5_sumOf, .instanceMethod yX5_sumOf, .selects RX5 yX5_sumOf yX5_sumOf, .code yX5_sumOf cX5_sumOf 4 (some .int), .fieldLink RX5 13 "DryingKilnModel" "cells" "[I"] ++ wsX50)
def wsX5_strain : List Cond := .code yX5_strain cX5_strain 2 (some .int) :: ([.constant RX5 73 (-1000001), .methodLink RX5 69 yX5_isBoard, .instanceMethod yX5_isBoard, .selects RX5 yX5_isBoard yX5_isBoard, .initialized RX5, .code yX5_isBoard cX5_isBoard 2 (some .boolean), .fieldLink RX5 59 "DryingKilnModel" "boards" "I", .methodLink RX5 62 yX5_isBetween, .static yX5_isBetween, .code yX5_isBetween cX5_isBetween 3 (some .boolean), .methodLink RX5 86 yX5_strainOf, .instanceMethod yX5_strainOf, .selects RX5 yX5_strainOf yX5_strainOf, .code yX5_strainOf cX5_strainOf 5 (some .int), .fieldLink RX5 7 "DryingKilnModel" "layersOf" "[I", .fieldLink RX5 13 "DryingKilnModel" "cells" "[I"] ++ wsX50)
def wsX5_checkHour : List Cond := .code yX5_checkHour cX5_checkHour 2 (some .int) :: ([.fieldLink RX5 16 "DryingKilnModel" "checkOf" "[I", .constant RX5 73 (-1000001), .methodLink RX5 69 yX5_isBoard, .instanceMethod yX5_isBoard, .selects RX5 yX5_isBoard yX5_isBoard, .initialized RX5, .code yX5_isBoard cX5_isBoard 2 (some .boolean), .fieldLink RX5 59 "DryingKilnModel" "boards" "I", .methodLink RX5 62 yX5_isBetween, .static yX5_isBetween, .code yX5_isBetween cX5_isBetween 3 (some .boolean)] ++ wsX50)
def wsX5_wettest : List Cond := .code yX5_wettest cX5_wettest 3 (some .int) :: ([.constant RX5 68 (-1000005), .fieldLink RX5 59 "DryingKilnModel" "boards" "I", .methodLink RX5 83 yX5_averageOf, .instanceMethod yX5_averageOf, .selects RX5 yX5_averageOf yX5_averageOf, .initialized RX5, .code yX5_averageOf cX5_averageOf 2 (some .int), .fieldLink RX5 7 "DryingKilnModel" "layersOf" "[I", .methodLink RX5 79 yX5_sumOf, .instanceMethod yX5_sumOf, .selects RX5 yX5_sumOf yX5_sumOf, .code yX5_sumOf cX5_sumOf 4 (some .int), .fieldLink RX5 13 "DryingKilnModel" "cells" "[I"] ++ wsX50)
def wsX5_wettestBoard : List Cond := .code yX5_wettestBoard cX5_wettestBoard 1 (some .int) :: ([.methodLink RX5 89 yX5_wettest, .instanceMethod yX5_wettest, .selects RX5 yX5_wettest yX5_wettest, .initialized RX5, .code yX5_wettest cX5_wettest 3 (some .int), .constant RX5 68 (-1000005), .fieldLink RX5 59 "DryingKilnModel" "boards" "I", .methodLink RX5 83 yX5_averageOf, .instanceMethod yX5_averageOf, .selects RX5 yX5_averageOf yX5_averageOf, .code yX5_averageOf cX5_averageOf 2 (some .int), .fieldLink RX5 7 "DryingKilnModel" "layersOf" "[I", .methodLink RX5 79 yX5_sumOf, .instanceMethod yX5_sumOf, .selects RX5 yX5_sumOf yX5_sumOf, .code yX5_sumOf cX5_sumOf 4 (some .int), .fieldLink RX5 13 "DryingKilnModel" "cells" "[I"] ++ wsX50)
def wsX5_totalWater : List Cond := .code yX5_totalWater cX5_totalWater 3 (some .int) :: ([.fieldLink RX5 59 "DryingKilnModel" "boards" "I", .methodLink RX5 79 yX5_sumOf, .instanceMethod yX5_sumOf, .selects RX5 yX5_sumOf yX5_sumOf, .initialized RX5, .code yX5_sumOf cX5_sumOf 4 (some .int), .fieldLink RX5 7 "DryingKilnModel" "layersOf" "[I", .fieldLink RX5 13 "DryingKilnModel" "cells" "[I"] ++ wsX50)
def wsX5_meanOf : List Cond := .code yX5_meanOf cX5_meanOf 5 (some .int) :: ([.fieldLink RX5 59 "DryingKilnModel" "boards" "I", .methodLink RX5 83 yX5_averageOf, .instanceMethod yX5_averageOf, .selects RX5 yX5_averageOf yX5_averageOf, .initialized RX5, .code yX5_averageOf cX5_averageOf 2 (some .int), .fieldLink RX5 7 "DryingKilnModel" "layersOf" "[I", .methodLink RX5 79 yX5_sumOf, .instanceMethod yX5_sumOf, .selects RX5 yX5_sumOf yX5_sumOf, .code yX5_sumOf cX5_sumOf 4 (some .int), .fieldLink RX5 13 "DryingKilnModel" "cells" "[I"] ++ wsX50)
def wsX5_sampleError : List Cond := .code yX5_sampleError cX5_sampleError 3 (some .int) :: ([.fieldLink RX5 59 "DryingKilnModel" "boards" "I", .constant RX5 66 (-1000003), .methodLink RX5 93 yX5_meanOf, .instanceMethod yX5_meanOf, .selects RX5 yX5_meanOf yX5_meanOf, .initialized RX5, .code yX5_meanOf cX5_meanOf 5 (some .int), .methodLink RX5 83 yX5_averageOf, .instanceMethod yX5_averageOf, .selects RX5 yX5_averageOf yX5_averageOf, .code yX5_averageOf cX5_averageOf 2 (some .int), .fieldLink RX5 7 "DryingKilnModel" "layersOf" "[I", .methodLink RX5 79 yX5_sumOf, .instanceMethod yX5_sumOf, .selects RX5 yX5_sumOf yX5_sumOf, .code yX5_sumOf cX5_sumOf 4 (some .int), .fieldLink RX5 13 "DryingKilnModel" "cells" "[I"] ++ wsX50)
def wsX5_setDiffusion : List Cond := .code yX5_setDiffusion cX5_setDiffusion 3 (some .int) :: ([.constant RX5 66 (-1000003), .fieldLink RX5 56 "DryingKilnModel" "diffusionNow" "I", .methodLink RX5 62 yX5_isBetween, .static yX5_isBetween, .initialized RX5, .code yX5_isBetween cX5_isBetween 3 (some .boolean)] ++ wsX50)
def wsX5_setSurface : List Cond := .code yX5_setSurface cX5_setSurface 3 (some .int) :: ([.constant RX5 66 (-1000003), .fieldLink RX5 22 "DryingKilnModel" "surfaceNow" "I", .methodLink RX5 62 yX5_isBetween, .static yX5_isBetween, .initialized RX5, .code yX5_isBetween cX5_isBetween 3 (some .boolean)] ++ wsX50)
def wsX5_setCapacity : List Cond := .code yX5_setCapacity cX5_setCapacity 3 (some .int) :: ([.constant RX5 66 (-1000003), .fieldLink RX5 26 "DryingKilnModel" "capacityNow" "I", .methodLink RX5 62 yX5_isBetween, .static yX5_isBetween, .initialized RX5, .code yX5_isBetween cX5_isBetween 3 (some .boolean)] ++ wsX50)
def wsX5_setStrainLimit : List Cond := .code yX5_setStrainLimit cX5_setStrainLimit 3 (some .int) :: ([.constant RX5 66 (-1000003), .fieldLink RX5 29 "DryingKilnModel" "limitNow" "I", .methodLink RX5 62 yX5_isBetween, .static yX5_isBetween, .initialized RX5, .code yX5_isBetween cX5_isBetween 3 (some .boolean)] ++ wsX50)
def wsX5_setHumidity : List Cond := .code yX5_setHumidity cX5_setHumidity 3 (some .int) :: ([.constant RX5 66 (-1000003), .fieldLink RX5 32 "DryingKilnModel" "humidityNow" "I", .methodLink RX5 62 yX5_isBetween, .static yX5_isBetween, .initialized RX5, .code yX5_isBetween cX5_isBetween 3 (some .boolean)] ++ wsX50)
def wsX5_setFan : List Cond := .code yX5_setFan cX5_setFan 3 (some .int) :: ([.fieldLink RX5 96 "DryingKilnModel" "isReversed" "Z"] ++ wsX50)
def wsX5_isFanReversed : List Cond := .code yX5_isFanReversed cX5_isFanReversed 1 (some .int) :: ([.fieldLink RX5 96 "DryingKilnModel" "isReversed" "Z"] ++ wsX50)
def wsX5_setReversalPeriod : List Cond := .code yX5_setReversalPeriod cX5_setReversalPeriod 3 (some .int) :: ([.constant RX5 66 (-1000003), .fieldLink RX5 100 "DryingKilnModel" "period" "I", .methodLink RX5 62 yX5_isBetween, .static yX5_isBetween, .initialized RX5, .code yX5_isBetween cX5_isBetween 3 (some .boolean)] ++ wsX50)
def wsX5_move : List Cond := .code yX5_move cX5_move 7 (some .int) :: ([.fieldLink RX5 7 "DryingKilnModel" "layersOf" "[I", .fieldLink RX5 35 "DryingKilnModel" "flow" "[I", .fieldLink RX5 13 "DryingKilnModel" "cells" "[I", .fieldLink RX5 22 "DryingKilnModel" "surfaceNow" "I", .fieldLink RX5 56 "DryingKilnModel" "diffusionNow" "I"] ++ wsX50)
def wsX5_blow : List Cond := .code yX5_blow cX5_blow 6 (some .int) :: ([.fieldLink RX5 59 "DryingKilnModel" "boards" "I", .fieldLink RX5 96 "DryingKilnModel" "isReversed" "Z", .fieldLink RX5 26 "DryingKilnModel" "capacityNow" "I", .fieldLink RX5 19 "DryingKilnModel" "airOf" "[I", .methodLink RX5 103 yX5_move, .instanceMethod yX5_move, .selects RX5 yX5_move yX5_move, .initialized RX5, .code yX5_move cX5_move 7 (some .int), .fieldLink RX5 7 "DryingKilnModel" "layersOf" "[I", .fieldLink RX5 35 "DryingKilnModel" "flow" "[I", .fieldLink RX5 13 "DryingKilnModel" "cells" "[I", .fieldLink RX5 22 "DryingKilnModel" "surfaceNow" "I", .fieldLink RX5 56 "DryingKilnModel" "diffusionNow" "I"] ++ wsX50)
def wsX5_restAll : List Cond := .code yX5_restAll cX5_restAll 2 none :: ([.fieldLink RX5 59 "DryingKilnModel" "boards" "I", .methodLink RX5 103 yX5_move, .instanceMethod yX5_move, .selects RX5 yX5_move yX5_move, .initialized RX5, .code yX5_move cX5_move 7 (some .int), .fieldLink RX5 7 "DryingKilnModel" "layersOf" "[I", .fieldLink RX5 35 "DryingKilnModel" "flow" "[I", .fieldLink RX5 13 "DryingKilnModel" "cells" "[I", .fieldLink RX5 22 "DryingKilnModel" "surfaceNow" "I", .fieldLink RX5 56 "DryingKilnModel" "diffusionNow" "I"] ++ wsX50)
def wsX5_endHour : List Cond := .code yX5_endHour cX5_endHour 3 (some .int) :: ([.fieldLink RX5 107 "DryingKilnModel" "hours" "I", .fieldLink RX5 59 "DryingKilnModel" "boards" "I", .fieldLink RX5 29 "DryingKilnModel" "limitNow" "I", .fieldLink RX5 16 "DryingKilnModel" "checkOf" "[I", .constant RX5 68 (-1000005), .methodLink RX5 86 yX5_strainOf, .instanceMethod yX5_strainOf, .selects RX5 yX5_strainOf yX5_strainOf, .initialized RX5, .code yX5_strainOf cX5_strainOf 5 (some .int), .fieldLink RX5 7 "DryingKilnModel" "layersOf" "[I", .fieldLink RX5 13 "DryingKilnModel" "cells" "[I"] ++ wsX50)
def wsX5_endDrying : List Cond := .code yX5_endDrying cX5_endDrying 1 none :: ([.fieldLink RX5 110 "DryingKilnModel" "dryingHours" "I", .fieldLink RX5 100 "DryingKilnModel" "period" "I", .fieldLink RX5 96 "DryingKilnModel" "isReversed" "Z"] ++ wsX50)
def wsX5_dryHour_r1 : List Cond := [Cond.fieldLink RX5 116 "DryingKilnModel" "total" "I", Cond.methodLink RX5 113 yX5_blow, Cond.instanceMethod yX5_blow, Cond.selects RX5 yX5_blow yX5_blow, Cond.initialized RX5, Cond.code yX5_blow cX5_blow 6 (some .int), Cond.fieldLink RX5 59 "DryingKilnModel" "boards" "I", Cond.fieldLink RX5 96 "DryingKilnModel" "isReversed" "Z", Cond.fieldLink RX5 26 "DryingKilnModel" "capacityNow" "I", Cond.fieldLink RX5 19 "DryingKilnModel" "airOf" "[I", Cond.methodLink RX5 103 yX5_move, Cond.instanceMethod yX5_move, Cond.selects RX5 yX5_move yX5_move, Cond.code yX5_move cX5_move 7 (some .int), Cond.fieldLink RX5 7 "DryingKilnModel" "layersOf" "[I", Cond.fieldLink RX5 35 "DryingKilnModel" "flow" "[I", Cond.fieldLink RX5 13 "DryingKilnModel" "cells" "[I", Cond.fieldLink RX5 22 "DryingKilnModel" "surfaceNow" "I", Cond.fieldLink RX5 56 "DryingKilnModel" "diffusionNow" "I", Cond.methodLink RX5 119 yX5_endHour, Cond.instanceMethod yX5_endHour, Cond.selects RX5 yX5_endHour yX5_endHour, Cond.code yX5_endHour cX5_endHour 3 (some .int), Cond.fieldLink RX5 107 "DryingKilnModel" "hours" "I"]
def wsX5_dryHour_r2 : List Cond := [Cond.fieldLink RX5 29 "DryingKilnModel" "limitNow" "I", Cond.fieldLink RX5 16 "DryingKilnModel" "checkOf" "[I", Cond.constant RX5 68 (-1000005), Cond.methodLink RX5 86 yX5_strainOf, Cond.instanceMethod yX5_strainOf, Cond.selects RX5 yX5_strainOf yX5_strainOf, Cond.code yX5_strainOf cX5_strainOf 5 (some .int), Cond.methodLink RX5 122 yX5_endDrying, Cond.instanceMethod yX5_endDrying, Cond.selects RX5 yX5_endDrying yX5_endDrying, Cond.code yX5_endDrying cX5_endDrying 1 none, Cond.fieldLink RX5 110 "DryingKilnModel" "dryingHours" "I", Cond.fieldLink RX5 100 "DryingKilnModel" "period" "I"]
def wsX5_dryHour : List Cond := .code yX5_dryHour cX5_dryHour 3 (some .int) :: ((wsX5_dryHour_r1 ++ wsX5_dryHour_r2) ++ wsX50)
def wsX5_dry_r1 : List Cond := [Cond.constant RX5 66 (-1000003), Cond.fieldLink RX5 32 "DryingKilnModel" "humidityNow" "I", Cond.methodLink RX5 62 yX5_isBetween, Cond.static yX5_isBetween, Cond.initialized RX5, Cond.code yX5_isBetween cX5_isBetween 3 (some .boolean), Cond.methodLink RX5 125 yX5_dryHour, Cond.instanceMethod yX5_dryHour, Cond.selects RX5 yX5_dryHour yX5_dryHour, Cond.code yX5_dryHour cX5_dryHour 3 (some .int), Cond.fieldLink RX5 116 "DryingKilnModel" "total" "I", Cond.methodLink RX5 113 yX5_blow, Cond.instanceMethod yX5_blow, Cond.selects RX5 yX5_blow yX5_blow, Cond.code yX5_blow cX5_blow 6 (some .int), Cond.fieldLink RX5 59 "DryingKilnModel" "boards" "I", Cond.fieldLink RX5 96 "DryingKilnModel" "isReversed" "Z", Cond.fieldLink RX5 26 "DryingKilnModel" "capacityNow" "I", Cond.fieldLink RX5 19 "DryingKilnModel" "airOf" "[I", Cond.methodLink RX5 103 yX5_move, Cond.instanceMethod yX5_move, Cond.selects RX5 yX5_move yX5_move, Cond.code yX5_move cX5_move 7 (some .int), Cond.fieldLink RX5 7 "DryingKilnModel" "layersOf" "[I"]
def wsX5_dry_r2 : List Cond := [Cond.fieldLink RX5 35 "DryingKilnModel" "flow" "[I", Cond.fieldLink RX5 13 "DryingKilnModel" "cells" "[I", Cond.fieldLink RX5 22 "DryingKilnModel" "surfaceNow" "I", Cond.fieldLink RX5 56 "DryingKilnModel" "diffusionNow" "I", Cond.methodLink RX5 119 yX5_endHour, Cond.instanceMethod yX5_endHour, Cond.selects RX5 yX5_endHour yX5_endHour, Cond.code yX5_endHour cX5_endHour 3 (some .int), Cond.fieldLink RX5 107 "DryingKilnModel" "hours" "I", Cond.fieldLink RX5 29 "DryingKilnModel" "limitNow" "I", Cond.fieldLink RX5 16 "DryingKilnModel" "checkOf" "[I", Cond.constant RX5 68 (-1000005), Cond.methodLink RX5 86 yX5_strainOf, Cond.instanceMethod yX5_strainOf, Cond.selects RX5 yX5_strainOf yX5_strainOf, Cond.code yX5_strainOf cX5_strainOf 5 (some .int), Cond.methodLink RX5 122 yX5_endDrying, Cond.instanceMethod yX5_endDrying, Cond.selects RX5 yX5_endDrying yX5_endDrying, Cond.code yX5_endDrying cX5_endDrying 1 none, Cond.fieldLink RX5 110 "DryingKilnModel" "dryingHours" "I", Cond.fieldLink RX5 100 "DryingKilnModel" "period" "I"]
def wsX5_dry : List Cond := .code yX5_dry cX5_dry 4 (some .int) :: ((wsX5_dry_r1 ++ wsX5_dry_r2) ++ wsX50)
def wsX5_rest_r1 : List Cond := [Cond.constant RX5 66 (-1000003), Cond.methodLink RX5 62 yX5_isBetween, Cond.static yX5_isBetween, Cond.initialized RX5, Cond.code yX5_isBetween cX5_isBetween 3 (some .boolean), Cond.methodLink RX5 128 yX5_restAll, Cond.instanceMethod yX5_restAll, Cond.selects RX5 yX5_restAll yX5_restAll, Cond.code yX5_restAll cX5_restAll 2 none, Cond.fieldLink RX5 59 "DryingKilnModel" "boards" "I", Cond.methodLink RX5 103 yX5_move, Cond.instanceMethod yX5_move, Cond.selects RX5 yX5_move yX5_move, Cond.code yX5_move cX5_move 7 (some .int), Cond.fieldLink RX5 7 "DryingKilnModel" "layersOf" "[I", Cond.fieldLink RX5 35 "DryingKilnModel" "flow" "[I", Cond.fieldLink RX5 13 "DryingKilnModel" "cells" "[I", Cond.fieldLink RX5 22 "DryingKilnModel" "surfaceNow" "I", Cond.fieldLink RX5 56 "DryingKilnModel" "diffusionNow" "I", Cond.methodLink RX5 119 yX5_endHour, Cond.instanceMethod yX5_endHour, Cond.selects RX5 yX5_endHour yX5_endHour, Cond.code yX5_endHour cX5_endHour 3 (some .int), Cond.fieldLink RX5 107 "DryingKilnModel" "hours" "I"]
def wsX5_rest_r2 : List Cond := [Cond.fieldLink RX5 29 "DryingKilnModel" "limitNow" "I", Cond.fieldLink RX5 16 "DryingKilnModel" "checkOf" "[I", Cond.constant RX5 68 (-1000005), Cond.methodLink RX5 86 yX5_strainOf, Cond.instanceMethod yX5_strainOf, Cond.selects RX5 yX5_strainOf yX5_strainOf, Cond.code yX5_strainOf cX5_strainOf 5 (some .int)]
def wsX5_rest : List Cond := .code yX5_rest cX5_rest 4 (some .int) :: ((wsX5_rest_r1 ++ wsX5_rest_r2) ++ wsX50)
def wsX5_hour : List Cond := .code yX5_hour cX5_hour 1 (some .int) :: ([.fieldLink RX5 107 "DryingKilnModel" "hours" "I"] ++ wsX50)
def wsX5_evaporated : List Cond := .code yX5_evaporated cX5_evaporated 1 (some .int) :: ([.fieldLink RX5 116 "DryingKilnModel" "total" "I"] ++ wsX50)
def wsX5_airMoisture : List Cond := .code yX5_airMoisture cX5_airMoisture 2 (some .int) :: ([.fieldLink RX5 19 "DryingKilnModel" "airOf" "[I", .constant RX5 73 (-1000001), .methodLink RX5 69 yX5_isBoard, .instanceMethod yX5_isBoard, .selects RX5 yX5_isBoard yX5_isBoard, .initialized RX5, .code yX5_isBoard cX5_isBoard 2 (some .boolean), .fieldLink RX5 59 "DryingKilnModel" "boards" "I", .methodLink RX5 62 yX5_isBetween, .static yX5_isBetween, .code yX5_isBetween cX5_isBetween 3 (some .boolean)] ++ wsX50)
def wsX5_addStage : List Cond := .code yX5_addStage cX5_addStage 3 (some .int) :: ([.fieldLink RX5 131 "DryingKilnModel" "stages" "I", .fieldLink RX5 38 "DryingKilnModel" "thresholdOf" "[I", .constant RX5 66 (-1000003), .constant RX5 67 (-1000004), .fieldLink RX5 41 "DryingKilnModel" "inletOf" "[I", .methodLink RX5 62 yX5_isBetween, .static yX5_isBetween, .initialized RX5, .code yX5_isBetween cX5_isBetween 3 (some .boolean)] ++ wsX50)
def wsX5_clearStages : List Cond := .code yX5_clearStages cX5_clearStages 2 (some .int) :: ([.fieldLink RX5 131 "DryingKilnModel" "stages" "I"] ++ wsX50)
def wsX5_stageNow : List Cond := .code yX5_stageNow cX5_stageNow 4 (some .int) :: ([.constant RX5 68 (-1000005), .fieldLink RX5 131 "DryingKilnModel" "stages" "I", .fieldLink RX5 38 "DryingKilnModel" "thresholdOf" "[I", .methodLink RX5 89 yX5_wettest, .instanceMethod yX5_wettest, .selects RX5 yX5_wettest yX5_wettest, .initialized RX5, .code yX5_wettest cX5_wettest 3 (some .int), .fieldLink RX5 59 "DryingKilnModel" "boards" "I", .methodLink RX5 83 yX5_averageOf, .instanceMethod yX5_averageOf, .selects RX5 yX5_averageOf yX5_averageOf, .code yX5_averageOf cX5_averageOf 2 (some .int), .fieldLink RX5 7 "DryingKilnModel" "layersOf" "[I", .methodLink RX5 79 yX5_sumOf, .instanceMethod yX5_sumOf, .selects RX5 yX5_sumOf yX5_sumOf, .code yX5_sumOf cX5_sumOf 4 (some .int), .fieldLink RX5 13 "DryingKilnModel" "cells" "[I"] ++ wsX50)
def wsX5_currentStage : List Cond := .code yX5_currentStage cX5_currentStage 1 (some .int) :: ([.methodLink RX5 134 yX5_stageNow, .instanceMethod yX5_stageNow, .selects RX5 yX5_stageNow yX5_stageNow, .initialized RX5, .code yX5_stageNow cX5_stageNow 4 (some .int), .constant RX5 68 (-1000005), .fieldLink RX5 131 "DryingKilnModel" "stages" "I", .fieldLink RX5 38 "DryingKilnModel" "thresholdOf" "[I", .methodLink RX5 89 yX5_wettest, .instanceMethod yX5_wettest, .selects RX5 yX5_wettest yX5_wettest, .code yX5_wettest cX5_wettest 3 (some .int), .fieldLink RX5 59 "DryingKilnModel" "boards" "I", .methodLink RX5 83 yX5_averageOf, .instanceMethod yX5_averageOf, .selects RX5 yX5_averageOf yX5_averageOf, .code yX5_averageOf cX5_averageOf 2 (some .int), .fieldLink RX5 7 "DryingKilnModel" "layersOf" "[I", .methodLink RX5 79 yX5_sumOf, .instanceMethod yX5_sumOf, .selects RX5 yX5_sumOf yX5_sumOf, .code yX5_sumOf cX5_sumOf 4 (some .int), .fieldLink RX5 13 "DryingKilnModel" "cells" "[I"] ++ wsX50)
def wsX5_isWet : List Cond := .code yX5_isWet cX5_isWet 3 (some .boolean) :: ([.constant RX5 68 (-1000005), .methodLink RX5 89 yX5_wettest, .instanceMethod yX5_wettest, .selects RX5 yX5_wettest yX5_wettest, .initialized RX5, .code yX5_wettest cX5_wettest 3 (some .int), .fieldLink RX5 59 "DryingKilnModel" "boards" "I", .methodLink RX5 83 yX5_averageOf, .instanceMethod yX5_averageOf, .selects RX5 yX5_averageOf yX5_averageOf, .code yX5_averageOf cX5_averageOf 2 (some .int), .fieldLink RX5 7 "DryingKilnModel" "layersOf" "[I", .methodLink RX5 79 yX5_sumOf, .instanceMethod yX5_sumOf, .selects RX5 yX5_sumOf yX5_sumOf, .code yX5_sumOf cX5_sumOf 4 (some .int), .fieldLink RX5 13 "DryingKilnModel" "cells" "[I"] ++ wsX50)
def wsX5_runSchedule_r1 : List Cond := [Cond.constant RX5 66 (-1000003), Cond.constant RX5 68 (-1000005), Cond.fieldLink RX5 32 "DryingKilnModel" "humidityNow" "I", Cond.fieldLink RX5 41 "DryingKilnModel" "inletOf" "[I", Cond.methodLink RX5 62 yX5_isBetween, Cond.static yX5_isBetween, Cond.initialized RX5, Cond.code yX5_isBetween cX5_isBetween 3 (some .boolean), Cond.methodLink RX5 137 yX5_isWet, Cond.instanceMethod yX5_isWet, Cond.selects RX5 yX5_isWet yX5_isWet, Cond.code yX5_isWet cX5_isWet 3 (some .boolean), Cond.methodLink RX5 89 yX5_wettest, Cond.instanceMethod yX5_wettest, Cond.selects RX5 yX5_wettest yX5_wettest, Cond.code yX5_wettest cX5_wettest 3 (some .int), Cond.fieldLink RX5 59 "DryingKilnModel" "boards" "I", Cond.methodLink RX5 83 yX5_averageOf, Cond.instanceMethod yX5_averageOf, Cond.selects RX5 yX5_averageOf yX5_averageOf, Cond.code yX5_averageOf cX5_averageOf 2 (some .int), Cond.fieldLink RX5 7 "DryingKilnModel" "layersOf" "[I", Cond.methodLink RX5 79 yX5_sumOf, Cond.instanceMethod yX5_sumOf]
def wsX5_runSchedule_r2 : List Cond := [Cond.selects RX5 yX5_sumOf yX5_sumOf, Cond.code yX5_sumOf cX5_sumOf 4 (some .int), Cond.fieldLink RX5 13 "DryingKilnModel" "cells" "[I", Cond.methodLink RX5 134 yX5_stageNow, Cond.instanceMethod yX5_stageNow, Cond.selects RX5 yX5_stageNow yX5_stageNow, Cond.code yX5_stageNow cX5_stageNow 4 (some .int), Cond.fieldLink RX5 131 "DryingKilnModel" "stages" "I", Cond.fieldLink RX5 38 "DryingKilnModel" "thresholdOf" "[I", Cond.methodLink RX5 125 yX5_dryHour, Cond.instanceMethod yX5_dryHour, Cond.selects RX5 yX5_dryHour yX5_dryHour, Cond.code yX5_dryHour cX5_dryHour 3 (some .int), Cond.fieldLink RX5 116 "DryingKilnModel" "total" "I", Cond.methodLink RX5 113 yX5_blow, Cond.instanceMethod yX5_blow, Cond.selects RX5 yX5_blow yX5_blow, Cond.code yX5_blow cX5_blow 6 (some .int), Cond.fieldLink RX5 96 "DryingKilnModel" "isReversed" "Z", Cond.fieldLink RX5 26 "DryingKilnModel" "capacityNow" "I", Cond.fieldLink RX5 19 "DryingKilnModel" "airOf" "[I", Cond.methodLink RX5 103 yX5_move, Cond.instanceMethod yX5_move, Cond.selects RX5 yX5_move yX5_move]
def wsX5_runSchedule_r3 : List Cond := [Cond.code yX5_move cX5_move 7 (some .int), Cond.fieldLink RX5 35 "DryingKilnModel" "flow" "[I", Cond.fieldLink RX5 22 "DryingKilnModel" "surfaceNow" "I", Cond.fieldLink RX5 56 "DryingKilnModel" "diffusionNow" "I", Cond.methodLink RX5 119 yX5_endHour, Cond.instanceMethod yX5_endHour, Cond.selects RX5 yX5_endHour yX5_endHour, Cond.code yX5_endHour cX5_endHour 3 (some .int), Cond.fieldLink RX5 107 "DryingKilnModel" "hours" "I", Cond.fieldLink RX5 29 "DryingKilnModel" "limitNow" "I", Cond.fieldLink RX5 16 "DryingKilnModel" "checkOf" "[I", Cond.methodLink RX5 86 yX5_strainOf, Cond.instanceMethod yX5_strainOf, Cond.selects RX5 yX5_strainOf yX5_strainOf, Cond.code yX5_strainOf cX5_strainOf 5 (some .int), Cond.methodLink RX5 122 yX5_endDrying, Cond.instanceMethod yX5_endDrying, Cond.selects RX5 yX5_endDrying yX5_endDrying, Cond.code yX5_endDrying cX5_endDrying 1 none, Cond.fieldLink RX5 110 "DryingKilnModel" "dryingHours" "I", Cond.fieldLink RX5 100 "DryingKilnModel" "period" "I"]
def wsX5_runSchedule : List Cond := .code yX5_runSchedule cX5_runSchedule 5 (some .int) :: ((wsX5_runSchedule_r1 ++ (wsX5_runSchedule_r2 ++ wsX5_runSchedule_r3)) ++ wsX50)
def wsX5_copy : List Cond := .code yX5_copy cX5_copy 4 none :: ([])
def wsX5_isStrained : List Cond := .code yX5_isStrained cX5_isStrained 2 (some .boolean) :: ([.fieldLink RX5 59 "DryingKilnModel" "boards" "I", .fieldLink RX5 29 "DryingKilnModel" "limitNow" "I", .methodLink RX5 86 yX5_strainOf, .instanceMethod yX5_strainOf, .selects RX5 yX5_strainOf yX5_strainOf, .initialized RX5, .code yX5_strainOf cX5_strainOf 5 (some .int), .fieldLink RX5 7 "DryingKilnModel" "layersOf" "[I", .fieldLink RX5 13 "DryingKilnModel" "cells" "[I"] ++ wsX50)
def wsX5_planHour_r1 : List Cond := [Cond.fieldLink RX5 13 "DryingKilnModel" "cells" "[I", Cond.fieldLink RX5 50 "DryingKilnModel" "hourCells" "[I", Cond.constant RX5 148 (-1000006), Cond.methodLink RX5 140 yX5_copy, Cond.static yX5_copy, Cond.initialized RX5, Cond.code yX5_copy cX5_copy 4 none, Cond.methodLink RX5 113 yX5_blow, Cond.instanceMethod yX5_blow, Cond.selects RX5 yX5_blow yX5_blow, Cond.code yX5_blow cX5_blow 6 (some .int), Cond.fieldLink RX5 59 "DryingKilnModel" "boards" "I", Cond.fieldLink RX5 96 "DryingKilnModel" "isReversed" "Z", Cond.fieldLink RX5 26 "DryingKilnModel" "capacityNow" "I", Cond.fieldLink RX5 19 "DryingKilnModel" "airOf" "[I", Cond.methodLink RX5 103 yX5_move, Cond.instanceMethod yX5_move, Cond.selects RX5 yX5_move yX5_move, Cond.code yX5_move cX5_move 7 (some .int), Cond.fieldLink RX5 7 "DryingKilnModel" "layersOf" "[I", Cond.fieldLink RX5 35 "DryingKilnModel" "flow" "[I", Cond.fieldLink RX5 22 "DryingKilnModel" "surfaceNow" "I", Cond.fieldLink RX5 56 "DryingKilnModel" "diffusionNow" "I", Cond.methodLink RX5 144 yX5_isStrained]
def wsX5_planHour_r2 : List Cond := [Cond.instanceMethod yX5_isStrained, Cond.selects RX5 yX5_isStrained yX5_isStrained, Cond.code yX5_isStrained cX5_isStrained 2 (some .boolean), Cond.fieldLink RX5 29 "DryingKilnModel" "limitNow" "I", Cond.methodLink RX5 86 yX5_strainOf, Cond.instanceMethod yX5_strainOf, Cond.selects RX5 yX5_strainOf yX5_strainOf, Cond.code yX5_strainOf cX5_strainOf 5 (some .int), Cond.methodLink RX5 122 yX5_endDrying, Cond.instanceMethod yX5_endDrying, Cond.selects RX5 yX5_endDrying yX5_endDrying, Cond.code yX5_endDrying cX5_endDrying 1 none, Cond.fieldLink RX5 110 "DryingKilnModel" "dryingHours" "I", Cond.fieldLink RX5 100 "DryingKilnModel" "period" "I", Cond.methodLink RX5 128 yX5_restAll, Cond.instanceMethod yX5_restAll, Cond.selects RX5 yX5_restAll yX5_restAll, Cond.code yX5_restAll cX5_restAll 2 none]
def wsX5_planHour : List Cond := .code yX5_planHour cX5_planHour 2 (some .int) :: ((wsX5_planHour_r1 ++ wsX5_planHour_r2) ++ wsX50)
def wsX5_findPlan_r1 : List Cond := [Cond.fieldLink RX5 96 "DryingKilnModel" "isReversed" "Z", Cond.fieldLink RX5 110 "DryingKilnModel" "dryingHours" "I", Cond.fieldLink RX5 13 "DryingKilnModel" "cells" "[I", Cond.fieldLink RX5 44 "DryingKilnModel" "savedCells" "[I", Cond.fieldLink RX5 19 "DryingKilnModel" "airOf" "[I", Cond.fieldLink RX5 47 "DryingKilnModel" "savedAir" "[I", Cond.fieldLink RX5 149 "DryingKilnModel" "planned" "I", Cond.fieldLink RX5 53 "DryingKilnModel" "plan" "[I", Cond.methodLink RX5 140 yX5_copy, Cond.static yX5_copy, Cond.initialized RX5, Cond.code yX5_copy cX5_copy 4 none, Cond.methodLink RX5 137 yX5_isWet, Cond.instanceMethod yX5_isWet, Cond.selects RX5 yX5_isWet yX5_isWet, Cond.code yX5_isWet cX5_isWet 3 (some .boolean), Cond.constant RX5 68 (-1000005), Cond.methodLink RX5 89 yX5_wettest, Cond.instanceMethod yX5_wettest, Cond.selects RX5 yX5_wettest yX5_wettest, Cond.code yX5_wettest cX5_wettest 3 (some .int), Cond.fieldLink RX5 59 "DryingKilnModel" "boards" "I", Cond.methodLink RX5 83 yX5_averageOf, Cond.instanceMethod yX5_averageOf]
def wsX5_findPlan_r2 : List Cond := [Cond.selects RX5 yX5_averageOf yX5_averageOf, Cond.code yX5_averageOf cX5_averageOf 2 (some .int), Cond.fieldLink RX5 7 "DryingKilnModel" "layersOf" "[I", Cond.methodLink RX5 79 yX5_sumOf, Cond.instanceMethod yX5_sumOf, Cond.selects RX5 yX5_sumOf yX5_sumOf, Cond.code yX5_sumOf cX5_sumOf 4 (some .int), Cond.methodLink RX5 152 yX5_planHour, Cond.instanceMethod yX5_planHour, Cond.selects RX5 yX5_planHour yX5_planHour, Cond.code yX5_planHour cX5_planHour 2 (some .int), Cond.fieldLink RX5 50 "DryingKilnModel" "hourCells" "[I", Cond.constant RX5 148 (-1000006), Cond.methodLink RX5 113 yX5_blow, Cond.instanceMethod yX5_blow, Cond.selects RX5 yX5_blow yX5_blow, Cond.code yX5_blow cX5_blow 6 (some .int), Cond.fieldLink RX5 26 "DryingKilnModel" "capacityNow" "I", Cond.methodLink RX5 103 yX5_move, Cond.instanceMethod yX5_move, Cond.selects RX5 yX5_move yX5_move, Cond.code yX5_move cX5_move 7 (some .int), Cond.fieldLink RX5 35 "DryingKilnModel" "flow" "[I", Cond.fieldLink RX5 22 "DryingKilnModel" "surfaceNow" "I"]
def wsX5_findPlan_r3 : List Cond := [Cond.fieldLink RX5 56 "DryingKilnModel" "diffusionNow" "I", Cond.methodLink RX5 144 yX5_isStrained, Cond.instanceMethod yX5_isStrained, Cond.selects RX5 yX5_isStrained yX5_isStrained, Cond.code yX5_isStrained cX5_isStrained 2 (some .boolean), Cond.fieldLink RX5 29 "DryingKilnModel" "limitNow" "I", Cond.methodLink RX5 86 yX5_strainOf, Cond.instanceMethod yX5_strainOf, Cond.selects RX5 yX5_strainOf yX5_strainOf, Cond.code yX5_strainOf cX5_strainOf 5 (some .int), Cond.methodLink RX5 122 yX5_endDrying, Cond.instanceMethod yX5_endDrying, Cond.selects RX5 yX5_endDrying yX5_endDrying, Cond.code yX5_endDrying cX5_endDrying 1 none, Cond.fieldLink RX5 100 "DryingKilnModel" "period" "I", Cond.methodLink RX5 128 yX5_restAll, Cond.instanceMethod yX5_restAll, Cond.selects RX5 yX5_restAll yX5_restAll, Cond.code yX5_restAll cX5_restAll 2 none]
def wsX5_findPlan : List Cond := .code yX5_findPlan cX5_findPlan 5 (some .boolean) :: ((wsX5_findPlan_r1 ++ (wsX5_findPlan_r2 ++ wsX5_findPlan_r3)) ++ wsX50)
def wsX5_plannedHours_r1 : List Cond := [Cond.constant RX5 66 (-1000003), Cond.fieldLink RX5 149 "DryingKilnModel" "planned" "I", Cond.constant RX5 68 (-1000005), Cond.methodLink RX5 62 yX5_isBetween, Cond.static yX5_isBetween, Cond.initialized RX5, Cond.code yX5_isBetween cX5_isBetween 3 (some .boolean), Cond.methodLink RX5 155 yX5_findPlan, Cond.instanceMethod yX5_findPlan, Cond.selects RX5 yX5_findPlan yX5_findPlan, Cond.code yX5_findPlan cX5_findPlan 5 (some .boolean), Cond.fieldLink RX5 96 "DryingKilnModel" "isReversed" "Z", Cond.fieldLink RX5 110 "DryingKilnModel" "dryingHours" "I", Cond.fieldLink RX5 13 "DryingKilnModel" "cells" "[I", Cond.fieldLink RX5 44 "DryingKilnModel" "savedCells" "[I", Cond.fieldLink RX5 19 "DryingKilnModel" "airOf" "[I", Cond.fieldLink RX5 47 "DryingKilnModel" "savedAir" "[I", Cond.fieldLink RX5 53 "DryingKilnModel" "plan" "[I", Cond.methodLink RX5 140 yX5_copy, Cond.static yX5_copy, Cond.code yX5_copy cX5_copy 4 none, Cond.methodLink RX5 137 yX5_isWet, Cond.instanceMethod yX5_isWet, Cond.selects RX5 yX5_isWet yX5_isWet]
def wsX5_plannedHours_r2 : List Cond := [Cond.code yX5_isWet cX5_isWet 3 (some .boolean), Cond.methodLink RX5 89 yX5_wettest, Cond.instanceMethod yX5_wettest, Cond.selects RX5 yX5_wettest yX5_wettest, Cond.code yX5_wettest cX5_wettest 3 (some .int), Cond.fieldLink RX5 59 "DryingKilnModel" "boards" "I", Cond.methodLink RX5 83 yX5_averageOf, Cond.instanceMethod yX5_averageOf, Cond.selects RX5 yX5_averageOf yX5_averageOf, Cond.code yX5_averageOf cX5_averageOf 2 (some .int), Cond.fieldLink RX5 7 "DryingKilnModel" "layersOf" "[I", Cond.methodLink RX5 79 yX5_sumOf, Cond.instanceMethod yX5_sumOf, Cond.selects RX5 yX5_sumOf yX5_sumOf, Cond.code yX5_sumOf cX5_sumOf 4 (some .int), Cond.methodLink RX5 152 yX5_planHour, Cond.instanceMethod yX5_planHour, Cond.selects RX5 yX5_planHour yX5_planHour, Cond.code yX5_planHour cX5_planHour 2 (some .int), Cond.fieldLink RX5 50 "DryingKilnModel" "hourCells" "[I", Cond.constant RX5 148 (-1000006), Cond.methodLink RX5 113 yX5_blow, Cond.instanceMethod yX5_blow, Cond.selects RX5 yX5_blow yX5_blow]
def wsX5_plannedHours_r3 : List Cond := [Cond.code yX5_blow cX5_blow 6 (some .int), Cond.fieldLink RX5 26 "DryingKilnModel" "capacityNow" "I", Cond.methodLink RX5 103 yX5_move, Cond.instanceMethod yX5_move, Cond.selects RX5 yX5_move yX5_move, Cond.code yX5_move cX5_move 7 (some .int), Cond.fieldLink RX5 35 "DryingKilnModel" "flow" "[I", Cond.fieldLink RX5 22 "DryingKilnModel" "surfaceNow" "I", Cond.fieldLink RX5 56 "DryingKilnModel" "diffusionNow" "I", Cond.methodLink RX5 144 yX5_isStrained, Cond.instanceMethod yX5_isStrained, Cond.selects RX5 yX5_isStrained yX5_isStrained, Cond.code yX5_isStrained cX5_isStrained 2 (some .boolean), Cond.fieldLink RX5 29 "DryingKilnModel" "limitNow" "I", Cond.methodLink RX5 86 yX5_strainOf, Cond.instanceMethod yX5_strainOf, Cond.selects RX5 yX5_strainOf yX5_strainOf, Cond.code yX5_strainOf cX5_strainOf 5 (some .int), Cond.methodLink RX5 122 yX5_endDrying, Cond.instanceMethod yX5_endDrying, Cond.selects RX5 yX5_endDrying yX5_endDrying, Cond.code yX5_endDrying cX5_endDrying 1 none, Cond.fieldLink RX5 100 "DryingKilnModel" "period" "I", Cond.methodLink RX5 128 yX5_restAll]
def wsX5_plannedHours_r4 : List Cond := [Cond.instanceMethod yX5_restAll, Cond.selects RX5 yX5_restAll yX5_restAll, Cond.code yX5_restAll cX5_restAll 2 none]
def wsX5_plannedHours : List Cond := .code yX5_plannedHours cX5_plannedHours 2 (some .int) :: ((wsX5_plannedHours_r1 ++ (wsX5_plannedHours_r2 ++ (wsX5_plannedHours_r3 ++ wsX5_plannedHours_r4))) ++ wsX50)
def wsX5_plannedInlet_r1 : List Cond := [Cond.constant RX5 66 (-1000003), Cond.fieldLink RX5 149 "DryingKilnModel" "planned" "I", Cond.fieldLink RX5 53 "DryingKilnModel" "plan" "[I", Cond.constant RX5 68 (-1000005), Cond.methodLink RX5 62 yX5_isBetween, Cond.static yX5_isBetween, Cond.initialized RX5, Cond.code yX5_isBetween cX5_isBetween 3 (some .boolean), Cond.methodLink RX5 155 yX5_findPlan, Cond.instanceMethod yX5_findPlan, Cond.selects RX5 yX5_findPlan yX5_findPlan, Cond.code yX5_findPlan cX5_findPlan 5 (some .boolean), Cond.fieldLink RX5 96 "DryingKilnModel" "isReversed" "Z", Cond.fieldLink RX5 110 "DryingKilnModel" "dryingHours" "I", Cond.fieldLink RX5 13 "DryingKilnModel" "cells" "[I", Cond.fieldLink RX5 44 "DryingKilnModel" "savedCells" "[I", Cond.fieldLink RX5 19 "DryingKilnModel" "airOf" "[I", Cond.fieldLink RX5 47 "DryingKilnModel" "savedAir" "[I", Cond.methodLink RX5 140 yX5_copy, Cond.static yX5_copy, Cond.code yX5_copy cX5_copy 4 none, Cond.methodLink RX5 137 yX5_isWet, Cond.instanceMethod yX5_isWet, Cond.selects RX5 yX5_isWet yX5_isWet]
def wsX5_plannedInlet_r2 : List Cond := [Cond.code yX5_isWet cX5_isWet 3 (some .boolean), Cond.methodLink RX5 89 yX5_wettest, Cond.instanceMethod yX5_wettest, Cond.selects RX5 yX5_wettest yX5_wettest, Cond.code yX5_wettest cX5_wettest 3 (some .int), Cond.fieldLink RX5 59 "DryingKilnModel" "boards" "I", Cond.methodLink RX5 83 yX5_averageOf, Cond.instanceMethod yX5_averageOf, Cond.selects RX5 yX5_averageOf yX5_averageOf, Cond.code yX5_averageOf cX5_averageOf 2 (some .int), Cond.fieldLink RX5 7 "DryingKilnModel" "layersOf" "[I", Cond.methodLink RX5 79 yX5_sumOf, Cond.instanceMethod yX5_sumOf, Cond.selects RX5 yX5_sumOf yX5_sumOf, Cond.code yX5_sumOf cX5_sumOf 4 (some .int), Cond.methodLink RX5 152 yX5_planHour, Cond.instanceMethod yX5_planHour, Cond.selects RX5 yX5_planHour yX5_planHour, Cond.code yX5_planHour cX5_planHour 2 (some .int), Cond.fieldLink RX5 50 "DryingKilnModel" "hourCells" "[I", Cond.constant RX5 148 (-1000006), Cond.methodLink RX5 113 yX5_blow, Cond.instanceMethod yX5_blow, Cond.selects RX5 yX5_blow yX5_blow]
def wsX5_plannedInlet_r3 : List Cond := [Cond.code yX5_blow cX5_blow 6 (some .int), Cond.fieldLink RX5 26 "DryingKilnModel" "capacityNow" "I", Cond.methodLink RX5 103 yX5_move, Cond.instanceMethod yX5_move, Cond.selects RX5 yX5_move yX5_move, Cond.code yX5_move cX5_move 7 (some .int), Cond.fieldLink RX5 35 "DryingKilnModel" "flow" "[I", Cond.fieldLink RX5 22 "DryingKilnModel" "surfaceNow" "I", Cond.fieldLink RX5 56 "DryingKilnModel" "diffusionNow" "I", Cond.methodLink RX5 144 yX5_isStrained, Cond.instanceMethod yX5_isStrained, Cond.selects RX5 yX5_isStrained yX5_isStrained, Cond.code yX5_isStrained cX5_isStrained 2 (some .boolean), Cond.fieldLink RX5 29 "DryingKilnModel" "limitNow" "I", Cond.methodLink RX5 86 yX5_strainOf, Cond.instanceMethod yX5_strainOf, Cond.selects RX5 yX5_strainOf yX5_strainOf, Cond.code yX5_strainOf cX5_strainOf 5 (some .int), Cond.methodLink RX5 122 yX5_endDrying, Cond.instanceMethod yX5_endDrying, Cond.selects RX5 yX5_endDrying yX5_endDrying, Cond.code yX5_endDrying cX5_endDrying 1 none, Cond.fieldLink RX5 100 "DryingKilnModel" "period" "I", Cond.methodLink RX5 128 yX5_restAll]
def wsX5_plannedInlet_r4 : List Cond := [Cond.instanceMethod yX5_restAll, Cond.selects RX5 yX5_restAll yX5_restAll, Cond.code yX5_restAll cX5_restAll 2 none]
def wsX5_plannedInlet : List Cond := .code yX5_plannedInlet cX5_plannedInlet 3 (some .int) :: ((wsX5_plannedInlet_r1 ++ (wsX5_plannedInlet_r2 ++ (wsX5_plannedInlet_r3 ++ wsX5_plannedInlet_r4))) ++ wsX50)
def wsJ9_max_7cf53 : List Cond := .code yJ9_max_7cf53 cJ9_max_7cf53 2 (some .int) :: ([])
def wsJ9_min_7cf53 : List Cond := .code yJ9_min_7cf53 cJ9_min_7cf53 2 (some .int) :: ([])
abbrev vwCl : List vw_C := [(RJx4a65c, TJx4a65c, 3), (RX0, TX0, 3), (RX1, TX1, 3), (RX2, TX2, 3), (RX3, TX3, 6), (RX4, TX4, 8), (RX5, TX5, 24)]
end
section
set_option maxRecDepth 20000 in
theorem ggX0_init_J7_fill_53178 : GoodIn wsX0_init wsJ7_fill_53178 := goodIn_r _ [12] (by decide +kernel) (by decide +kernel)
set_option maxRecDepth 20000 in
theorem gX0_init_J7_fill_53178 : GoodIn wsX0_init (va_wsS RX0 23 yJ7_fill_53178 wsJ7_fill_53178) := goodIn_app (goodIn_of _ (by decide +kernel)) ggX0_init_J7_fill_53178
theorem dX0_init_0 : decode cX0_init 0 = .ok (.aload_n 0, 1) := by decide +kernel
theorem dX0_init_1 : decode cX0_init 1 = .ok (.invokespecial 3, 3) := by decide +kernel
theorem dX0_init_4 : decode cX0_init 4 = .ok (.aload_n 0, 1) := by decide +kernel
theorem dX0_init_5 : decode cX0_init 5 = .ok (.ldc 9, 2) := by decide +kernel
theorem dX0_init_7 : decode cX0_init 7 = .ok (.putfield 10, 3) := by decide +kernel
theorem dX0_init_10 : decode cX0_init 10 = .ok (.aload_n 0, 1) := by decide +kernel
theorem dX0_init_11 : decode cX0_init 11 = .ok (.ldc 9, 2) := by decide +kernel
theorem dX0_init_13 : decode cX0_init 13 = .ok (.putfield 16, 3) := by decide +kernel
theorem dX0_init_16 : decode cX0_init 16 = .ok (.aload_n 0, 1) := by decide +kernel
theorem dX0_init_17 : decode cX0_init 17 = .ok (.iload_n 1, 1) := by decide +kernel
theorem dX0_init_18 : decode cX0_init 18 = .ok (.newarray .int, 2) := by decide +kernel
theorem dX0_init_20 : decode cX0_init 20 = .ok (.putfield 19, 3) := by decide +kernel
theorem dX0_init_23 : decode cX0_init 23 = .ok (.aload_n 0, 1) := by decide +kernel
theorem dX0_init_24 : decode cX0_init 24 = .ok (.getfield 19, 3) := by decide +kernel
theorem dX0_init_27 : decode cX0_init 27 = .ok (.iload_n 2, 1) := by decide +kernel
theorem dX0_init_28 : decode cX0_init 28 = .ok (.invokestatic 23, 3) := by decide +kernel
theorem dX0_init_31 : decode cX0_init 31 = .ok (.return_, 1) := by decide +kernel
theorem dX0_water_0 : decode cX0_water 0 = .ok (.iconst 0, 1) := by decide +kernel
theorem dX0_water_1 : decode cX0_water 1 = .ok (.istore_n 1, 1) := by decide +kernel
theorem dX0_water_2 : decode cX0_water 2 = .ok (.iconst 0, 1) := by decide +kernel
theorem dX0_water_3 : decode cX0_water 3 = .ok (.istore_n 2, 1) := by decide +kernel
theorem dX0_water_4 : decode cX0_water 4 = .ok (.iload_n 2, 1) := by decide +kernel
theorem dX0_water_5 : decode cX0_water 5 = .ok (.aload_n 0, 1) := by decide +kernel
theorem dX0_water_6 : decode cX0_water 6 = .ok (.getfield 19, 3) := by decide +kernel
theorem dX0_water_9 : decode cX0_water 9 = .ok (.arraylength, 1) := by decide +kernel
theorem dX0_water_10 : decode cX0_water 10 = .ok (.if_icmp .ge 18, 3) := by decide +kernel
theorem dX0_water_13 : decode cX0_water 13 = .ok (.iload_n 1, 1) := by decide +kernel
theorem dX0_water_14 : decode cX0_water 14 = .ok (.aload_n 0, 1) := by decide +kernel
theorem dX0_water_15 : decode cX0_water 15 = .ok (.getfield 19, 3) := by decide +kernel
theorem dX0_water_18 : decode cX0_water 18 = .ok (.iload_n 2, 1) := by decide +kernel
theorem dX0_water_19 : decode cX0_water 19 = .ok (.iaload, 1) := by decide +kernel
theorem dX0_water_20 : decode cX0_water 20 = .ok (.iadd, 1) := by decide +kernel
theorem dX0_water_21 : decode cX0_water 21 = .ok (.istore_n 1, 1) := by decide +kernel
theorem dX0_water_22 : decode cX0_water 22 = .ok (.iinc 2 1, 3) := by decide +kernel
theorem dX0_water_25 : decode cX0_water 25 = .ok (.goto (-21), 3) := by decide +kernel
theorem dX0_water_28 : decode cX0_water 28 = .ok (.iload_n 1, 1) := by decide +kernel
theorem dX0_water_29 : decode cX0_water 29 = .ok (.ireturn, 1) := by decide +kernel
set_option maxRecDepth 20000 in
theorem ggX0_average_X0_water : GoodIn wsX0_average wsX0_water := goodIn_r _ [6, 1, 10, 11, 12] (by decide +kernel) (by decide +kernel)
set_option maxRecDepth 20000 in
theorem gX0_average_X0_water : GoodIn wsX0_average (wsV RX0 29 RX0 yX0_water wsX0_water) := goodIn_app (goodIn_of _ (by decide +kernel)) ggX0_average_X0_water
set_option maxRecDepth 20000 in
theorem ggX0_average_X4_quotient : GoodIn wsX0_average wsX4_quotient := goodIn_r _ [9] (by decide +kernel) (by decide +kernel)
set_option maxRecDepth 20000 in
theorem gX0_average_X4_quotient_n33 : GoodIn wsX0_average (wsX4_quotient) := ggX0_average_X4_quotient
theorem dX0_average_0 : decode cX0_average 0 = .ok (.aload_n 0, 1) := by decide +kernel
theorem dX0_average_1 : decode cX0_average 1 = .ok (.invokevirtual 29, 3) := by decide +kernel
theorem dX0_average_4 : decode cX0_average 4 = .ok (.aload_n 0, 1) := by decide +kernel
theorem dX0_average_5 : decode cX0_average 5 = .ok (.getfield 19, 3) := by decide +kernel
theorem dX0_average_8 : decode cX0_average 8 = .ok (.arraylength, 1) := by decide +kernel
theorem dX0_average_9 : decode cX0_average 9 = .ok (.invokestatic 33, 3) := by decide +kernel
theorem dX0_average_12 : decode cX0_average 12 = .ok (.ireturn, 1) := by decide +kernel
theorem dX0_gradient_0 : decode cX0_gradient 0 = .ok (.iconst 0, 1) := by decide +kernel
theorem dX0_gradient_1 : decode cX0_gradient 1 = .ok (.istore_n 1, 1) := by decide +kernel
theorem dX0_gradient_2 : decode cX0_gradient 2 = .ok (.iconst 0, 1) := by decide +kernel
theorem dX0_gradient_3 : decode cX0_gradient 3 = .ok (.istore_n 2, 1) := by decide +kernel
theorem dX0_gradient_4 : decode cX0_gradient 4 = .ok (.iload_n 2, 1) := by decide +kernel
theorem dX0_gradient_5 : decode cX0_gradient 5 = .ok (.aload_n 0, 1) := by decide +kernel
theorem dX0_gradient_6 : decode cX0_gradient 6 = .ok (.getfield 19, 3) := by decide +kernel
theorem dX0_gradient_9 : decode cX0_gradient 9 = .ok (.arraylength, 1) := by decide +kernel
theorem dX0_gradient_10 : decode cX0_gradient 10 = .ok (.if_icmp .ge 20, 3) := by decide +kernel
theorem dX0_gradient_13 : decode cX0_gradient 13 = .ok (.iload_n 1, 1) := by decide +kernel
theorem dX0_gradient_14 : decode cX0_gradient 14 = .ok (.aload_n 0, 1) := by decide +kernel
theorem dX0_gradient_15 : decode cX0_gradient 15 = .ok (.getfield 19, 3) := by decide +kernel
theorem dX0_gradient_18 : decode cX0_gradient 18 = .ok (.iload_n 2, 1) := by decide +kernel
theorem dX0_gradient_19 : decode cX0_gradient 19 = .ok (.iaload, 1) := by decide +kernel
theorem dX0_gradient_20 : decode cX0_gradient 20 = .ok (.invokestatic 37, 3) := by decide +kernel
theorem dX0_gradient_23 : decode cX0_gradient 23 = .ok (.istore_n 1, 1) := by decide +kernel
theorem dX0_gradient_24 : decode cX0_gradient 24 = .ok (.iinc 2 1, 3) := by decide +kernel
theorem dX0_gradient_27 : decode cX0_gradient 27 = .ok (.goto (-23), 3) := by decide +kernel
theorem dX0_gradient_30 : decode cX0_gradient 30 = .ok (.iload_n 1, 1) := by decide +kernel
theorem dX0_gradient_31 : decode cX0_gradient 31 = .ok (.aload_n 0, 1) := by decide +kernel
theorem dX0_gradient_32 : decode cX0_gradient 32 = .ok (.getfield 19, 3) := by decide +kernel
theorem dX0_gradient_35 : decode cX0_gradient 35 = .ok (.iconst 0, 1) := by decide +kernel
theorem dX0_gradient_36 : decode cX0_gradient 36 = .ok (.iaload, 1) := by decide +kernel
theorem dX0_gradient_37 : decode cX0_gradient 37 = .ok (.aload_n 0, 1) := by decide +kernel
theorem dX0_gradient_38 : decode cX0_gradient 38 = .ok (.getfield 19, 3) := by decide +kernel
theorem dX0_gradient_41 : decode cX0_gradient 41 = .ok (.aload_n 0, 1) := by decide +kernel
theorem dX0_gradient_42 : decode cX0_gradient 42 = .ok (.getfield 19, 3) := by decide +kernel
theorem dX0_gradient_45 : decode cX0_gradient 45 = .ok (.arraylength, 1) := by decide +kernel
theorem dX0_gradient_46 : decode cX0_gradient 46 = .ok (.iconst 1, 1) := by decide +kernel
theorem dX0_gradient_47 : decode cX0_gradient 47 = .ok (.isub, 1) := by decide +kernel
theorem dX0_gradient_48 : decode cX0_gradient 48 = .ok (.iaload, 1) := by decide +kernel
theorem dX0_gradient_49 : decode cX0_gradient 49 = .ok (.invokestatic 42, 3) := by decide +kernel
theorem dX0_gradient_52 : decode cX0_gradient 52 = .ok (.isub, 1) := by decide +kernel
theorem dX0_gradient_53 : decode cX0_gradient 53 = .ok (.ireturn, 1) := by decide +kernel
set_option maxRecDepth 20000 in
theorem ggX0_passDryingHour_X0_applyFlows : GoodIn wsX0_passDryingHour wsX0_applyFlows := goodIn_r _ [9, 2, 10, 11, 12] (by decide +kernel) (by decide +kernel)
set_option maxRecDepth 20000 in
theorem gX0_passDryingHour_X0_applyFlows : GoodIn wsX0_passDryingHour (wsV RX0 53 RX0 yX0_applyFlows wsX0_applyFlows) := goodIn_app (goodIn_of _ (by decide +kernel)) ggX0_passDryingHour_X0_applyFlows
theorem dX0_passDryingHour_0 : decode cX0_passDryingHour 0 = .ok (.aload_n 0, 1) := by decide +kernel
theorem dX0_passDryingHour_1 : decode cX0_passDryingHour 1 = .ok (.iload_n 1, 1) := by decide +kernel
theorem dX0_passDryingHour_2 : decode cX0_passDryingHour 2 = .ok (.putfield 16, 3) := by decide +kernel
theorem dX0_passDryingHour_5 : decode cX0_passDryingHour 5 = .ok (.aload_n 0, 1) := by decide +kernel
theorem dX0_passDryingHour_6 : decode cX0_passDryingHour 6 = .ok (.getfield 19, 3) := by decide +kernel
theorem dX0_passDryingHour_9 : decode cX0_passDryingHour 9 = .ok (.iconst 0, 1) := by decide +kernel
theorem dX0_passDryingHour_10 : decode cX0_passDryingHour 10 = .ok (.iaload, 1) := by decide +kernel
theorem dX0_passDryingHour_11 : decode cX0_passDryingHour 11 = .ok (.iload_n 1, 1) := by decide +kernel
theorem dX0_passDryingHour_12 : decode cX0_passDryingHour 12 = .ok (.isub, 1) := by decide +kernel
theorem dX0_passDryingHour_13 : decode cX0_passDryingHour 13 = .ok (.aload_n 2, 1) := by decide +kernel
theorem dX0_passDryingHour_14 : decode cX0_passDryingHour 14 = .ok (.getfield 45, 3) := by decide +kernel
theorem dX0_passDryingHour_17 : decode cX0_passDryingHour 17 = .ok (.imul, 1) := by decide +kernel
theorem dX0_passDryingHour_18 : decode cX0_passDryingHour 18 = .ok (.sipush 1000, 3) := by decide +kernel
theorem dX0_passDryingHour_21 : decode cX0_passDryingHour 21 = .ok (.idiv, 1) := by decide +kernel
theorem dX0_passDryingHour_22 : decode cX0_passDryingHour 22 = .ok (.istore_n 3, 1) := by decide +kernel
theorem dX0_passDryingHour_23 : decode cX0_passDryingHour 23 = .ok (.aload_n 0, 1) := by decide +kernel
theorem dX0_passDryingHour_24 : decode cX0_passDryingHour 24 = .ok (.getfield 19, 3) := by decide +kernel
theorem dX0_passDryingHour_27 : decode cX0_passDryingHour 27 = .ok (.aload_n 0, 1) := by decide +kernel
theorem dX0_passDryingHour_28 : decode cX0_passDryingHour 28 = .ok (.getfield 19, 3) := by decide +kernel
theorem dX0_passDryingHour_31 : decode cX0_passDryingHour 31 = .ok (.arraylength, 1) := by decide +kernel
theorem dX0_passDryingHour_32 : decode cX0_passDryingHour 32 = .ok (.iconst 1, 1) := by decide +kernel
theorem dX0_passDryingHour_33 : decode cX0_passDryingHour 33 = .ok (.isub, 1) := by decide +kernel
theorem dX0_passDryingHour_34 : decode cX0_passDryingHour 34 = .ok (.iaload, 1) := by decide +kernel
theorem dX0_passDryingHour_35 : decode cX0_passDryingHour 35 = .ok (.iload_n 1, 1) := by decide +kernel
theorem dX0_passDryingHour_36 : decode cX0_passDryingHour 36 = .ok (.isub, 1) := by decide +kernel
theorem dX0_passDryingHour_37 : decode cX0_passDryingHour 37 = .ok (.aload_n 2, 1) := by decide +kernel
theorem dX0_passDryingHour_38 : decode cX0_passDryingHour 38 = .ok (.getfield 45, 3) := by decide +kernel
theorem dX0_passDryingHour_41 : decode cX0_passDryingHour 41 = .ok (.imul, 1) := by decide +kernel
theorem dX0_passDryingHour_42 : decode cX0_passDryingHour 42 = .ok (.sipush 1000, 3) := by decide +kernel
theorem dX0_passDryingHour_45 : decode cX0_passDryingHour 45 = .ok (.idiv, 1) := by decide +kernel
theorem dX0_passDryingHour_46 : decode cX0_passDryingHour 46 = .ok (.istore 4, 2) := by decide +kernel
theorem dX0_passDryingHour_48 : decode cX0_passDryingHour 48 = .ok (.aload_n 0, 1) := by decide +kernel
theorem dX0_passDryingHour_49 : decode cX0_passDryingHour 49 = .ok (.iload_n 3, 1) := by decide +kernel
theorem dX0_passDryingHour_50 : decode cX0_passDryingHour 50 = .ok (.iload 4, 2) := by decide +kernel
theorem dX0_passDryingHour_52 : decode cX0_passDryingHour 52 = .ok (.aload_n 2, 1) := by decide +kernel
theorem dX0_passDryingHour_53 : decode cX0_passDryingHour 53 = .ok (.getfield 50, 3) := by decide +kernel
theorem dX0_passDryingHour_56 : decode cX0_passDryingHour 56 = .ok (.invokevirtual 53, 3) := by decide +kernel
theorem dX0_passDryingHour_59 : decode cX0_passDryingHour 59 = .ok (.iload_n 3, 1) := by decide +kernel
theorem dX0_passDryingHour_60 : decode cX0_passDryingHour 60 = .ok (.iload 4, 2) := by decide +kernel
theorem dX0_passDryingHour_62 : decode cX0_passDryingHour 62 = .ok (.iadd, 1) := by decide +kernel
theorem dX0_passDryingHour_63 : decode cX0_passDryingHour 63 = .ok (.ireturn, 1) := by decide +kernel
set_option maxRecDepth 20000 in
theorem ggX0_passRestHour_X0_applyFlows : GoodIn wsX0_passRestHour wsX0_applyFlows := goodIn_r _ [5, 6, 7, 8, 9] (by decide +kernel) (by decide +kernel)
set_option maxRecDepth 20000 in
theorem gX0_passRestHour_X0_applyFlows : GoodIn wsX0_passRestHour (wsV RX0 53 RX0 yX0_applyFlows wsX0_applyFlows) := goodIn_app (goodIn_of _ (by decide +kernel)) ggX0_passRestHour_X0_applyFlows
theorem dX0_passRestHour_0 : decode cX0_passRestHour 0 = .ok (.aload_n 0, 1) := by decide +kernel
theorem dX0_passRestHour_1 : decode cX0_passRestHour 1 = .ok (.iconst 0, 1) := by decide +kernel
theorem dX0_passRestHour_2 : decode cX0_passRestHour 2 = .ok (.iconst 0, 1) := by decide +kernel
theorem dX0_passRestHour_3 : decode cX0_passRestHour 3 = .ok (.iload_n 1, 1) := by decide +kernel
theorem dX0_passRestHour_4 : decode cX0_passRestHour 4 = .ok (.invokevirtual 53, 3) := by decide +kernel
theorem dX0_passRestHour_7 : decode cX0_passRestHour 7 = .ok (.return_, 1) := by decide +kernel
theorem dX0_applyFlows_0 : decode cX0_applyFlows 0 = .ok (.iload_n 1, 1) := by decide +kernel
theorem dX0_applyFlows_1 : decode cX0_applyFlows 1 = .ok (.ineg, 1) := by decide +kernel
theorem dX0_applyFlows_2 : decode cX0_applyFlows 2 = .ok (.istore 4, 2) := by decide +kernel
theorem dX0_applyFlows_4 : decode cX0_applyFlows 4 = .ok (.iconst 0, 1) := by decide +kernel
theorem dX0_applyFlows_5 : decode cX0_applyFlows 5 = .ok (.istore 5, 2) := by decide +kernel
theorem dX0_applyFlows_7 : decode cX0_applyFlows 7 = .ok (.iload 5, 2) := by decide +kernel
theorem dX0_applyFlows_9 : decode cX0_applyFlows 9 = .ok (.aload_n 0, 1) := by decide +kernel
theorem dX0_applyFlows_10 : decode cX0_applyFlows 10 = .ok (.getfield 19, 3) := by decide +kernel
theorem dX0_applyFlows_13 : decode cX0_applyFlows 13 = .ok (.arraylength, 1) := by decide +kernel
theorem dX0_applyFlows_14 : decode cX0_applyFlows 14 = .ok (.if_icmp .ge 69, 3) := by decide +kernel
theorem dX0_applyFlows_17 : decode cX0_applyFlows 17 = .ok (.iload 5, 2) := by decide +kernel
theorem dX0_applyFlows_19 : decode cX0_applyFlows 19 = .ok (.iconst 1, 1) := by decide +kernel
theorem dX0_applyFlows_20 : decode cX0_applyFlows 20 = .ok (.iadd, 1) := by decide +kernel
theorem dX0_applyFlows_21 : decode cX0_applyFlows 21 = .ok (.aload_n 0, 1) := by decide +kernel
theorem dX0_applyFlows_22 : decode cX0_applyFlows 22 = .ok (.getfield 19, 3) := by decide +kernel
theorem dX0_applyFlows_25 : decode cX0_applyFlows 25 = .ok (.arraylength, 1) := by decide +kernel
theorem dX0_applyFlows_26 : decode cX0_applyFlows 26 = .ok (.if_icmp .ge 29, 3) := by decide +kernel
theorem dX0_applyFlows_29 : decode cX0_applyFlows 29 = .ok (.aload_n 0, 1) := by decide +kernel
theorem dX0_applyFlows_30 : decode cX0_applyFlows 30 = .ok (.getfield 19, 3) := by decide +kernel
theorem dX0_applyFlows_33 : decode cX0_applyFlows 33 = .ok (.iload 5, 2) := by decide +kernel
theorem dX0_applyFlows_35 : decode cX0_applyFlows 35 = .ok (.iaload, 1) := by decide +kernel
theorem dX0_applyFlows_36 : decode cX0_applyFlows 36 = .ok (.aload_n 0, 1) := by decide +kernel
theorem dX0_applyFlows_37 : decode cX0_applyFlows 37 = .ok (.getfield 19, 3) := by decide +kernel
theorem dX0_applyFlows_40 : decode cX0_applyFlows 40 = .ok (.iload 5, 2) := by decide +kernel
theorem dX0_applyFlows_42 : decode cX0_applyFlows 42 = .ok (.iconst 1, 1) := by decide +kernel
theorem dX0_applyFlows_43 : decode cX0_applyFlows 43 = .ok (.iadd, 1) := by decide +kernel
theorem dX0_applyFlows_44 : decode cX0_applyFlows 44 = .ok (.iaload, 1) := by decide +kernel
theorem dX0_applyFlows_45 : decode cX0_applyFlows 45 = .ok (.isub, 1) := by decide +kernel
theorem dX0_applyFlows_46 : decode cX0_applyFlows 46 = .ok (.iload_n 3, 1) := by decide +kernel
theorem dX0_applyFlows_47 : decode cX0_applyFlows 47 = .ok (.imul, 1) := by decide +kernel
theorem dX0_applyFlows_48 : decode cX0_applyFlows 48 = .ok (.sipush 1000, 3) := by decide +kernel
theorem dX0_applyFlows_51 : decode cX0_applyFlows 51 = .ok (.idiv, 1) := by decide +kernel
theorem dX0_applyFlows_52 : decode cX0_applyFlows 52 = .ok (.goto 4, 3) := by decide +kernel
theorem dX0_applyFlows_55 : decode cX0_applyFlows 55 = .ok (.iload_n 2, 1) := by decide +kernel
theorem dX0_applyFlows_56 : decode cX0_applyFlows 56 = .ok (.istore 6, 2) := by decide +kernel
theorem dX0_applyFlows_58 : decode cX0_applyFlows 58 = .ok (.aload_n 0, 1) := by decide +kernel
theorem dX0_applyFlows_59 : decode cX0_applyFlows 59 = .ok (.getfield 19, 3) := by decide +kernel
theorem dX0_applyFlows_62 : decode cX0_applyFlows 62 = .ok (.iload 5, 2) := by decide +kernel
theorem dX0_applyFlows_64 : decode cX0_applyFlows 64 = .ok (.dup2, 1) := by decide +kernel
theorem dX0_applyFlows_65 : decode cX0_applyFlows 65 = .ok (.iaload, 1) := by decide +kernel
theorem dX0_applyFlows_66 : decode cX0_applyFlows 66 = .ok (.iload 4, 2) := by decide +kernel
theorem dX0_applyFlows_68 : decode cX0_applyFlows 68 = .ok (.iload 6, 2) := by decide +kernel
theorem dX0_applyFlows_70 : decode cX0_applyFlows 70 = .ok (.isub, 1) := by decide +kernel
theorem dX0_applyFlows_71 : decode cX0_applyFlows 71 = .ok (.iadd, 1) := by decide +kernel
theorem dX0_applyFlows_72 : decode cX0_applyFlows 72 = .ok (.iastore, 1) := by decide +kernel
theorem dX0_applyFlows_73 : decode cX0_applyFlows 73 = .ok (.iload 6, 2) := by decide +kernel
theorem dX0_applyFlows_75 : decode cX0_applyFlows 75 = .ok (.istore 4, 2) := by decide +kernel
theorem dX0_applyFlows_77 : decode cX0_applyFlows 77 = .ok (.iinc 5 1, 3) := by decide +kernel
theorem dX0_applyFlows_80 : decode cX0_applyFlows 80 = .ok (.goto (-73), 3) := by decide +kernel
theorem dX0_applyFlows_83 : decode cX0_applyFlows 83 = .ok (.return_, 1) := by decide +kernel
theorem dX0_copyMoistureFrom_0 : decode cX0_copyMoistureFrom 0 = .ok (.aload_n 0, 1) := by decide +kernel
theorem dX0_copyMoistureFrom_1 : decode cX0_copyMoistureFrom 1 = .ok (.getfield 19, 3) := by decide +kernel
theorem dX0_copyMoistureFrom_4 : decode cX0_copyMoistureFrom 4 = .ok (.arraylength, 1) := by decide +kernel
theorem dX0_copyMoistureFrom_5 : decode cX0_copyMoistureFrom 5 = .ok (.aload_n 1, 1) := by decide +kernel
theorem dX0_copyMoistureFrom_6 : decode cX0_copyMoistureFrom 6 = .ok (.getfield 19, 3) := by decide +kernel
theorem dX0_copyMoistureFrom_9 : decode cX0_copyMoistureFrom 9 = .ok (.arraylength, 1) := by decide +kernel
theorem dX0_copyMoistureFrom_10 : decode cX0_copyMoistureFrom 10 = .ok (.invokestatic 42, 3) := by decide +kernel
theorem dX0_copyMoistureFrom_13 : decode cX0_copyMoistureFrom 13 = .ok (.istore_n 2, 1) := by decide +kernel
theorem dX0_copyMoistureFrom_14 : decode cX0_copyMoistureFrom 14 = .ok (.aload_n 1, 1) := by decide +kernel
theorem dX0_copyMoistureFrom_15 : decode cX0_copyMoistureFrom 15 = .ok (.getfield 19, 3) := by decide +kernel
theorem dX0_copyMoistureFrom_18 : decode cX0_copyMoistureFrom 18 = .ok (.iconst 0, 1) := by decide +kernel
theorem dX0_copyMoistureFrom_19 : decode cX0_copyMoistureFrom 19 = .ok (.aload_n 0, 1) := by decide +kernel
theorem dX0_copyMoistureFrom_20 : decode cX0_copyMoistureFrom 20 = .ok (.getfield 19, 3) := by decide +kernel
theorem dX0_copyMoistureFrom_23 : decode cX0_copyMoistureFrom 23 = .ok (.iconst 0, 1) := by decide +kernel
theorem dX0_copyMoistureFrom_24 : decode cX0_copyMoistureFrom 24 = .ok (.iload_n 2, 1) := by decide +kernel
theorem dX0_copyMoistureFrom_25 : decode cX0_copyMoistureFrom 25 = .ok (.invokestatic 57, 3) := by decide +kernel
theorem dX0_copyMoistureFrom_28 : decode cX0_copyMoistureFrom 28 = .ok (.return_, 1) := by decide +kernel
set_option maxRecDepth 20000 in
theorem ggX1_init_Jx4a65c_init_da8c8 : GoodIn wsX1_init wsJx4a65c_init_da8c8 := goodIn_r _ [12, 13, 14, 15, 16, 17, 18, 19, 20, 21, 22, 23, 24, 2, 3, 28, 29, 30] (by decide +kernel) (by decide +kernel)
set_option maxRecDepth 20000 in
theorem gX1_init_Jx4a65c_init_da8c8 : GoodIn wsX1_init (wsJx4a65c_init_da8c8) := ggX1_init_Jx4a65c_init_da8c8
theorem dX1_init_0 : decode cX1_init 0 = .ok (.aload_n 0, 1) := by decide +kernel
theorem dX1_init_1 : decode cX1_init 1 = .ok (.invokespecial 3, 3) := by decide +kernel
theorem dX1_init_4 : decode cX1_init 4 = .ok (.aload_n 0, 1) := by decide +kernel
theorem dX1_init_5 : decode cX1_init 5 = .ok (.iconst 0, 1) := by decide +kernel
theorem dX1_init_6 : decode cX1_init 6 = .ok (.putfield 9, 3) := by decide +kernel
theorem dX1_init_9 : decode cX1_init 9 = .ok (.aload_n 0, 1) := by decide +kernel
theorem dX1_init_10 : decode cX1_init 10 = .ok (.iconst 0, 1) := by decide +kernel
theorem dX1_init_11 : decode cX1_init 11 = .ok (.putfield 15, 3) := by decide +kernel
theorem dX1_init_14 : decode cX1_init 14 = .ok (.aload_n 0, 1) := by decide +kernel
theorem dX1_init_15 : decode cX1_init 15 = .ok (.new 19, 3) := by decide +kernel
theorem dX1_init_18 : decode cX1_init 18 = .ok (.dup, 1) := by decide +kernel
theorem dX1_init_19 : decode cX1_init 19 = .ok (.invokespecial 21, 3) := by decide +kernel
theorem dX1_init_22 : decode cX1_init 22 = .ok (.putfield 22, 3) := by decide +kernel
theorem dX1_init_25 : decode cX1_init 25 = .ok (.return_, 1) := by decide +kernel
set_option maxRecDepth 20000 in
theorem ggX1_size_Jx4a65c_size_8abf5 : GoodIn wsX1_size wsJx4a65c_size_8abf5 := goodIn_r _ [6, 7, 11, 12, 13] (by decide +kernel) (by decide +kernel)
set_option maxRecDepth 20000 in
theorem gX1_size_Jx4a65c_size_8abf5 : GoodIn wsX1_size (wsV RX1 26 RJx4a65c yJx4a65c_size_8abf5 wsJx4a65c_size_8abf5) := goodIn_app (goodIn_of _ (by decide +kernel)) ggX1_size_Jx4a65c_size_8abf5
theorem dX1_size_0 : decode cX1_size 0 = .ok (.aload_n 0, 1) := by decide +kernel
theorem dX1_size_1 : decode cX1_size 1 = .ok (.getfield 22, 3) := by decide +kernel
theorem dX1_size_4 : decode cX1_size 4 = .ok (.invokevirtual 26, 3) := by decide +kernel
theorem dX1_size_7 : decode cX1_size 7 = .ok (.ireturn, 1) := by decide +kernel
set_option maxRecDepth 20000 in
theorem ggX1_has_Jx4a65c_size_8abf5 : GoodIn wsX1_has wsJx4a65c_size_8abf5 := goodIn_r _ [6, 7, 11, 12, 13] (by decide +kernel) (by decide +kernel)
set_option maxRecDepth 20000 in
theorem gX1_has_Jx4a65c_size_8abf5 : GoodIn wsX1_has (wsV RX1 26 RJx4a65c yJx4a65c_size_8abf5 wsJx4a65c_size_8abf5) := goodIn_app (goodIn_of _ (by decide +kernel)) ggX1_has_Jx4a65c_size_8abf5
theorem dX1_has_0 : decode cX1_has 0 = .ok (.iload_n 1, 1) := by decide +kernel
theorem dX1_has_1 : decode cX1_has 1 = .ok (.ifCond .lt 18, 3) := by decide +kernel
theorem dX1_has_4 : decode cX1_has 4 = .ok (.iload_n 1, 1) := by decide +kernel
theorem dX1_has_5 : decode cX1_has 5 = .ok (.aload_n 0, 1) := by decide +kernel
theorem dX1_has_6 : decode cX1_has 6 = .ok (.getfield 22, 3) := by decide +kernel
theorem dX1_has_9 : decode cX1_has 9 = .ok (.invokevirtual 26, 3) := by decide +kernel
theorem dX1_has_12 : decode cX1_has 12 = .ok (.if_icmp .ge 7, 3) := by decide +kernel
theorem dX1_has_15 : decode cX1_has 15 = .ok (.iconst 1, 1) := by decide +kernel
theorem dX1_has_16 : decode cX1_has 16 = .ok (.goto 4, 3) := by decide +kernel
theorem dX1_has_19 : decode cX1_has 19 = .ok (.iconst 0, 1) := by decide +kernel
theorem dX1_has_20 : decode cX1_has 20 = .ok (.ireturn, 1) := by decide +kernel
set_option maxRecDepth 20000 in
theorem ggX1_boardAt_Jx4a65c_get_915e3 : GoodIn wsX1_boardAt wsJx4a65c_get_915e3 := goodIn_r _ [7, 8, 9, 10, 11, 12, 13, 14, 15, 16, 17, 18, 19, 6, 20, 21, 25, 26, 27] (by decide +kernel) (by decide +kernel)
set_option maxRecDepth 20000 in
theorem gX1_boardAt_Jx4a65c_get_915e3 : GoodIn wsX1_boardAt (wsV RX1 30 RJx4a65c yJx4a65c_get_915e3 wsJx4a65c_get_915e3) := goodIn_app (goodIn_of _ (by decide +kernel)) ggX1_boardAt_Jx4a65c_get_915e3
theorem dX1_boardAt_0 : decode cX1_boardAt 0 = .ok (.aload_n 0, 1) := by decide +kernel
theorem dX1_boardAt_1 : decode cX1_boardAt 1 = .ok (.getfield 22, 3) := by decide +kernel
theorem dX1_boardAt_4 : decode cX1_boardAt 4 = .ok (.iload_n 1, 1) := by decide +kernel
theorem dX1_boardAt_5 : decode cX1_boardAt 5 = .ok (.invokevirtual 30, 3) := by decide +kernel
theorem dX1_boardAt_8 : decode cX1_boardAt 8 = .ok (.checkcast 34, 3) := by decide +kernel
theorem dX1_boardAt_11 : decode cX1_boardAt 11 = .ok (.areturn, 1) := by decide +kernel
set_option maxRecDepth 20000 in
theorem ggX1_put_Jx4a65c_add_9ea2d : GoodIn wsX1_put wsJx4a65c_add_9ea2d := goodIn_r _ [6, 7, 8, 9, 10, 11, 12, 13, 5, 14, 15, 16, 17, 18, 19, 20, 21, 22, 23, 24, 25, 26, 27, 28, 29, 30, 31, 32, 33, 34, 35, 36, 37, 38, 39, 40, 41, 42, 43, 44, 45, 46, 47, 48, 49, 50, 51, 52, 53, 54, 55, 56, 57, 61, 62, 63] (by decide +kernel) (by decide +kernel)
set_option maxRecDepth 20000 in
theorem gX1_put_Jx4a65c_add_9ea2d : GoodIn wsX1_put (wsV RX1 36 RJx4a65c yJx4a65c_add_9ea2d wsJx4a65c_add_9ea2d) := goodIn_app (goodIn_of _ (by decide +kernel)) ggX1_put_Jx4a65c_add_9ea2d
theorem dX1_put_0 : decode cX1_put 0 = .ok (.aload_n 0, 1) := by decide +kernel
theorem dX1_put_1 : decode cX1_put 1 = .ok (.getfield 22, 3) := by decide +kernel
theorem dX1_put_4 : decode cX1_put 4 = .ok (.aload_n 1, 1) := by decide +kernel
theorem dX1_put_5 : decode cX1_put 5 = .ok (.invokevirtual 36, 3) := by decide +kernel
theorem dX1_put_8 : decode cX1_put 8 = .ok (.pop, 1) := by decide +kernel
theorem dX1_put_9 : decode cX1_put 9 = .ok (.return_, 1) := by decide +kernel
set_option maxRecDepth 20000 in
theorem ggX1_copyFrom_Jx4a65c_size_8abf5 : GoodIn wsX1_copyFrom wsJx4a65c_size_8abf5 := goodIn_r _ [9, 10, 45, 46, 47] (by decide +kernel) (by decide +kernel)
set_option maxRecDepth 20000 in
theorem gX1_copyFrom_Jx4a65c_size_8abf5 : GoodIn wsX1_copyFrom (wsV RX1 26 RJx4a65c yJx4a65c_size_8abf5 wsJx4a65c_size_8abf5) := goodIn_app (goodIn_of _ (by decide +kernel)) ggX1_copyFrom_Jx4a65c_size_8abf5
set_option maxRecDepth 20000 in
theorem ggX1_copyFrom_Jx4a65c_get_915e3 : GoodIn wsX1_copyFrom wsJx4a65c_get_915e3 := goodIn_r _ [14, 10, 15, 16, 17, 18, 19, 20, 21, 22, 23, 24, 25, 8, 26, 27, 45, 46, 47] (by decide +kernel) (by decide +kernel)
set_option maxRecDepth 20000 in
theorem gX1_copyFrom_Jx4a65c_get_915e3 : GoodIn wsX1_copyFrom (wsV RX1 30 RJx4a65c yJx4a65c_get_915e3 wsJx4a65c_get_915e3) := goodIn_app (goodIn_of _ (by decide +kernel)) ggX1_copyFrom_Jx4a65c_get_915e3
set_option maxRecDepth 20000 in
theorem ggX1_copyFrom_X0_copyMoistureFrom : GoodIn wsX1_copyFrom wsX0_copyMoistureFrom := goodIn_r _ [32, 33, 34, 35, 36, 37, 38, 39, 40, 41, 48, 49, 50] (by decide +kernel) (by decide +kernel)
set_option maxRecDepth 20000 in
theorem gX1_copyFrom_X0_copyMoistureFrom : GoodIn wsX1_copyFrom (wsV RX1 40 RX0 yX0_copyMoistureFrom wsX0_copyMoistureFrom) := goodIn_app (goodIn_of _ (by decide +kernel)) ggX1_copyFrom_X0_copyMoistureFrom
theorem dX1_copyFrom_0 : decode cX1_copyFrom 0 = .ok (.iconst 0, 1) := by decide +kernel
theorem dX1_copyFrom_1 : decode cX1_copyFrom 1 = .ok (.istore_n 2, 1) := by decide +kernel
theorem dX1_copyFrom_2 : decode cX1_copyFrom 2 = .ok (.iload_n 2, 1) := by decide +kernel
theorem dX1_copyFrom_3 : decode cX1_copyFrom 3 = .ok (.aload_n 0, 1) := by decide +kernel
theorem dX1_copyFrom_4 : decode cX1_copyFrom 4 = .ok (.getfield 22, 3) := by decide +kernel
theorem dX1_copyFrom_7 : decode cX1_copyFrom 7 = .ok (.invokevirtual 26, 3) := by decide +kernel
theorem dX1_copyFrom_10 : decode cX1_copyFrom 10 = .ok (.if_icmp .ge 45, 3) := by decide +kernel
theorem dX1_copyFrom_13 : decode cX1_copyFrom 13 = .ok (.iload_n 2, 1) := by decide +kernel
theorem dX1_copyFrom_14 : decode cX1_copyFrom 14 = .ok (.aload_n 1, 1) := by decide +kernel
theorem dX1_copyFrom_15 : decode cX1_copyFrom 15 = .ok (.getfield 22, 3) := by decide +kernel
theorem dX1_copyFrom_18 : decode cX1_copyFrom 18 = .ok (.invokevirtual 26, 3) := by decide +kernel
theorem dX1_copyFrom_21 : decode cX1_copyFrom 21 = .ok (.if_icmp .ge 34, 3) := by decide +kernel
theorem dX1_copyFrom_24 : decode cX1_copyFrom 24 = .ok (.aload_n 0, 1) := by decide +kernel
theorem dX1_copyFrom_25 : decode cX1_copyFrom 25 = .ok (.getfield 22, 3) := by decide +kernel
theorem dX1_copyFrom_28 : decode cX1_copyFrom 28 = .ok (.iload_n 2, 1) := by decide +kernel
theorem dX1_copyFrom_29 : decode cX1_copyFrom 29 = .ok (.invokevirtual 30, 3) := by decide +kernel
theorem dX1_copyFrom_32 : decode cX1_copyFrom 32 = .ok (.checkcast 34, 3) := by decide +kernel
theorem dX1_copyFrom_35 : decode cX1_copyFrom 35 = .ok (.aload_n 1, 1) := by decide +kernel
theorem dX1_copyFrom_36 : decode cX1_copyFrom 36 = .ok (.getfield 22, 3) := by decide +kernel
theorem dX1_copyFrom_39 : decode cX1_copyFrom 39 = .ok (.iload_n 2, 1) := by decide +kernel
theorem dX1_copyFrom_40 : decode cX1_copyFrom 40 = .ok (.invokevirtual 30, 3) := by decide +kernel
theorem dX1_copyFrom_43 : decode cX1_copyFrom 43 = .ok (.checkcast 34, 3) := by decide +kernel
theorem dX1_copyFrom_46 : decode cX1_copyFrom 46 = .ok (.invokevirtual 40, 3) := by decide +kernel
theorem dX1_copyFrom_49 : decode cX1_copyFrom 49 = .ok (.iinc 2 1, 3) := by decide +kernel
theorem dX1_copyFrom_52 : decode cX1_copyFrom 52 = .ok (.goto (-50), 3) := by decide +kernel
theorem dX1_copyFrom_55 : decode cX1_copyFrom 55 = .ok (.aload_n 0, 1) := by decide +kernel
theorem dX1_copyFrom_56 : decode cX1_copyFrom 56 = .ok (.aload_n 1, 1) := by decide +kernel
theorem dX1_copyFrom_57 : decode cX1_copyFrom 57 = .ok (.getfield 9, 3) := by decide +kernel
theorem dX1_copyFrom_60 : decode cX1_copyFrom 60 = .ok (.putfield 9, 3) := by decide +kernel
theorem dX1_copyFrom_63 : decode cX1_copyFrom 63 = .ok (.aload_n 0, 1) := by decide +kernel
theorem dX1_copyFrom_64 : decode cX1_copyFrom 64 = .ok (.aload_n 1, 1) := by decide +kernel
theorem dX1_copyFrom_65 : decode cX1_copyFrom 65 = .ok (.getfield 15, 3) := by decide +kernel
theorem dX1_copyFrom_68 : decode cX1_copyFrom 68 = .ok (.putfield 15, 3) := by decide +kernel
theorem dX1_copyFrom_71 : decode cX1_copyFrom 71 = .ok (.return_, 1) := by decide +kernel
set_option maxRecDepth 20000 in
theorem ggX1_water_Jx4a65c_size_8abf5 : GoodIn wsX1_water wsJx4a65c_size_8abf5 := goodIn_r _ [7, 8, 35, 36, 37] (by decide +kernel) (by decide +kernel)
set_option maxRecDepth 20000 in
theorem gX1_water_Jx4a65c_size_8abf5 : GoodIn wsX1_water (wsV RX1 26 RJx4a65c yJx4a65c_size_8abf5 wsJx4a65c_size_8abf5) := goodIn_app (goodIn_of _ (by decide +kernel)) ggX1_water_Jx4a65c_size_8abf5
set_option maxRecDepth 20000 in
theorem ggX1_water_Jx4a65c_get_915e3 : GoodIn wsX1_water wsJx4a65c_get_915e3 := goodIn_r _ [12, 8, 13, 14, 15, 16, 17, 18, 19, 20, 21, 22, 23, 6, 24, 25, 35, 36, 37] (by decide +kernel) (by decide +kernel)
set_option maxRecDepth 20000 in
theorem gX1_water_Jx4a65c_get_915e3 : GoodIn wsX1_water (wsV RX1 30 RJx4a65c yJx4a65c_get_915e3 wsJx4a65c_get_915e3) := goodIn_app (goodIn_of _ (by decide +kernel)) ggX1_water_Jx4a65c_get_915e3
set_option maxRecDepth 20000 in
theorem ggX1_water_X0_water : GoodIn wsX1_water wsX0_water := goodIn_r _ [30, 31, 38, 39, 40] (by decide +kernel) (by decide +kernel)
set_option maxRecDepth 20000 in
theorem gX1_water_X0_water : GoodIn wsX1_water (wsV RX1 44 RX0 yX0_water wsX0_water) := goodIn_app (goodIn_of _ (by decide +kernel)) ggX1_water_X0_water
theorem dX1_water_0 : decode cX1_water 0 = .ok (.iconst 0, 1) := by decide +kernel
theorem dX1_water_1 : decode cX1_water 1 = .ok (.istore_n 1, 1) := by decide +kernel
theorem dX1_water_2 : decode cX1_water 2 = .ok (.iconst 0, 1) := by decide +kernel
theorem dX1_water_3 : decode cX1_water 3 = .ok (.istore_n 2, 1) := by decide +kernel
theorem dX1_water_4 : decode cX1_water 4 = .ok (.iload_n 2, 1) := by decide +kernel
theorem dX1_water_5 : decode cX1_water 5 = .ok (.aload_n 0, 1) := by decide +kernel
theorem dX1_water_6 : decode cX1_water 6 = .ok (.getfield 22, 3) := by decide +kernel
theorem dX1_water_9 : decode cX1_water 9 = .ok (.invokevirtual 26, 3) := by decide +kernel
theorem dX1_water_12 : decode cX1_water 12 = .ok (.if_icmp .ge 26, 3) := by decide +kernel
theorem dX1_water_15 : decode cX1_water 15 = .ok (.iload_n 1, 1) := by decide +kernel
theorem dX1_water_16 : decode cX1_water 16 = .ok (.aload_n 0, 1) := by decide +kernel
theorem dX1_water_17 : decode cX1_water 17 = .ok (.getfield 22, 3) := by decide +kernel
theorem dX1_water_20 : decode cX1_water 20 = .ok (.iload_n 2, 1) := by decide +kernel
theorem dX1_water_21 : decode cX1_water 21 = .ok (.invokevirtual 30, 3) := by decide +kernel
theorem dX1_water_24 : decode cX1_water 24 = .ok (.checkcast 34, 3) := by decide +kernel
theorem dX1_water_27 : decode cX1_water 27 = .ok (.invokevirtual 44, 3) := by decide +kernel
theorem dX1_water_30 : decode cX1_water 30 = .ok (.iadd, 1) := by decide +kernel
theorem dX1_water_31 : decode cX1_water 31 = .ok (.istore_n 1, 1) := by decide +kernel
theorem dX1_water_32 : decode cX1_water 32 = .ok (.iinc 2 1, 3) := by decide +kernel
theorem dX1_water_35 : decode cX1_water 35 = .ok (.goto (-31), 3) := by decide +kernel
theorem dX1_water_38 : decode cX1_water 38 = .ok (.iload_n 1, 1) := by decide +kernel
theorem dX1_water_39 : decode cX1_water 39 = .ok (.ireturn, 1) := by decide +kernel
set_option maxRecDepth 20000 in
theorem ggX1_wettest_Jx4a65c_size_8abf5 : GoodIn wsX1_wettest wsJx4a65c_size_8abf5 := goodIn_r _ [8, 9, 43, 44, 45] (by decide +kernel) (by decide +kernel)
set_option maxRecDepth 20000 in
theorem gX1_wettest_Jx4a65c_size_8abf5 : GoodIn wsX1_wettest (wsV RX1 26 RJx4a65c yJx4a65c_size_8abf5 wsJx4a65c_size_8abf5) := goodIn_app (goodIn_of _ (by decide +kernel)) ggX1_wettest_Jx4a65c_size_8abf5
set_option maxRecDepth 20000 in
theorem ggX1_wettest_Jx4a65c_get_915e3 : GoodIn wsX1_wettest wsJx4a65c_get_915e3 := goodIn_r _ [13, 9, 14, 15, 16, 17, 18, 19, 20, 21, 22, 23, 24, 7, 25, 26, 43, 44, 45] (by decide +kernel) (by decide +kernel)
set_option maxRecDepth 20000 in
theorem gX1_wettest_Jx4a65c_get_915e3 : GoodIn wsX1_wettest (wsV RX1 30 RJx4a65c yJx4a65c_get_915e3 wsJx4a65c_get_915e3) := goodIn_app (goodIn_of _ (by decide +kernel)) ggX1_wettest_Jx4a65c_get_915e3
set_option maxRecDepth 20000 in
theorem ggX1_wettest_X0_average : GoodIn wsX1_wettest wsX0_average := goodIn_r _ [31, 32, 33, 34, 35, 30, 36, 37, 38, 39, 46, 47, 48] (by decide +kernel) (by decide +kernel)
set_option maxRecDepth 20000 in
theorem gX1_wettest_X0_average : GoodIn wsX1_wettest (wsV RX1 48 RX0 yX0_average wsX0_average) := goodIn_app (goodIn_of _ (by decide +kernel)) ggX1_wettest_X0_average
theorem dX1_wettest_0 : decode cX1_wettest 0 = .ok (.ldc 47, 2) := by decide +kernel
theorem dX1_wettest_2 : decode cX1_wettest 2 = .ok (.istore_n 1, 1) := by decide +kernel
theorem dX1_wettest_3 : decode cX1_wettest 3 = .ok (.iconst (-1), 1) := by decide +kernel
theorem dX1_wettest_4 : decode cX1_wettest 4 = .ok (.istore_n 2, 1) := by decide +kernel
theorem dX1_wettest_5 : decode cX1_wettest 5 = .ok (.iconst 0, 1) := by decide +kernel
theorem dX1_wettest_6 : decode cX1_wettest 6 = .ok (.istore_n 3, 1) := by decide +kernel
theorem dX1_wettest_7 : decode cX1_wettest 7 = .ok (.iload_n 3, 1) := by decide +kernel
theorem dX1_wettest_8 : decode cX1_wettest 8 = .ok (.aload_n 0, 1) := by decide +kernel
theorem dX1_wettest_9 : decode cX1_wettest 9 = .ok (.getfield 22, 3) := by decide +kernel
theorem dX1_wettest_12 : decode cX1_wettest 12 = .ok (.invokevirtual 26, 3) := by decide +kernel
theorem dX1_wettest_15 : decode cX1_wettest 15 = .ok (.if_icmp .ge 36, 3) := by decide +kernel
theorem dX1_wettest_18 : decode cX1_wettest 18 = .ok (.aload_n 0, 1) := by decide +kernel
theorem dX1_wettest_19 : decode cX1_wettest 19 = .ok (.getfield 22, 3) := by decide +kernel
theorem dX1_wettest_22 : decode cX1_wettest 22 = .ok (.iload_n 3, 1) := by decide +kernel
theorem dX1_wettest_23 : decode cX1_wettest 23 = .ok (.invokevirtual 30, 3) := by decide +kernel
theorem dX1_wettest_26 : decode cX1_wettest 26 = .ok (.checkcast 34, 3) := by decide +kernel
theorem dX1_wettest_29 : decode cX1_wettest 29 = .ok (.invokevirtual 48, 3) := by decide +kernel
theorem dX1_wettest_32 : decode cX1_wettest 32 = .ok (.istore 4, 2) := by decide +kernel
theorem dX1_wettest_34 : decode cX1_wettest 34 = .ok (.iload 4, 2) := by decide +kernel
theorem dX1_wettest_36 : decode cX1_wettest 36 = .ok (.iload_n 2, 1) := by decide +kernel
theorem dX1_wettest_37 : decode cX1_wettest 37 = .ok (.if_icmp .le 8, 3) := by decide +kernel
theorem dX1_wettest_40 : decode cX1_wettest 40 = .ok (.iload_n 3, 1) := by decide +kernel
theorem dX1_wettest_41 : decode cX1_wettest 41 = .ok (.istore_n 1, 1) := by decide +kernel
theorem dX1_wettest_42 : decode cX1_wettest 42 = .ok (.iload 4, 2) := by decide +kernel
theorem dX1_wettest_44 : decode cX1_wettest 44 = .ok (.istore_n 2, 1) := by decide +kernel
theorem dX1_wettest_45 : decode cX1_wettest 45 = .ok (.iinc 3 1, 3) := by decide +kernel
theorem dX1_wettest_48 : decode cX1_wettest 48 = .ok (.goto (-41), 3) := by decide +kernel
theorem dX1_wettest_51 : decode cX1_wettest 51 = .ok (.iload_n 1, 1) := by decide +kernel
theorem dX1_wettest_52 : decode cX1_wettest 52 = .ok (.ireturn, 1) := by decide +kernel
set_option maxRecDepth 20000 in
theorem ggX1_greatestAverage_Jx4a65c_size_8abf5 : GoodIn wsX1_greatestAverage wsJx4a65c_size_8abf5 := goodIn_r _ [11, 12, 46, 47, 48] (by decide +kernel) (by decide +kernel)
set_option maxRecDepth 20000 in
theorem gX1_greatestAverage_Jx4a65c_size_8abf5 : GoodIn wsX1_greatestAverage (wsV RX1 26 RJx4a65c yJx4a65c_size_8abf5 wsJx4a65c_size_8abf5) := goodIn_app (goodIn_of _ (by decide +kernel)) ggX1_greatestAverage_Jx4a65c_size_8abf5
set_option maxRecDepth 20000 in
theorem ggX1_greatestAverage_Jx4a65c_get_915e3 : GoodIn wsX1_greatestAverage wsJx4a65c_get_915e3 := goodIn_r _ [16, 12, 17, 18, 19, 20, 21, 22, 23, 24, 25, 26, 27, 10, 28, 29, 46, 47, 48] (by decide +kernel) (by decide +kernel)
set_option maxRecDepth 20000 in
theorem gX1_greatestAverage_Jx4a65c_get_915e3 : GoodIn wsX1_greatestAverage (wsV RX1 30 RJx4a65c yJx4a65c_get_915e3 wsJx4a65c_get_915e3) := goodIn_app (goodIn_of _ (by decide +kernel)) ggX1_greatestAverage_Jx4a65c_get_915e3
set_option maxRecDepth 20000 in
theorem ggX1_greatestAverage_X0_average : GoodIn wsX1_greatestAverage wsX0_average := goodIn_r _ [34, 35, 36, 37, 38, 33, 39, 40, 41, 42, 49, 50, 51] (by decide +kernel) (by decide +kernel)
set_option maxRecDepth 20000 in
theorem gX1_greatestAverage_X0_average : GoodIn wsX1_greatestAverage (wsV RX1 48 RX0 yX0_average wsX0_average) := goodIn_app (goodIn_of _ (by decide +kernel)) ggX1_greatestAverage_X0_average
theorem dX1_greatestAverage_0 : decode cX1_greatestAverage 0 = .ok (.iconst 0, 1) := by decide +kernel
theorem dX1_greatestAverage_1 : decode cX1_greatestAverage 1 = .ok (.istore_n 1, 1) := by decide +kernel
theorem dX1_greatestAverage_2 : decode cX1_greatestAverage 2 = .ok (.iconst 0, 1) := by decide +kernel
theorem dX1_greatestAverage_3 : decode cX1_greatestAverage 3 = .ok (.istore_n 2, 1) := by decide +kernel
theorem dX1_greatestAverage_4 : decode cX1_greatestAverage 4 = .ok (.iload_n 2, 1) := by decide +kernel
theorem dX1_greatestAverage_5 : decode cX1_greatestAverage 5 = .ok (.aload_n 0, 1) := by decide +kernel
theorem dX1_greatestAverage_6 : decode cX1_greatestAverage 6 = .ok (.getfield 22, 3) := by decide +kernel
theorem dX1_greatestAverage_9 : decode cX1_greatestAverage 9 = .ok (.invokevirtual 26, 3) := by decide +kernel
theorem dX1_greatestAverage_12 : decode cX1_greatestAverage 12 = .ok (.if_icmp .ge 28, 3) := by decide +kernel
theorem dX1_greatestAverage_15 : decode cX1_greatestAverage 15 = .ok (.iload_n 1, 1) := by decide +kernel
theorem dX1_greatestAverage_16 : decode cX1_greatestAverage 16 = .ok (.aload_n 0, 1) := by decide +kernel
theorem dX1_greatestAverage_17 : decode cX1_greatestAverage 17 = .ok (.getfield 22, 3) := by decide +kernel
theorem dX1_greatestAverage_20 : decode cX1_greatestAverage 20 = .ok (.iload_n 2, 1) := by decide +kernel
theorem dX1_greatestAverage_21 : decode cX1_greatestAverage 21 = .ok (.invokevirtual 30, 3) := by decide +kernel
theorem dX1_greatestAverage_24 : decode cX1_greatestAverage 24 = .ok (.checkcast 34, 3) := by decide +kernel
theorem dX1_greatestAverage_27 : decode cX1_greatestAverage 27 = .ok (.invokevirtual 48, 3) := by decide +kernel
theorem dX1_greatestAverage_30 : decode cX1_greatestAverage 30 = .ok (.invokestatic 51, 3) := by decide +kernel
theorem dX1_greatestAverage_33 : decode cX1_greatestAverage 33 = .ok (.istore_n 1, 1) := by decide +kernel
theorem dX1_greatestAverage_34 : decode cX1_greatestAverage 34 = .ok (.iinc 2 1, 3) := by decide +kernel
theorem dX1_greatestAverage_37 : decode cX1_greatestAverage 37 = .ok (.goto (-33), 3) := by decide +kernel
theorem dX1_greatestAverage_40 : decode cX1_greatestAverage 40 = .ok (.iload_n 1, 1) := by decide +kernel
theorem dX1_greatestAverage_41 : decode cX1_greatestAverage 41 = .ok (.ireturn, 1) := by decide +kernel
set_option maxRecDepth 20000 in
theorem ggX1_isWetterThan_X1_greatestAverage : GoodIn wsX1_isWetterThan wsX1_greatestAverage := goodIn_r _ [5, 6, 7, 8, 9, 10, 11, 12, 13, 14, 15, 16, 17, 18, 19, 20, 21, 22, 23, 24, 25, 26, 27, 28, 29, 30, 31, 32, 33, 34, 35, 36, 37, 38, 39, 40, 41, 42, 43, 44, 45, 46, 47, 48, 49, 50, 51, 52, 53, 54, 55, 56] (by decide +kernel) (by decide +kernel)
set_option maxRecDepth 20000 in
theorem gX1_isWetterThan_X1_greatestAverage : GoodIn wsX1_isWetterThan (wsV RX1 57 RX1 yX1_greatestAverage wsX1_greatestAverage) := goodIn_app (goodIn_of _ (by decide +kernel)) ggX1_isWetterThan_X1_greatestAverage
theorem dX1_isWetterThan_0 : decode cX1_isWetterThan 0 = .ok (.aload_n 0, 1) := by decide +kernel
theorem dX1_isWetterThan_1 : decode cX1_isWetterThan 1 = .ok (.invokevirtual 57, 3) := by decide +kernel
theorem dX1_isWetterThan_4 : decode cX1_isWetterThan 4 = .ok (.iload_n 1, 1) := by decide +kernel
theorem dX1_isWetterThan_5 : decode cX1_isWetterThan 5 = .ok (.if_icmp .le 7, 3) := by decide +kernel
theorem dX1_isWetterThan_8 : decode cX1_isWetterThan 8 = .ok (.iconst 1, 1) := by decide +kernel
theorem dX1_isWetterThan_9 : decode cX1_isWetterThan 9 = .ok (.goto 4, 3) := by decide +kernel
theorem dX1_isWetterThan_12 : decode cX1_isWetterThan 12 = .ok (.iconst 0, 1) := by decide +kernel
theorem dX1_isWetterThan_13 : decode cX1_isWetterThan 13 = .ok (.ireturn, 1) := by decide +kernel
set_option maxRecDepth 20000 in
theorem ggX1_greatestGradient_Jx4a65c_size_8abf5 : GoodIn wsX1_greatestGradient wsJx4a65c_size_8abf5 := goodIn_r _ [11, 12, 43, 44, 45] (by decide +kernel) (by decide +kernel)
set_option maxRecDepth 20000 in
theorem gX1_greatestGradient_Jx4a65c_size_8abf5 : GoodIn wsX1_greatestGradient (wsV RX1 26 RJx4a65c yJx4a65c_size_8abf5 wsJx4a65c_size_8abf5) := goodIn_app (goodIn_of _ (by decide +kernel)) ggX1_greatestGradient_Jx4a65c_size_8abf5
set_option maxRecDepth 20000 in
theorem ggX1_greatestGradient_Jx4a65c_get_915e3 : GoodIn wsX1_greatestGradient wsJx4a65c_get_915e3 := goodIn_r _ [16, 12, 17, 18, 19, 20, 21, 22, 23, 24, 25, 26, 27, 10, 28, 29, 43, 44, 45] (by decide +kernel) (by decide +kernel)
set_option maxRecDepth 20000 in
theorem gX1_greatestGradient_Jx4a65c_get_915e3 : GoodIn wsX1_greatestGradient (wsV RX1 30 RJx4a65c yJx4a65c_get_915e3 wsJx4a65c_get_915e3) := goodIn_app (goodIn_of _ (by decide +kernel)) ggX1_greatestGradient_Jx4a65c_get_915e3
set_option maxRecDepth 20000 in
theorem ggX1_greatestGradient_X0_gradient : GoodIn wsX1_greatestGradient wsX0_gradient := goodIn_r _ [34, 35, 36, 4, 5, 6, 37, 38, 39, 46, 47, 48] (by decide +kernel) (by decide +kernel)
set_option maxRecDepth 20000 in
theorem gX1_greatestGradient_X0_gradient : GoodIn wsX1_greatestGradient (wsV RX1 60 RX0 yX0_gradient wsX0_gradient) := goodIn_app (goodIn_of _ (by decide +kernel)) ggX1_greatestGradient_X0_gradient
theorem dX1_greatestGradient_0 : decode cX1_greatestGradient 0 = .ok (.iconst 0, 1) := by decide +kernel
theorem dX1_greatestGradient_1 : decode cX1_greatestGradient 1 = .ok (.istore_n 1, 1) := by decide +kernel
theorem dX1_greatestGradient_2 : decode cX1_greatestGradient 2 = .ok (.iconst 0, 1) := by decide +kernel
theorem dX1_greatestGradient_3 : decode cX1_greatestGradient 3 = .ok (.istore_n 2, 1) := by decide +kernel
theorem dX1_greatestGradient_4 : decode cX1_greatestGradient 4 = .ok (.iload_n 2, 1) := by decide +kernel
theorem dX1_greatestGradient_5 : decode cX1_greatestGradient 5 = .ok (.aload_n 0, 1) := by decide +kernel
theorem dX1_greatestGradient_6 : decode cX1_greatestGradient 6 = .ok (.getfield 22, 3) := by decide +kernel
theorem dX1_greatestGradient_9 : decode cX1_greatestGradient 9 = .ok (.invokevirtual 26, 3) := by decide +kernel
theorem dX1_greatestGradient_12 : decode cX1_greatestGradient 12 = .ok (.if_icmp .ge 28, 3) := by decide +kernel
theorem dX1_greatestGradient_15 : decode cX1_greatestGradient 15 = .ok (.iload_n 1, 1) := by decide +kernel
theorem dX1_greatestGradient_16 : decode cX1_greatestGradient 16 = .ok (.aload_n 0, 1) := by decide +kernel
theorem dX1_greatestGradient_17 : decode cX1_greatestGradient 17 = .ok (.getfield 22, 3) := by decide +kernel
theorem dX1_greatestGradient_20 : decode cX1_greatestGradient 20 = .ok (.iload_n 2, 1) := by decide +kernel
theorem dX1_greatestGradient_21 : decode cX1_greatestGradient 21 = .ok (.invokevirtual 30, 3) := by decide +kernel
theorem dX1_greatestGradient_24 : decode cX1_greatestGradient 24 = .ok (.checkcast 34, 3) := by decide +kernel
theorem dX1_greatestGradient_27 : decode cX1_greatestGradient 27 = .ok (.invokevirtual 60, 3) := by decide +kernel
theorem dX1_greatestGradient_30 : decode cX1_greatestGradient 30 = .ok (.invokestatic 51, 3) := by decide +kernel
theorem dX1_greatestGradient_33 : decode cX1_greatestGradient 33 = .ok (.istore_n 1, 1) := by decide +kernel
theorem dX1_greatestGradient_34 : decode cX1_greatestGradient 34 = .ok (.iinc 2 1, 3) := by decide +kernel
theorem dX1_greatestGradient_37 : decode cX1_greatestGradient 37 = .ok (.goto (-33), 3) := by decide +kernel
theorem dX1_greatestGradient_40 : decode cX1_greatestGradient 40 = .ok (.iload_n 1, 1) := by decide +kernel
theorem dX1_greatestGradient_41 : decode cX1_greatestGradient 41 = .ok (.ireturn, 1) := by decide +kernel
set_option maxRecDepth 20000 in
theorem ggX1_meanOf_Jx4a65c_size_8abf5 : GoodIn wsX1_meanOf wsJx4a65c_size_8abf5 := goodIn_r _ [7, 8, 49, 50, 51] (by decide +kernel) (by decide +kernel)
set_option maxRecDepth 20000 in
theorem gX1_meanOf_Jx4a65c_size_8abf5 : GoodIn wsX1_meanOf (wsV RX1 26 RJx4a65c yJx4a65c_size_8abf5 wsJx4a65c_size_8abf5) := goodIn_app (goodIn_of _ (by decide +kernel)) ggX1_meanOf_Jx4a65c_size_8abf5
set_option maxRecDepth 20000 in
theorem ggX1_meanOf_Jx4a65c_get_915e3 : GoodIn wsX1_meanOf wsJx4a65c_get_915e3 := goodIn_r _ [12, 8, 13, 14, 15, 16, 17, 18, 19, 20, 21, 22, 23, 6, 24, 25, 49, 50, 51] (by decide +kernel) (by decide +kernel)
set_option maxRecDepth 20000 in
theorem gX1_meanOf_Jx4a65c_get_915e3 : GoodIn wsX1_meanOf (wsV RX1 30 RJx4a65c yJx4a65c_get_915e3 wsJx4a65c_get_915e3) := goodIn_app (goodIn_of _ (by decide +kernel)) ggX1_meanOf_Jx4a65c_get_915e3
set_option maxRecDepth 20000 in
theorem ggX1_meanOf_X0_average : GoodIn wsX1_meanOf wsX0_average := goodIn_r _ [30, 31, 32, 33, 34, 29, 35, 36, 37, 38, 52, 53, 54] (by decide +kernel) (by decide +kernel)
set_option maxRecDepth 20000 in
theorem gX1_meanOf_X0_average : GoodIn wsX1_meanOf (wsV RX1 48 RX0 yX0_average wsX0_average) := goodIn_app (goodIn_of _ (by decide +kernel)) ggX1_meanOf_X0_average
set_option maxRecDepth 20000 in
theorem ggX1_meanOf_J6_bitCount_0f7a4 : GoodIn wsX1_meanOf wsJ6_bitCount_0f7a4 := goodIn_r _ [42, 43, 44, 45] (by decide +kernel) (by decide +kernel)
set_option maxRecDepth 20000 in
theorem gX1_meanOf_J6_bitCount_0f7a4 : GoodIn wsX1_meanOf (va_wsS RX1 63 yJ6_bitCount_0f7a4 wsJ6_bitCount_0f7a4) := goodIn_app (goodIn_of _ (by decide +kernel)) ggX1_meanOf_J6_bitCount_0f7a4
set_option maxRecDepth 20000 in
theorem ggX1_meanOf_X4_quotient : GoodIn wsX1_meanOf wsX4_quotient := goodIn_r _ [38] (by decide +kernel) (by decide +kernel)
set_option maxRecDepth 20000 in
theorem gX1_meanOf_X4_quotient_n69 : GoodIn wsX1_meanOf (wsX4_quotient) := ggX1_meanOf_X4_quotient
theorem dX1_meanOf_0 : decode cX1_meanOf 0 = .ok (.iconst 0, 1) := by decide +kernel
theorem dX1_meanOf_1 : decode cX1_meanOf 1 = .ok (.istore_n 2, 1) := by decide +kernel
theorem dX1_meanOf_2 : decode cX1_meanOf 2 = .ok (.iconst 0, 1) := by decide +kernel
theorem dX1_meanOf_3 : decode cX1_meanOf 3 = .ok (.istore_n 3, 1) := by decide +kernel
theorem dX1_meanOf_4 : decode cX1_meanOf 4 = .ok (.iload_n 3, 1) := by decide +kernel
theorem dX1_meanOf_5 : decode cX1_meanOf 5 = .ok (.aload_n 0, 1) := by decide +kernel
theorem dX1_meanOf_6 : decode cX1_meanOf 6 = .ok (.getfield 22, 3) := by decide +kernel
theorem dX1_meanOf_9 : decode cX1_meanOf 9 = .ok (.invokevirtual 26, 3) := by decide +kernel
theorem dX1_meanOf_12 : decode cX1_meanOf 12 = .ok (.if_icmp .ge 35, 3) := by decide +kernel
theorem dX1_meanOf_15 : decode cX1_meanOf 15 = .ok (.iload_n 1, 1) := by decide +kernel
theorem dX1_meanOf_16 : decode cX1_meanOf 16 = .ok (.iload_n 3, 1) := by decide +kernel
theorem dX1_meanOf_17 : decode cX1_meanOf 17 = .ok (.ishr, 1) := by decide +kernel
theorem dX1_meanOf_18 : decode cX1_meanOf 18 = .ok (.iconst 1, 1) := by decide +kernel
theorem dX1_meanOf_19 : decode cX1_meanOf 19 = .ok (.iand, 1) := by decide +kernel
theorem dX1_meanOf_20 : decode cX1_meanOf 20 = .ok (.iconst 1, 1) := by decide +kernel
theorem dX1_meanOf_21 : decode cX1_meanOf 21 = .ok (.if_icmp .ne 20, 3) := by decide +kernel
theorem dX1_meanOf_24 : decode cX1_meanOf 24 = .ok (.iload_n 2, 1) := by decide +kernel
theorem dX1_meanOf_25 : decode cX1_meanOf 25 = .ok (.aload_n 0, 1) := by decide +kernel
theorem dX1_meanOf_26 : decode cX1_meanOf 26 = .ok (.getfield 22, 3) := by decide +kernel
theorem dX1_meanOf_29 : decode cX1_meanOf 29 = .ok (.iload_n 3, 1) := by decide +kernel
theorem dX1_meanOf_30 : decode cX1_meanOf 30 = .ok (.invokevirtual 30, 3) := by decide +kernel
theorem dX1_meanOf_33 : decode cX1_meanOf 33 = .ok (.checkcast 34, 3) := by decide +kernel
theorem dX1_meanOf_36 : decode cX1_meanOf 36 = .ok (.invokevirtual 48, 3) := by decide +kernel
theorem dX1_meanOf_39 : decode cX1_meanOf 39 = .ok (.iadd, 1) := by decide +kernel
theorem dX1_meanOf_40 : decode cX1_meanOf 40 = .ok (.istore_n 2, 1) := by decide +kernel
theorem dX1_meanOf_41 : decode cX1_meanOf 41 = .ok (.iinc 3 1, 3) := by decide +kernel
theorem dX1_meanOf_44 : decode cX1_meanOf 44 = .ok (.goto (-40), 3) := by decide +kernel
theorem dX1_meanOf_47 : decode cX1_meanOf 47 = .ok (.iload_n 2, 1) := by decide +kernel
theorem dX1_meanOf_48 : decode cX1_meanOf 48 = .ok (.iload_n 1, 1) := by decide +kernel
theorem dX1_meanOf_49 : decode cX1_meanOf 49 = .ok (.invokestatic 63, 3) := by decide +kernel
theorem dX1_meanOf_52 : decode cX1_meanOf 52 = .ok (.invokestatic 69, 3) := by decide +kernel
theorem dX1_meanOf_55 : decode cX1_meanOf 55 = .ok (.ireturn, 1) := by decide +kernel
set_option maxRecDepth 20000 in
theorem ggX1_passDryingHour_Jx4a65c_size_8abf5 : GoodIn wsX1_passDryingHour wsJx4a65c_size_8abf5 := goodIn_r _ [14, 15, 64, 65, 66] (by decide +kernel) (by decide +kernel)
set_option maxRecDepth 20000 in
theorem gX1_passDryingHour_Jx4a65c_size_8abf5 : GoodIn wsX1_passDryingHour (wsV RX1 26 RJx4a65c yJx4a65c_size_8abf5 wsJx4a65c_size_8abf5) := goodIn_app (goodIn_of _ (by decide +kernel)) ggX1_passDryingHour_Jx4a65c_size_8abf5
set_option maxRecDepth 20000 in
theorem ggX1_passDryingHour_X4_quotient : GoodIn wsX1_passDryingHour wsX4_quotient := goodIn_r _ [18] (by decide +kernel) (by decide +kernel)
set_option maxRecDepth 20000 in
theorem gX1_passDryingHour_X4_quotient_n69 : GoodIn wsX1_passDryingHour (wsX4_quotient) := ggX1_passDryingHour_X4_quotient
set_option maxRecDepth 20000 in
theorem ggX1_passDryingHour_Jx4a65c_get_915e3 : GoodIn wsX1_passDryingHour wsJx4a65c_get_915e3 := goodIn_r _ [22, 15, 23, 24, 25, 26, 27, 28, 29, 30, 31, 32, 33, 13, 34, 35, 64, 65, 66] (by decide +kernel) (by decide +kernel)
set_option maxRecDepth 20000 in
theorem gX1_passDryingHour_Jx4a65c_get_915e3 : GoodIn wsX1_passDryingHour (wsV RX1 30 RJx4a65c yJx4a65c_get_915e3 wsJx4a65c_get_915e3) := goodIn_app (goodIn_of _ (by decide +kernel)) ggX1_passDryingHour_Jx4a65c_get_915e3
set_option maxRecDepth 20000 in
theorem ggX1_passDryingHour_X0_passDryingHour : GoodIn wsX1_passDryingHour wsX0_passDryingHour := goodIn_r _ [40, 41, 42, 43, 44, 45, 46, 47, 39, 48, 67, 68, 69, 58, 59, 60, 61, 62, 63] (by decide +kernel) (by decide +kernel)
set_option maxRecDepth 20000 in
theorem gX1_passDryingHour_X0_passDryingHour : GoodIn wsX1_passDryingHour (wsV RX1 77 RX0 yX0_passDryingHour wsX0_passDryingHour) := goodIn_app (goodIn_of _ (by decide +kernel)) ggX1_passDryingHour_X0_passDryingHour
set_option maxRecDepth 20000 in
theorem ggX1_passDryingHour_X1_countDryingHour : GoodIn wsX1_passDryingHour wsX1_countDryingHour := goodIn_r _ [53, 54, 2, 55, 56, 57] (by decide +kernel) (by decide +kernel)
set_option maxRecDepth 20000 in
theorem gX1_passDryingHour_X1_countDryingHour : GoodIn wsX1_passDryingHour (wsV RX1 84 RX1 yX1_countDryingHour wsX1_countDryingHour) := goodIn_app (goodIn_of _ (by decide +kernel)) ggX1_passDryingHour_X1_countDryingHour
theorem dX1_passDryingHour_0 : decode cX1_passDryingHour 0 = .ok (.iconst 0, 1) := by decide +kernel
theorem dX1_passDryingHour_1 : decode cX1_passDryingHour 1 = .ok (.istore_n 3, 1) := by decide +kernel
theorem dX1_passDryingHour_2 : decode cX1_passDryingHour 2 = .ok (.iconst 0, 1) := by decide +kernel
theorem dX1_passDryingHour_3 : decode cX1_passDryingHour 3 = .ok (.istore 4, 2) := by decide +kernel
theorem dX1_passDryingHour_5 : decode cX1_passDryingHour 5 = .ok (.iload 4, 2) := by decide +kernel
theorem dX1_passDryingHour_7 : decode cX1_passDryingHour 7 = .ok (.aload_n 0, 1) := by decide +kernel
theorem dX1_passDryingHour_8 : decode cX1_passDryingHour 8 = .ok (.getfield 22, 3) := by decide +kernel
theorem dX1_passDryingHour_11 : decode cX1_passDryingHour 11 = .ok (.invokevirtual 26, 3) := by decide +kernel
theorem dX1_passDryingHour_14 : decode cX1_passDryingHour 14 = .ok (.if_icmp .ge 72, 3) := by decide +kernel
theorem dX1_passDryingHour_17 : decode cX1_passDryingHour 17 = .ok (.aload_n 0, 1) := by decide +kernel
theorem dX1_passDryingHour_18 : decode cX1_passDryingHour 18 = .ok (.getfield 9, 3) := by decide +kernel
theorem dX1_passDryingHour_21 : decode cX1_passDryingHour 21 = .ok (.ifCond .eq 18, 3) := by decide +kernel
theorem dX1_passDryingHour_24 : decode cX1_passDryingHour 24 = .ok (.aload_n 0, 1) := by decide +kernel
theorem dX1_passDryingHour_25 : decode cX1_passDryingHour 25 = .ok (.getfield 22, 3) := by decide +kernel
theorem dX1_passDryingHour_28 : decode cX1_passDryingHour 28 = .ok (.invokevirtual 26, 3) := by decide +kernel
theorem dX1_passDryingHour_31 : decode cX1_passDryingHour 31 = .ok (.iconst 1, 1) := by decide +kernel
theorem dX1_passDryingHour_32 : decode cX1_passDryingHour 32 = .ok (.isub, 1) := by decide +kernel
theorem dX1_passDryingHour_33 : decode cX1_passDryingHour 33 = .ok (.iload 4, 2) := by decide +kernel
theorem dX1_passDryingHour_35 : decode cX1_passDryingHour 35 = .ok (.isub, 1) := by decide +kernel
theorem dX1_passDryingHour_36 : decode cX1_passDryingHour 36 = .ok (.goto 5, 3) := by decide +kernel
theorem dX1_passDryingHour_39 : decode cX1_passDryingHour 39 = .ok (.iload 4, 2) := by decide +kernel
theorem dX1_passDryingHour_41 : decode cX1_passDryingHour 41 = .ok (.istore 5, 2) := by decide +kernel
theorem dX1_passDryingHour_43 : decode cX1_passDryingHour 43 = .ok (.iconst 0, 1) := by decide +kernel
theorem dX1_passDryingHour_44 : decode cX1_passDryingHour 44 = .ok (.iload_n 1, 1) := by decide +kernel
theorem dX1_passDryingHour_45 : decode cX1_passDryingHour 45 = .ok (.iload_n 3, 1) := by decide +kernel
theorem dX1_passDryingHour_46 : decode cX1_passDryingHour 46 = .ok (.aload_n 2, 1) := by decide +kernel
theorem dX1_passDryingHour_47 : decode cX1_passDryingHour 47 = .ok (.getfield 72, 3) := by decide +kernel
theorem dX1_passDryingHour_50 : decode cX1_passDryingHour 50 = .ok (.invokestatic 69, 3) := by decide +kernel
theorem dX1_passDryingHour_53 : decode cX1_passDryingHour 53 = .ok (.iadd, 1) := by decide +kernel
theorem dX1_passDryingHour_54 : decode cX1_passDryingHour 54 = .ok (.invokestatic 51, 3) := by decide +kernel
theorem dX1_passDryingHour_57 : decode cX1_passDryingHour 57 = .ok (.istore 6, 2) := by decide +kernel
theorem dX1_passDryingHour_59 : decode cX1_passDryingHour 59 = .ok (.iload_n 3, 1) := by decide +kernel
theorem dX1_passDryingHour_60 : decode cX1_passDryingHour 60 = .ok (.aload_n 0, 1) := by decide +kernel
theorem dX1_passDryingHour_61 : decode cX1_passDryingHour 61 = .ok (.getfield 22, 3) := by decide +kernel
theorem dX1_passDryingHour_64 : decode cX1_passDryingHour 64 = .ok (.iload 5, 2) := by decide +kernel
theorem dX1_passDryingHour_66 : decode cX1_passDryingHour 66 = .ok (.invokevirtual 30, 3) := by decide +kernel
theorem dX1_passDryingHour_69 : decode cX1_passDryingHour 69 = .ok (.checkcast 34, 3) := by decide +kernel
theorem dX1_passDryingHour_72 : decode cX1_passDryingHour 72 = .ok (.iload 6, 2) := by decide +kernel
theorem dX1_passDryingHour_74 : decode cX1_passDryingHour 74 = .ok (.aload_n 2, 1) := by decide +kernel
theorem dX1_passDryingHour_75 : decode cX1_passDryingHour 75 = .ok (.invokevirtual 77, 3) := by decide +kernel
theorem dX1_passDryingHour_78 : decode cX1_passDryingHour 78 = .ok (.iadd, 1) := by decide +kernel
theorem dX1_passDryingHour_79 : decode cX1_passDryingHour 79 = .ok (.istore_n 3, 1) := by decide +kernel
theorem dX1_passDryingHour_80 : decode cX1_passDryingHour 80 = .ok (.iinc 4 1, 3) := by decide +kernel
theorem dX1_passDryingHour_83 : decode cX1_passDryingHour 83 = .ok (.goto (-78), 3) := by decide +kernel
theorem dX1_passDryingHour_86 : decode cX1_passDryingHour 86 = .ok (.aload_n 0, 1) := by decide +kernel
theorem dX1_passDryingHour_87 : decode cX1_passDryingHour 87 = .ok (.aload_n 2, 1) := by decide +kernel
theorem dX1_passDryingHour_88 : decode cX1_passDryingHour 88 = .ok (.getfield 81, 3) := by decide +kernel
theorem dX1_passDryingHour_91 : decode cX1_passDryingHour 91 = .ok (.invokevirtual 84, 3) := by decide +kernel
theorem dX1_passDryingHour_94 : decode cX1_passDryingHour 94 = .ok (.iload_n 3, 1) := by decide +kernel
theorem dX1_passDryingHour_95 : decode cX1_passDryingHour 95 = .ok (.ireturn, 1) := by decide +kernel
theorem dX1_countDryingHour_0 : decode cX1_countDryingHour 0 = .ok (.aload_n 0, 1) := by decide +kernel
theorem dX1_countDryingHour_1 : decode cX1_countDryingHour 1 = .ok (.dup, 1) := by decide +kernel
theorem dX1_countDryingHour_2 : decode cX1_countDryingHour 2 = .ok (.getfield 15, 3) := by decide +kernel
theorem dX1_countDryingHour_5 : decode cX1_countDryingHour 5 = .ok (.iconst 1, 1) := by decide +kernel
theorem dX1_countDryingHour_6 : decode cX1_countDryingHour 6 = .ok (.iadd, 1) := by decide +kernel
theorem dX1_countDryingHour_7 : decode cX1_countDryingHour 7 = .ok (.putfield 15, 3) := by decide +kernel
theorem dX1_countDryingHour_10 : decode cX1_countDryingHour 10 = .ok (.iload_n 1, 1) := by decide +kernel
theorem dX1_countDryingHour_11 : decode cX1_countDryingHour 11 = .ok (.ifCond .le 28, 3) := by decide +kernel
theorem dX1_countDryingHour_14 : decode cX1_countDryingHour 14 = .ok (.aload_n 0, 1) := by decide +kernel
theorem dX1_countDryingHour_15 : decode cX1_countDryingHour 15 = .ok (.getfield 15, 3) := by decide +kernel
theorem dX1_countDryingHour_18 : decode cX1_countDryingHour 18 = .ok (.iload_n 1, 1) := by decide +kernel
theorem dX1_countDryingHour_19 : decode cX1_countDryingHour 19 = .ok (.irem, 1) := by decide +kernel
theorem dX1_countDryingHour_20 : decode cX1_countDryingHour 20 = .ok (.ifCond .ne 19, 3) := by decide +kernel
theorem dX1_countDryingHour_23 : decode cX1_countDryingHour 23 = .ok (.aload_n 0, 1) := by decide +kernel
theorem dX1_countDryingHour_24 : decode cX1_countDryingHour 24 = .ok (.aload_n 0, 1) := by decide +kernel
theorem dX1_countDryingHour_25 : decode cX1_countDryingHour 25 = .ok (.getfield 9, 3) := by decide +kernel
theorem dX1_countDryingHour_28 : decode cX1_countDryingHour 28 = .ok (.ifCond .ne 7, 3) := by decide +kernel
theorem dX1_countDryingHour_31 : decode cX1_countDryingHour 31 = .ok (.iconst 1, 1) := by decide +kernel
theorem dX1_countDryingHour_32 : decode cX1_countDryingHour 32 = .ok (.goto 4, 3) := by decide +kernel
theorem dX1_countDryingHour_35 : decode cX1_countDryingHour 35 = .ok (.iconst 0, 1) := by decide +kernel
theorem dX1_countDryingHour_36 : decode cX1_countDryingHour 36 = .ok (.putfield 9, 3) := by decide +kernel
theorem dX1_countDryingHour_39 : decode cX1_countDryingHour 39 = .ok (.return_, 1) := by decide +kernel
set_option maxRecDepth 20000 in
theorem ggX1_passRestHour_Jx4a65c_size_8abf5 : GoodIn wsX1_passRestHour wsJx4a65c_size_8abf5 := goodIn_r _ [8, 9, 46, 47, 48] (by decide +kernel) (by decide +kernel)
set_option maxRecDepth 20000 in
theorem gX1_passRestHour_Jx4a65c_size_8abf5 : GoodIn wsX1_passRestHour (wsV RX1 26 RJx4a65c yJx4a65c_size_8abf5 wsJx4a65c_size_8abf5) := goodIn_app (goodIn_of _ (by decide +kernel)) ggX1_passRestHour_Jx4a65c_size_8abf5
set_option maxRecDepth 20000 in
theorem ggX1_passRestHour_Jx4a65c_get_915e3 : GoodIn wsX1_passRestHour wsJx4a65c_get_915e3 := goodIn_r _ [13, 9, 14, 15, 16, 17, 18, 19, 20, 21, 22, 23, 24, 7, 25, 26, 46, 47, 48] (by decide +kernel) (by decide +kernel)
set_option maxRecDepth 20000 in
theorem gX1_passRestHour_Jx4a65c_get_915e3 : GoodIn wsX1_passRestHour (wsV RX1 30 RJx4a65c yJx4a65c_get_915e3 wsJx4a65c_get_915e3) := goodIn_app (goodIn_of _ (by decide +kernel)) ggX1_passRestHour_Jx4a65c_get_915e3
set_option maxRecDepth 20000 in
theorem ggX1_passRestHour_X0_passRestHour : GoodIn wsX1_passRestHour wsX0_passRestHour := goodIn_r _ [31, 32, 33, 34, 30, 35, 36, 49, 50, 51] (by decide +kernel) (by decide +kernel)
set_option maxRecDepth 20000 in
theorem gX1_passRestHour_X0_passRestHour : GoodIn wsX1_passRestHour (wsV RX1 91 RX0 yX0_passRestHour wsX0_passRestHour) := goodIn_app (goodIn_of _ (by decide +kernel)) ggX1_passRestHour_X0_passRestHour
theorem dX1_passRestHour_0 : decode cX1_passRestHour 0 = .ok (.iconst 0, 1) := by decide +kernel
theorem dX1_passRestHour_1 : decode cX1_passRestHour 1 = .ok (.istore_n 2, 1) := by decide +kernel
theorem dX1_passRestHour_2 : decode cX1_passRestHour 2 = .ok (.iload_n 2, 1) := by decide +kernel
theorem dX1_passRestHour_3 : decode cX1_passRestHour 3 = .ok (.aload_n 0, 1) := by decide +kernel
theorem dX1_passRestHour_4 : decode cX1_passRestHour 4 = .ok (.getfield 22, 3) := by decide +kernel
theorem dX1_passRestHour_7 : decode cX1_passRestHour 7 = .ok (.invokevirtual 26, 3) := by decide +kernel
theorem dX1_passRestHour_10 : decode cX1_passRestHour 10 = .ok (.if_icmp .ge 27, 3) := by decide +kernel
theorem dX1_passRestHour_13 : decode cX1_passRestHour 13 = .ok (.aload_n 0, 1) := by decide +kernel
theorem dX1_passRestHour_14 : decode cX1_passRestHour 14 = .ok (.getfield 22, 3) := by decide +kernel
theorem dX1_passRestHour_17 : decode cX1_passRestHour 17 = .ok (.iload_n 2, 1) := by decide +kernel
theorem dX1_passRestHour_18 : decode cX1_passRestHour 18 = .ok (.invokevirtual 30, 3) := by decide +kernel
theorem dX1_passRestHour_21 : decode cX1_passRestHour 21 = .ok (.checkcast 34, 3) := by decide +kernel
theorem dX1_passRestHour_24 : decode cX1_passRestHour 24 = .ok (.aload_n 1, 1) := by decide +kernel
theorem dX1_passRestHour_25 : decode cX1_passRestHour 25 = .ok (.getfield 88, 3) := by decide +kernel
theorem dX1_passRestHour_28 : decode cX1_passRestHour 28 = .ok (.invokevirtual 91, 3) := by decide +kernel
theorem dX1_passRestHour_31 : decode cX1_passRestHour 31 = .ok (.iinc 2 1, 3) := by decide +kernel
theorem dX1_passRestHour_34 : decode cX1_passRestHour 34 = .ok (.goto (-32), 3) := by decide +kernel
theorem dX1_passRestHour_37 : decode cX1_passRestHour 37 = .ok (.return_, 1) := by decide +kernel
set_option maxRecDepth 20000 in
theorem ggX1_recordChecks_Jx4a65c_size_8abf5 : GoodIn wsX1_recordChecks wsJx4a65c_size_8abf5 := goodIn_r _ [9, 10, 47, 48, 49] (by decide +kernel) (by decide +kernel)
set_option maxRecDepth 20000 in
theorem gX1_recordChecks_Jx4a65c_size_8abf5 : GoodIn wsX1_recordChecks (wsV RX1 26 RJx4a65c yJx4a65c_size_8abf5 wsJx4a65c_size_8abf5) := goodIn_app (goodIn_of _ (by decide +kernel)) ggX1_recordChecks_Jx4a65c_size_8abf5
set_option maxRecDepth 20000 in
theorem ggX1_recordChecks_Jx4a65c_get_915e3 : GoodIn wsX1_recordChecks wsJx4a65c_get_915e3 := goodIn_r _ [14, 10, 15, 16, 17, 18, 19, 20, 21, 22, 23, 24, 25, 8, 26, 27, 47, 48, 49] (by decide +kernel) (by decide +kernel)
set_option maxRecDepth 20000 in
theorem gX1_recordChecks_Jx4a65c_get_915e3 : GoodIn wsX1_recordChecks (wsV RX1 30 RJx4a65c yJx4a65c_get_915e3 wsJx4a65c_get_915e3) := goodIn_app (goodIn_of _ (by decide +kernel)) ggX1_recordChecks_Jx4a65c_get_915e3
set_option maxRecDepth 20000 in
theorem ggX1_recordChecks_X0_gradient : GoodIn wsX1_recordChecks wsX0_gradient := goodIn_r _ [32, 33, 34, 35, 36, 37, 38, 39, 40, 44, 45, 46] (by decide +kernel) (by decide +kernel)
set_option maxRecDepth 20000 in
theorem gX1_recordChecks_X0_gradient : GoodIn wsX1_recordChecks (wsV RX1 60 RX0 yX0_gradient wsX0_gradient) := goodIn_app (goodIn_of _ (by decide +kernel)) ggX1_recordChecks_X0_gradient
theorem dX1_recordChecks_0 : decode cX1_recordChecks 0 = .ok (.iconst 0, 1) := by decide +kernel
theorem dX1_recordChecks_1 : decode cX1_recordChecks 1 = .ok (.istore_n 3, 1) := by decide +kernel
theorem dX1_recordChecks_2 : decode cX1_recordChecks 2 = .ok (.iconst 0, 1) := by decide +kernel
theorem dX1_recordChecks_3 : decode cX1_recordChecks 3 = .ok (.istore 4, 2) := by decide +kernel
theorem dX1_recordChecks_5 : decode cX1_recordChecks 5 = .ok (.iload 4, 2) := by decide +kernel
theorem dX1_recordChecks_7 : decode cX1_recordChecks 7 = .ok (.aload_n 0, 1) := by decide +kernel
theorem dX1_recordChecks_8 : decode cX1_recordChecks 8 = .ok (.getfield 22, 3) := by decide +kernel
theorem dX1_recordChecks_11 : decode cX1_recordChecks 11 = .ok (.invokevirtual 26, 3) := by decide +kernel
theorem dX1_recordChecks_14 : decode cX1_recordChecks 14 = .ok (.if_icmp .ge 51, 3) := by decide +kernel
theorem dX1_recordChecks_17 : decode cX1_recordChecks 17 = .ok (.aload_n 0, 1) := by decide +kernel
theorem dX1_recordChecks_18 : decode cX1_recordChecks 18 = .ok (.getfield 22, 3) := by decide +kernel
theorem dX1_recordChecks_21 : decode cX1_recordChecks 21 = .ok (.iload 4, 2) := by decide +kernel
theorem dX1_recordChecks_23 : decode cX1_recordChecks 23 = .ok (.invokevirtual 30, 3) := by decide +kernel
theorem dX1_recordChecks_26 : decode cX1_recordChecks 26 = .ok (.checkcast 34, 3) := by decide +kernel
theorem dX1_recordChecks_29 : decode cX1_recordChecks 29 = .ok (.astore 5, 2) := by decide +kernel
theorem dX1_recordChecks_31 : decode cX1_recordChecks 31 = .ok (.aload 5, 2) := by decide +kernel
theorem dX1_recordChecks_33 : decode cX1_recordChecks 33 = .ok (.getfield 94, 3) := by decide +kernel
theorem dX1_recordChecks_36 : decode cX1_recordChecks 36 = .ok (.ldc 47, 2) := by decide +kernel
theorem dX1_recordChecks_38 : decode cX1_recordChecks 38 = .ok (.if_icmp .ne 21, 3) := by decide +kernel
theorem dX1_recordChecks_41 : decode cX1_recordChecks 41 = .ok (.aload 5, 2) := by decide +kernel
theorem dX1_recordChecks_43 : decode cX1_recordChecks 43 = .ok (.invokevirtual 60, 3) := by decide +kernel
theorem dX1_recordChecks_46 : decode cX1_recordChecks 46 = .ok (.iload_n 1, 1) := by decide +kernel
theorem dX1_recordChecks_47 : decode cX1_recordChecks 47 = .ok (.if_icmp .le 12, 3) := by decide +kernel
theorem dX1_recordChecks_50 : decode cX1_recordChecks 50 = .ok (.aload 5, 2) := by decide +kernel
theorem dX1_recordChecks_52 : decode cX1_recordChecks 52 = .ok (.iload_n 2, 1) := by decide +kernel
theorem dX1_recordChecks_53 : decode cX1_recordChecks 53 = .ok (.putfield 94, 3) := by decide +kernel
theorem dX1_recordChecks_56 : decode cX1_recordChecks 56 = .ok (.iinc 3 1, 3) := by decide +kernel
theorem dX1_recordChecks_59 : decode cX1_recordChecks 59 = .ok (.iinc 4 1, 3) := by decide +kernel
theorem dX1_recordChecks_62 : decode cX1_recordChecks 62 = .ok (.goto (-57), 3) := by decide +kernel
theorem dX1_recordChecks_65 : decode cX1_recordChecks 65 = .ok (.iload_n 3, 1) := by decide +kernel
theorem dX1_recordChecks_66 : decode cX1_recordChecks 66 = .ok (.ireturn, 1) := by decide +kernel
theorem dX2_init_0 : decode cX2_init 0 = .ok (.aload_n 0, 1) := by decide +kernel
theorem dX2_init_1 : decode cX2_init 1 = .ok (.invokespecial 3, 3) := by decide +kernel
theorem dX2_init_4 : decode cX2_init 4 = .ok (.aload_n 0, 1) := by decide +kernel
theorem dX2_init_5 : decode cX2_init 5 = .ok (.bipush 8, 2) := by decide +kernel
theorem dX2_init_7 : decode cX2_init 7 = .ok (.newarray .int, 2) := by decide +kernel
theorem dX2_init_9 : decode cX2_init 9 = .ok (.putfield 9, 3) := by decide +kernel
theorem dX2_init_12 : decode cX2_init 12 = .ok (.aload_n 0, 1) := by decide +kernel
theorem dX2_init_13 : decode cX2_init 13 = .ok (.bipush 8, 2) := by decide +kernel
theorem dX2_init_15 : decode cX2_init 15 = .ok (.newarray .int, 2) := by decide +kernel
theorem dX2_init_17 : decode cX2_init 17 = .ok (.putfield 15, 3) := by decide +kernel
theorem dX2_init_20 : decode cX2_init 20 = .ok (.aload_n 0, 1) := by decide +kernel
theorem dX2_init_21 : decode cX2_init 21 = .ok (.iconst 0, 1) := by decide +kernel
theorem dX2_init_22 : decode cX2_init 22 = .ok (.putfield 18, 3) := by decide +kernel
theorem dX2_init_25 : decode cX2_init 25 = .ok (.return_, 1) := by decide +kernel
theorem dX2_append_0 : decode cX2_append 0 = .ok (.aload_n 0, 1) := by decide +kernel
theorem dX2_append_1 : decode cX2_append 1 = .ok (.getfield 18, 3) := by decide +kernel
theorem dX2_append_4 : decode cX2_append 4 = .ok (.iconst 1, 1) := by decide +kernel
theorem dX2_append_5 : decode cX2_append 5 = .ok (.isub, 1) := by decide +kernel
theorem dX2_append_6 : decode cX2_append 6 = .ok (.istore_n 3, 1) := by decide +kernel
theorem dX2_append_7 : decode cX2_append 7 = .ok (.iload_n 3, 1) := by decide +kernel
theorem dX2_append_8 : decode cX2_append 8 = .ok (.ifCond .lt 22, 3) := by decide +kernel
theorem dX2_append_11 : decode cX2_append 11 = .ok (.iload_n 3, 1) := by decide +kernel
theorem dX2_append_12 : decode cX2_append 12 = .ok (.bipush 8, 2) := by decide +kernel
theorem dX2_append_14 : decode cX2_append 14 = .ok (.if_icmp .ge 16, 3) := by decide +kernel
theorem dX2_append_17 : decode cX2_append 17 = .ok (.iload_n 1, 1) := by decide +kernel
theorem dX2_append_18 : decode cX2_append 18 = .ok (.aload_n 0, 1) := by decide +kernel
theorem dX2_append_19 : decode cX2_append 19 = .ok (.getfield 9, 3) := by decide +kernel
theorem dX2_append_22 : decode cX2_append 22 = .ok (.iload_n 3, 1) := by decide +kernel
theorem dX2_append_23 : decode cX2_append 23 = .ok (.iaload, 1) := by decide +kernel
theorem dX2_append_24 : decode cX2_append 24 = .ok (.if_icmp .lt 6, 3) := by decide +kernel
theorem dX2_append_27 : decode cX2_append 27 = .ok (.ldc 22, 2) := by decide +kernel
theorem dX2_append_29 : decode cX2_append 29 = .ok (.ireturn, 1) := by decide +kernel
theorem dX2_append_30 : decode cX2_append 30 = .ok (.aload_n 0, 1) := by decide +kernel
theorem dX2_append_31 : decode cX2_append 31 = .ok (.getfield 18, 3) := by decide +kernel
theorem dX2_append_34 : decode cX2_append 34 = .ok (.istore 4, 2) := by decide +kernel
theorem dX2_append_36 : decode cX2_append 36 = .ok (.iload 4, 2) := by decide +kernel
theorem dX2_append_38 : decode cX2_append 38 = .ok (.ifCond .lt 10, 3) := by decide +kernel
theorem dX2_append_41 : decode cX2_append 41 = .ok (.iload 4, 2) := by decide +kernel
theorem dX2_append_43 : decode cX2_append 43 = .ok (.bipush 8, 2) := by decide +kernel
theorem dX2_append_45 : decode cX2_append 45 = .ok (.if_icmp .lt 6, 3) := by decide +kernel
theorem dX2_append_48 : decode cX2_append 48 = .ok (.ldc 23, 2) := by decide +kernel
theorem dX2_append_50 : decode cX2_append 50 = .ok (.ireturn, 1) := by decide +kernel
theorem dX2_append_51 : decode cX2_append 51 = .ok (.aload_n 0, 1) := by decide +kernel
theorem dX2_append_52 : decode cX2_append 52 = .ok (.getfield 9, 3) := by decide +kernel
theorem dX2_append_55 : decode cX2_append 55 = .ok (.iload 4, 2) := by decide +kernel
theorem dX2_append_57 : decode cX2_append 57 = .ok (.iload_n 1, 1) := by decide +kernel
theorem dX2_append_58 : decode cX2_append 58 = .ok (.iastore, 1) := by decide +kernel
theorem dX2_append_59 : decode cX2_append 59 = .ok (.aload_n 0, 1) := by decide +kernel
theorem dX2_append_60 : decode cX2_append 60 = .ok (.getfield 15, 3) := by decide +kernel
theorem dX2_append_63 : decode cX2_append 63 = .ok (.iload 4, 2) := by decide +kernel
theorem dX2_append_65 : decode cX2_append 65 = .ok (.iload_n 2, 1) := by decide +kernel
theorem dX2_append_66 : decode cX2_append 66 = .ok (.iastore, 1) := by decide +kernel
theorem dX2_append_67 : decode cX2_append 67 = .ok (.aload_n 0, 1) := by decide +kernel
theorem dX2_append_68 : decode cX2_append 68 = .ok (.dup, 1) := by decide +kernel
theorem dX2_append_69 : decode cX2_append 69 = .ok (.getfield 18, 3) := by decide +kernel
theorem dX2_append_72 : decode cX2_append 72 = .ok (.iconst 1, 1) := by decide +kernel
theorem dX2_append_73 : decode cX2_append 73 = .ok (.iadd, 1) := by decide +kernel
theorem dX2_append_74 : decode cX2_append 74 = .ok (.putfield 18, 3) := by decide +kernel
theorem dX2_append_77 : decode cX2_append 77 = .ok (.iload 4, 2) := by decide +kernel
theorem dX2_append_79 : decode cX2_append 79 = .ok (.ireturn, 1) := by decide +kernel
theorem dX2_clear_0 : decode cX2_clear 0 = .ok (.aload_n 0, 1) := by decide +kernel
theorem dX2_clear_1 : decode cX2_clear 1 = .ok (.getfield 18, 3) := by decide +kernel
theorem dX2_clear_4 : decode cX2_clear 4 = .ok (.istore_n 1, 1) := by decide +kernel
theorem dX2_clear_5 : decode cX2_clear 5 = .ok (.aload_n 0, 1) := by decide +kernel
theorem dX2_clear_6 : decode cX2_clear 6 = .ok (.iconst 0, 1) := by decide +kernel
theorem dX2_clear_7 : decode cX2_clear 7 = .ok (.putfield 18, 3) := by decide +kernel
theorem dX2_clear_10 : decode cX2_clear 10 = .ok (.iload_n 1, 1) := by decide +kernel
theorem dX2_clear_11 : decode cX2_clear 11 = .ok (.ireturn, 1) := by decide +kernel
theorem dX2_stageFor_0 : decode cX2_stageFor 0 = .ok (.ldc 24, 2) := by decide +kernel
theorem dX2_stageFor_2 : decode cX2_stageFor 2 = .ok (.istore_n 2, 1) := by decide +kernel
theorem dX2_stageFor_3 : decode cX2_stageFor 3 = .ok (.iconst 0, 1) := by decide +kernel
theorem dX2_stageFor_4 : decode cX2_stageFor 4 = .ok (.istore_n 3, 1) := by decide +kernel
theorem dX2_stageFor_5 : decode cX2_stageFor 5 = .ok (.iload_n 3, 1) := by decide +kernel
theorem dX2_stageFor_6 : decode cX2_stageFor 6 = .ok (.aload_n 0, 1) := by decide +kernel
theorem dX2_stageFor_7 : decode cX2_stageFor 7 = .ok (.getfield 18, 3) := by decide +kernel
theorem dX2_stageFor_10 : decode cX2_stageFor 10 = .ok (.if_icmp .ge 27, 3) := by decide +kernel
theorem dX2_stageFor_13 : decode cX2_stageFor 13 = .ok (.iload_n 3, 1) := by decide +kernel
theorem dX2_stageFor_14 : decode cX2_stageFor 14 = .ok (.bipush 8, 2) := by decide +kernel
theorem dX2_stageFor_16 : decode cX2_stageFor 16 = .ok (.if_icmp .ge 21, 3) := by decide +kernel
theorem dX2_stageFor_19 : decode cX2_stageFor 19 = .ok (.aload_n 0, 1) := by decide +kernel
theorem dX2_stageFor_20 : decode cX2_stageFor 20 = .ok (.getfield 9, 3) := by decide +kernel
theorem dX2_stageFor_23 : decode cX2_stageFor 23 = .ok (.iload_n 3, 1) := by decide +kernel
theorem dX2_stageFor_24 : decode cX2_stageFor 24 = .ok (.iaload, 1) := by decide +kernel
theorem dX2_stageFor_25 : decode cX2_stageFor 25 = .ok (.iload_n 1, 1) := by decide +kernel
theorem dX2_stageFor_26 : decode cX2_stageFor 26 = .ok (.if_icmp .lt 5, 3) := by decide +kernel
theorem dX2_stageFor_29 : decode cX2_stageFor 29 = .ok (.iload_n 3, 1) := by decide +kernel
theorem dX2_stageFor_30 : decode cX2_stageFor 30 = .ok (.istore_n 2, 1) := by decide +kernel
theorem dX2_stageFor_31 : decode cX2_stageFor 31 = .ok (.iinc 3 1, 3) := by decide +kernel
theorem dX2_stageFor_34 : decode cX2_stageFor 34 = .ok (.goto (-29), 3) := by decide +kernel
theorem dX2_stageFor_37 : decode cX2_stageFor 37 = .ok (.iload_n 2, 1) := by decide +kernel
theorem dX2_stageFor_38 : decode cX2_stageFor 38 = .ok (.ireturn, 1) := by decide +kernel
theorem dX2_inletOf_0 : decode cX2_inletOf 0 = .ok (.iload_n 1, 1) := by decide +kernel
theorem dX2_inletOf_1 : decode cX2_inletOf 1 = .ok (.ifCond .lt 18, 3) := by decide +kernel
theorem dX2_inletOf_4 : decode cX2_inletOf 4 = .ok (.iload_n 1, 1) := by decide +kernel
theorem dX2_inletOf_5 : decode cX2_inletOf 5 = .ok (.bipush 8, 2) := by decide +kernel
theorem dX2_inletOf_7 : decode cX2_inletOf 7 = .ok (.if_icmp .ge 12, 3) := by decide +kernel
theorem dX2_inletOf_10 : decode cX2_inletOf 10 = .ok (.aload_n 0, 1) := by decide +kernel
theorem dX2_inletOf_11 : decode cX2_inletOf 11 = .ok (.getfield 15, 3) := by decide +kernel
theorem dX2_inletOf_14 : decode cX2_inletOf 14 = .ok (.iload_n 1, 1) := by decide +kernel
theorem dX2_inletOf_15 : decode cX2_inletOf 15 = .ok (.iaload, 1) := by decide +kernel
theorem dX2_inletOf_16 : decode cX2_inletOf 16 = .ok (.goto 4, 3) := by decide +kernel
theorem dX2_inletOf_19 : decode cX2_inletOf 19 = .ok (.iload_n 2, 1) := by decide +kernel
theorem dX2_inletOf_20 : decode cX2_inletOf 20 = .ok (.ireturn, 1) := by decide +kernel
theorem dX3_init_0 : decode cX3_init 0 = .ok (.aload_n 0, 1) := by decide +kernel
theorem dX3_init_1 : decode cX3_init 1 = .ok (.invokespecial 1, 3) := by decide +kernel
theorem dX3_init_4 : decode cX3_init 4 = .ok (.aload_n 0, 1) := by decide +kernel
theorem dX3_init_5 : decode cX3_init 5 = .ok (.bipush 100, 2) := by decide +kernel
theorem dX3_init_7 : decode cX3_init 7 = .ok (.putfield 7, 3) := by decide +kernel
theorem dX3_init_10 : decode cX3_init 10 = .ok (.aload_n 0, 1) := by decide +kernel
theorem dX3_init_11 : decode cX3_init 11 = .ok (.sipush 200, 3) := by decide +kernel
theorem dX3_init_14 : decode cX3_init 14 = .ok (.putfield 13, 3) := by decide +kernel
theorem dX3_init_17 : decode cX3_init 17 = .ok (.aload_n 0, 1) := by decide +kernel
theorem dX3_init_18 : decode cX3_init 18 = .ok (.bipush 50, 2) := by decide +kernel
theorem dX3_init_20 : decode cX3_init 20 = .ok (.putfield 16, 3) := by decide +kernel
theorem dX3_init_23 : decode cX3_init 23 = .ok (.aload_n 0, 1) := by decide +kernel
theorem dX3_init_24 : decode cX3_init 24 = .ok (.sipush 200, 3) := by decide +kernel
theorem dX3_init_27 : decode cX3_init 27 = .ok (.putfield 19, 3) := by decide +kernel
theorem dX3_init_30 : decode cX3_init 30 = .ok (.aload_n 0, 1) := by decide +kernel
theorem dX3_init_31 : decode cX3_init 31 = .ok (.bipush 120, 2) := by decide +kernel
theorem dX3_init_33 : decode cX3_init 33 = .ok (.putfield 22, 3) := by decide +kernel
theorem dX3_init_36 : decode cX3_init 36 = .ok (.aload_n 0, 1) := by decide +kernel
theorem dX3_init_37 : decode cX3_init 37 = .ok (.iconst 0, 1) := by decide +kernel
theorem dX3_init_38 : decode cX3_init 38 = .ok (.putfield 25, 3) := by decide +kernel
theorem dX3_init_41 : decode cX3_init 41 = .ok (.return_, 1) := by decide +kernel
set_option maxRecDepth 20000 in
theorem ggX4_init_X3_init : GoodIn wsX4_init wsX3_init := goodIn_r _ [23, 24, 2, 3, 25, 26, 27, 28, 29, 30, 61, 62, 63, 64, 65, 66] (by decide +kernel) (by decide +kernel)
set_option maxRecDepth 20000 in
theorem gX4_init_X3_init_n9 : GoodIn wsX4_init (wsX3_init) := ggX4_init_X3_init
set_option maxRecDepth 20000 in
theorem ggX4_init_X2_init : GoodIn wsX4_init wsX2_init := goodIn_r _ [32, 33, 2, 3, 18, 34, 35, 36, 75, 76, 77] (by decide +kernel) (by decide +kernel)
set_option maxRecDepth 20000 in
theorem gX4_init_X2_init_n18 : GoodIn wsX4_init (wsX2_init) := ggX4_init_X2_init
set_option maxRecDepth 20000 in
theorem ggX4_init_X1_init : GoodIn wsX4_init wsX1_init := goodIn_r _ [38, 39, 2, 3, 40, 41, 42, 43, 44, 45, 46, 47, 48, 49, 50, 51, 52, 53, 54, 55, 56, 57, 58, 59, 60, 78, 79, 80, 81, 82, 83] (by decide +kernel) (by decide +kernel)
set_option maxRecDepth 20000 in
theorem gX4_init_X1_init_n25 : GoodIn wsX4_init (wsX1_init) := ggX4_init_X1_init
theorem dX4_init_0 : decode cX4_init 0 = .ok (.aload_n 0, 1) := by decide +kernel
theorem dX4_init_1 : decode cX4_init 1 = .ok (.invokespecial 1, 3) := by decide +kernel
theorem dX4_init_4 : decode cX4_init 4 = .ok (.aload_n 0, 1) := by decide +kernel
theorem dX4_init_5 : decode cX4_init 5 = .ok (.new 7, 3) := by decide +kernel
theorem dX4_init_8 : decode cX4_init 8 = .ok (.dup, 1) := by decide +kernel
theorem dX4_init_9 : decode cX4_init 9 = .ok (.invokespecial 9, 3) := by decide +kernel
theorem dX4_init_12 : decode cX4_init 12 = .ok (.putfield 10, 3) := by decide +kernel
theorem dX4_init_15 : decode cX4_init 15 = .ok (.aload_n 0, 1) := by decide +kernel
theorem dX4_init_16 : decode cX4_init 16 = .ok (.new 16, 3) := by decide +kernel
theorem dX4_init_19 : decode cX4_init 19 = .ok (.dup, 1) := by decide +kernel
theorem dX4_init_20 : decode cX4_init 20 = .ok (.invokespecial 18, 3) := by decide +kernel
theorem dX4_init_23 : decode cX4_init 23 = .ok (.putfield 19, 3) := by decide +kernel
theorem dX4_init_26 : decode cX4_init 26 = .ok (.aload_n 0, 1) := by decide +kernel
theorem dX4_init_27 : decode cX4_init 27 = .ok (.new 23, 3) := by decide +kernel
theorem dX4_init_30 : decode cX4_init 30 = .ok (.dup, 1) := by decide +kernel
theorem dX4_init_31 : decode cX4_init 31 = .ok (.invokespecial 25, 3) := by decide +kernel
theorem dX4_init_34 : decode cX4_init 34 = .ok (.putfield 26, 3) := by decide +kernel
theorem dX4_init_37 : decode cX4_init 37 = .ok (.aload_n 0, 1) := by decide +kernel
theorem dX4_init_38 : decode cX4_init 38 = .ok (.new 23, 3) := by decide +kernel
theorem dX4_init_41 : decode cX4_init 41 = .ok (.dup, 1) := by decide +kernel
theorem dX4_init_42 : decode cX4_init 42 = .ok (.invokespecial 25, 3) := by decide +kernel
theorem dX4_init_45 : decode cX4_init 45 = .ok (.putfield 30, 3) := by decide +kernel
theorem dX4_init_48 : decode cX4_init 48 = .ok (.aload_n 0, 1) := by decide +kernel
theorem dX4_init_49 : decode cX4_init 49 = .ok (.new 23, 3) := by decide +kernel
theorem dX4_init_52 : decode cX4_init 52 = .ok (.dup, 1) := by decide +kernel
theorem dX4_init_53 : decode cX4_init 53 = .ok (.invokespecial 25, 3) := by decide +kernel
theorem dX4_init_56 : decode cX4_init 56 = .ok (.putfield 33, 3) := by decide +kernel
theorem dX4_init_59 : decode cX4_init 59 = .ok (.aload_n 0, 1) := by decide +kernel
theorem dX4_init_60 : decode cX4_init 60 = .ok (.sipush 300, 3) := by decide +kernel
theorem dX4_init_63 : decode cX4_init 63 = .ok (.newarray .int, 2) := by decide +kernel
theorem dX4_init_65 : decode cX4_init 65 = .ok (.putfield 36, 3) := by decide +kernel
theorem dX4_init_68 : decode cX4_init 68 = .ok (.aload_n 0, 1) := by decide +kernel
theorem dX4_init_69 : decode cX4_init 69 = .ok (.iconst 0, 1) := by decide +kernel
theorem dX4_init_70 : decode cX4_init 70 = .ok (.putfield 40, 3) := by decide +kernel
theorem dX4_init_73 : decode cX4_init 73 = .ok (.aload_n 0, 1) := by decide +kernel
theorem dX4_init_74 : decode cX4_init 74 = .ok (.iconst 0, 1) := by decide +kernel
theorem dX4_init_75 : decode cX4_init 75 = .ok (.putfield 44, 3) := by decide +kernel
theorem dX4_init_78 : decode cX4_init 78 = .ok (.return_, 1) := by decide +kernel
set_option maxRecDepth 20000 in
theorem ggX4_addBoard_X4_isOutside : GoodIn wsX4_addBoard wsX4_isOutside := goodIn_r _ [12] (by decide +kernel) (by decide +kernel)
set_option maxRecDepth 20000 in
theorem gX4_addBoard_X4_isOutside : GoodIn wsX4_addBoard (va_wsS RX4 47 yX4_isOutside wsX4_isOutside) := goodIn_app (goodIn_of _ (by decide +kernel)) ggX4_addBoard_X4_isOutside
set_option maxRecDepth 20000 in
theorem ggX4_addBoard_X1_size : GoodIn wsX4_addBoard wsX1_size := goodIn_r _ [17, 18, 19, 20, 21, 22, 23, 24, 108, 109, 110, 111, 112, 113] (by decide +kernel) (by decide +kernel)
set_option maxRecDepth 20000 in
theorem gX4_addBoard_X1_size : GoodIn wsX4_addBoard (wsV RX4 52 RX1 yX1_size wsX1_size) := goodIn_app (goodIn_of _ (by decide +kernel)) ggX4_addBoard_X1_size
set_option maxRecDepth 20000 in
theorem ggX4_addBoard_X0_init : GoodIn wsX4_addBoard wsX0_init := goodIn_r _ [27, 28, 29, 30, 31, 32, 33, 34, 35, 36, 37, 38, 39, 105, 106, 107] (by decide +kernel) (by decide +kernel)
set_option maxRecDepth 20000 in
theorem gX4_addBoard_X0_init : GoodIn wsX4_addBoard (wsX0_init) := ggX4_addBoard_X0_init
set_option maxRecDepth 20000 in
theorem ggX4_addBoard_X1_put : GoodIn wsX4_addBoard wsX1_put := goodIn_r _ [43, 18, 44, 45, 46, 22, 47, 48, 49, 50, 24, 51, 52, 53, 54, 55, 56, 57, 58, 59, 60, 61, 62, 63, 64, 65, 66, 67, 68, 69, 70, 71, 72, 73, 74, 75, 76, 77, 78, 79, 38, 80, 81, 82, 83, 84, 85, 86, 87, 88, 89, 90, 91, 92, 93, 94, 95, 96, 108, 109, 110, 111, 112, 113] (by decide +kernel) (by decide +kernel)
set_option maxRecDepth 20000 in
theorem gX4_addBoard_X1_put : GoodIn wsX4_addBoard (wsV RX4 62 RX1 yX1_put wsX1_put) := goodIn_app (goodIn_of _ (by decide +kernel)) ggX4_addBoard_X1_put
theorem dX4_addBoard_0 : decode cX4_addBoard 0 = .ok (.iload_n 1, 1) := by decide +kernel
theorem dX4_addBoard_1 : decode cX4_addBoard 1 = .ok (.iconst 3, 1) := by decide +kernel
theorem dX4_addBoard_2 : decode cX4_addBoard 2 = .ok (.bipush 9, 2) := by decide +kernel
theorem dX4_addBoard_4 : decode cX4_addBoard 4 = .ok (.invokestatic 47, 3) := by decide +kernel
theorem dX4_addBoard_7 : decode cX4_addBoard 7 = .ok (.ifCond .ne 14, 3) := by decide +kernel
theorem dX4_addBoard_10 : decode cX4_addBoard 10 = .ok (.iload_n 2, 1) := by decide +kernel
theorem dX4_addBoard_11 : decode cX4_addBoard 11 = .ok (.iconst 0, 1) := by decide +kernel
theorem dX4_addBoard_12 : decode cX4_addBoard 12 = .ok (.sipush 2000, 3) := by decide +kernel
theorem dX4_addBoard_15 : decode cX4_addBoard 15 = .ok (.invokestatic 47, 3) := by decide +kernel
theorem dX4_addBoard_18 : decode cX4_addBoard 18 = .ok (.ifCond .eq 6, 3) := by decide +kernel
theorem dX4_addBoard_21 : decode cX4_addBoard 21 = .ok (.ldc 51, 2) := by decide +kernel
theorem dX4_addBoard_23 : decode cX4_addBoard 23 = .ok (.ireturn, 1) := by decide +kernel
theorem dX4_addBoard_24 : decode cX4_addBoard 24 = .ok (.aload_n 0, 1) := by decide +kernel
theorem dX4_addBoard_25 : decode cX4_addBoard 25 = .ok (.getfield 26, 3) := by decide +kernel
theorem dX4_addBoard_28 : decode cX4_addBoard 28 = .ok (.invokevirtual 52, 3) := by decide +kernel
theorem dX4_addBoard_31 : decode cX4_addBoard 31 = .ok (.istore_n 3, 1) := by decide +kernel
theorem dX4_addBoard_32 : decode cX4_addBoard 32 = .ok (.iload_n 3, 1) := by decide +kernel
theorem dX4_addBoard_33 : decode cX4_addBoard 33 = .ok (.bipush 6, 2) := by decide +kernel
theorem dX4_addBoard_35 : decode cX4_addBoard 35 = .ok (.if_icmp .lt 6, 3) := by decide +kernel
theorem dX4_addBoard_38 : decode cX4_addBoard 38 = .ok (.ldc 56, 2) := by decide +kernel
theorem dX4_addBoard_40 : decode cX4_addBoard 40 = .ok (.ireturn, 1) := by decide +kernel
theorem dX4_addBoard_41 : decode cX4_addBoard 41 = .ok (.aload_n 0, 1) := by decide +kernel
theorem dX4_addBoard_42 : decode cX4_addBoard 42 = .ok (.getfield 26, 3) := by decide +kernel
theorem dX4_addBoard_45 : decode cX4_addBoard 45 = .ok (.new 57, 3) := by decide +kernel
theorem dX4_addBoard_48 : decode cX4_addBoard 48 = .ok (.dup, 1) := by decide +kernel
theorem dX4_addBoard_49 : decode cX4_addBoard 49 = .ok (.iload_n 1, 1) := by decide +kernel
theorem dX4_addBoard_50 : decode cX4_addBoard 50 = .ok (.iload_n 2, 1) := by decide +kernel
theorem dX4_addBoard_51 : decode cX4_addBoard 51 = .ok (.invokespecial 59, 3) := by decide +kernel
theorem dX4_addBoard_54 : decode cX4_addBoard 54 = .ok (.invokevirtual 62, 3) := by decide +kernel
theorem dX4_addBoard_57 : decode cX4_addBoard 57 = .ok (.aload_n 0, 1) := by decide +kernel
theorem dX4_addBoard_58 : decode cX4_addBoard 58 = .ok (.getfield 30, 3) := by decide +kernel
theorem dX4_addBoard_61 : decode cX4_addBoard 61 = .ok (.new 57, 3) := by decide +kernel
theorem dX4_addBoard_64 : decode cX4_addBoard 64 = .ok (.dup, 1) := by decide +kernel
theorem dX4_addBoard_65 : decode cX4_addBoard 65 = .ok (.iload_n 1, 1) := by decide +kernel
theorem dX4_addBoard_66 : decode cX4_addBoard 66 = .ok (.iload_n 2, 1) := by decide +kernel
theorem dX4_addBoard_67 : decode cX4_addBoard 67 = .ok (.invokespecial 59, 3) := by decide +kernel
theorem dX4_addBoard_70 : decode cX4_addBoard 70 = .ok (.invokevirtual 62, 3) := by decide +kernel
theorem dX4_addBoard_73 : decode cX4_addBoard 73 = .ok (.aload_n 0, 1) := by decide +kernel
theorem dX4_addBoard_74 : decode cX4_addBoard 74 = .ok (.getfield 33, 3) := by decide +kernel
theorem dX4_addBoard_77 : decode cX4_addBoard 77 = .ok (.new 57, 3) := by decide +kernel
theorem dX4_addBoard_80 : decode cX4_addBoard 80 = .ok (.dup, 1) := by decide +kernel
theorem dX4_addBoard_81 : decode cX4_addBoard 81 = .ok (.iload_n 1, 1) := by decide +kernel
theorem dX4_addBoard_82 : decode cX4_addBoard 82 = .ok (.iload_n 2, 1) := by decide +kernel
theorem dX4_addBoard_83 : decode cX4_addBoard 83 = .ok (.invokespecial 59, 3) := by decide +kernel
theorem dX4_addBoard_86 : decode cX4_addBoard 86 = .ok (.invokevirtual 62, 3) := by decide +kernel
theorem dX4_addBoard_89 : decode cX4_addBoard 89 = .ok (.iload_n 3, 1) := by decide +kernel
theorem dX4_addBoard_90 : decode cX4_addBoard 90 = .ok (.ireturn, 1) := by decide +kernel
set_option maxRecDepth 20000 in
theorem ggX4_setLayer_X1_has : GoodIn wsX4_setLayer wsX1_has := goodIn_r _ [10, 11, 12, 13, 14, 15, 16, 17, 55, 56, 57, 58, 59, 60] (by decide +kernel) (by decide +kernel)
set_option maxRecDepth 20000 in
theorem gX4_setLayer_X1_has : GoodIn wsX4_setLayer (wsV RX4 66 RX1 yX1_has wsX1_has) := goodIn_app (goodIn_of _ (by decide +kernel)) ggX4_setLayer_X1_has
set_option maxRecDepth 20000 in
theorem ggX4_setLayer_X1_boardAt : GoodIn wsX4_setLayer wsX1_boardAt := goodIn_r _ [21, 11, 22, 23, 24, 25, 15, 26, 17, 27, 28, 29, 30, 31, 32, 33, 34, 35, 36, 37, 38, 39, 55, 56, 57, 58, 59, 60] (by decide +kernel) (by decide +kernel)
set_option maxRecDepth 20000 in
theorem gX4_setLayer_X1_boardAt : GoodIn wsX4_setLayer (wsV RX4 71 RX1 yX1_boardAt wsX1_boardAt) := goodIn_app (goodIn_of _ (by decide +kernel)) ggX4_setLayer_X1_boardAt
set_option maxRecDepth 20000 in
theorem ggX4_setLayer_X4_isOutside : GoodIn wsX4_setLayer wsX4_isOutside := goodIn_r _ [43] (by decide +kernel) (by decide +kernel)
set_option maxRecDepth 20000 in
theorem gX4_setLayer_X4_isOutside : GoodIn wsX4_setLayer (va_wsS RX4 47 yX4_isOutside wsX4_isOutside) := goodIn_app (goodIn_of _ (by decide +kernel)) ggX4_setLayer_X4_isOutside
theorem dX4_setLayer_0 : decode cX4_setLayer 0 = .ok (.aload_n 0, 1) := by decide +kernel
theorem dX4_setLayer_1 : decode cX4_setLayer 1 = .ok (.getfield 26, 3) := by decide +kernel
theorem dX4_setLayer_4 : decode cX4_setLayer 4 = .ok (.iload_n 1, 1) := by decide +kernel
theorem dX4_setLayer_5 : decode cX4_setLayer 5 = .ok (.invokevirtual 66, 3) := by decide +kernel
theorem dX4_setLayer_8 : decode cX4_setLayer 8 = .ok (.ifCond .ne 6, 3) := by decide +kernel
theorem dX4_setLayer_11 : decode cX4_setLayer 11 = .ok (.ldc 70, 2) := by decide +kernel
theorem dX4_setLayer_13 : decode cX4_setLayer 13 = .ok (.ireturn, 1) := by decide +kernel
theorem dX4_setLayer_14 : decode cX4_setLayer 14 = .ok (.aload_n 0, 1) := by decide +kernel
theorem dX4_setLayer_15 : decode cX4_setLayer 15 = .ok (.getfield 26, 3) := by decide +kernel
theorem dX4_setLayer_18 : decode cX4_setLayer 18 = .ok (.iload_n 1, 1) := by decide +kernel
theorem dX4_setLayer_19 : decode cX4_setLayer 19 = .ok (.invokevirtual 71, 3) := by decide +kernel
theorem dX4_setLayer_22 : decode cX4_setLayer 22 = .ok (.getfield 75, 3) := by decide +kernel
theorem dX4_setLayer_25 : decode cX4_setLayer 25 = .ok (.astore 4, 2) := by decide +kernel
theorem dX4_setLayer_27 : decode cX4_setLayer 27 = .ok (.iload_n 2, 1) := by decide +kernel
theorem dX4_setLayer_28 : decode cX4_setLayer 28 = .ok (.ifCond .lt 10, 3) := by decide +kernel
theorem dX4_setLayer_31 : decode cX4_setLayer 31 = .ok (.iload_n 2, 1) := by decide +kernel
theorem dX4_setLayer_32 : decode cX4_setLayer 32 = .ok (.aload 4, 2) := by decide +kernel
theorem dX4_setLayer_34 : decode cX4_setLayer 34 = .ok (.arraylength, 1) := by decide +kernel
theorem dX4_setLayer_35 : decode cX4_setLayer 35 = .ok (.if_icmp .lt 6, 3) := by decide +kernel
theorem dX4_setLayer_38 : decode cX4_setLayer 38 = .ok (.ldc 78, 2) := by decide +kernel
theorem dX4_setLayer_40 : decode cX4_setLayer 40 = .ok (.ireturn, 1) := by decide +kernel
theorem dX4_setLayer_41 : decode cX4_setLayer 41 = .ok (.iload_n 3, 1) := by decide +kernel
theorem dX4_setLayer_42 : decode cX4_setLayer 42 = .ok (.iconst 0, 1) := by decide +kernel
theorem dX4_setLayer_43 : decode cX4_setLayer 43 = .ok (.sipush 2000, 3) := by decide +kernel
theorem dX4_setLayer_46 : decode cX4_setLayer 46 = .ok (.invokestatic 47, 3) := by decide +kernel
theorem dX4_setLayer_49 : decode cX4_setLayer 49 = .ok (.ifCond .eq 6, 3) := by decide +kernel
theorem dX4_setLayer_52 : decode cX4_setLayer 52 = .ok (.ldc 51, 2) := by decide +kernel
theorem dX4_setLayer_54 : decode cX4_setLayer 54 = .ok (.ireturn, 1) := by decide +kernel
theorem dX4_setLayer_55 : decode cX4_setLayer 55 = .ok (.aload 4, 2) := by decide +kernel
theorem dX4_setLayer_57 : decode cX4_setLayer 57 = .ok (.iload_n 2, 1) := by decide +kernel
theorem dX4_setLayer_58 : decode cX4_setLayer 58 = .ok (.iaload, 1) := by decide +kernel
theorem dX4_setLayer_59 : decode cX4_setLayer 59 = .ok (.istore 5, 2) := by decide +kernel
theorem dX4_setLayer_61 : decode cX4_setLayer 61 = .ok (.aload 4, 2) := by decide +kernel
theorem dX4_setLayer_63 : decode cX4_setLayer 63 = .ok (.iload_n 2, 1) := by decide +kernel
theorem dX4_setLayer_64 : decode cX4_setLayer 64 = .ok (.iload_n 3, 1) := by decide +kernel
theorem dX4_setLayer_65 : decode cX4_setLayer 65 = .ok (.iastore, 1) := by decide +kernel
theorem dX4_setLayer_66 : decode cX4_setLayer 66 = .ok (.iload 5, 2) := by decide +kernel
theorem dX4_setLayer_68 : decode cX4_setLayer 68 = .ok (.ireturn, 1) := by decide +kernel
set_option maxRecDepth 20000 in
theorem ggX4_layerMoisture_X1_has : GoodIn wsX4_layerMoisture wsX1_has := goodIn_r _ [9, 10, 11, 12, 13, 14, 15, 16, 50, 51, 52, 53, 54, 55] (by decide +kernel) (by decide +kernel)
set_option maxRecDepth 20000 in
theorem gX4_layerMoisture_X1_has : GoodIn wsX4_layerMoisture (wsV RX4 66 RX1 yX1_has wsX1_has) := goodIn_app (goodIn_of _ (by decide +kernel)) ggX4_layerMoisture_X1_has
set_option maxRecDepth 20000 in
theorem ggX4_layerMoisture_X1_boardAt : GoodIn wsX4_layerMoisture wsX1_boardAt := goodIn_r _ [20, 10, 21, 22, 23, 24, 14, 25, 16, 26, 27, 28, 29, 30, 31, 32, 33, 34, 35, 36, 37, 38, 50, 51, 52, 53, 54, 55] (by decide +kernel) (by decide +kernel)
set_option maxRecDepth 20000 in
theorem gX4_layerMoisture_X1_boardAt : GoodIn wsX4_layerMoisture (wsV RX4 71 RX1 yX1_boardAt wsX1_boardAt) := goodIn_app (goodIn_of _ (by decide +kernel)) ggX4_layerMoisture_X1_boardAt
theorem dX4_layerMoisture_0 : decode cX4_layerMoisture 0 = .ok (.aload_n 0, 1) := by decide +kernel
theorem dX4_layerMoisture_1 : decode cX4_layerMoisture 1 = .ok (.getfield 26, 3) := by decide +kernel
theorem dX4_layerMoisture_4 : decode cX4_layerMoisture 4 = .ok (.iload_n 1, 1) := by decide +kernel
theorem dX4_layerMoisture_5 : decode cX4_layerMoisture 5 = .ok (.invokevirtual 66, 3) := by decide +kernel
theorem dX4_layerMoisture_8 : decode cX4_layerMoisture 8 = .ok (.ifCond .ne 6, 3) := by decide +kernel
theorem dX4_layerMoisture_11 : decode cX4_layerMoisture 11 = .ok (.ldc 70, 2) := by decide +kernel
theorem dX4_layerMoisture_13 : decode cX4_layerMoisture 13 = .ok (.ireturn, 1) := by decide +kernel
theorem dX4_layerMoisture_14 : decode cX4_layerMoisture 14 = .ok (.aload_n 0, 1) := by decide +kernel
theorem dX4_layerMoisture_15 : decode cX4_layerMoisture 15 = .ok (.getfield 26, 3) := by decide +kernel
theorem dX4_layerMoisture_18 : decode cX4_layerMoisture 18 = .ok (.iload_n 1, 1) := by decide +kernel
theorem dX4_layerMoisture_19 : decode cX4_layerMoisture 19 = .ok (.invokevirtual 71, 3) := by decide +kernel
theorem dX4_layerMoisture_22 : decode cX4_layerMoisture 22 = .ok (.getfield 75, 3) := by decide +kernel
theorem dX4_layerMoisture_25 : decode cX4_layerMoisture 25 = .ok (.astore_n 3, 1) := by decide +kernel
theorem dX4_layerMoisture_26 : decode cX4_layerMoisture 26 = .ok (.iload_n 2, 1) := by decide +kernel
theorem dX4_layerMoisture_27 : decode cX4_layerMoisture 27 = .ok (.ifCond .lt 15, 3) := by decide +kernel
theorem dX4_layerMoisture_30 : decode cX4_layerMoisture 30 = .ok (.iload_n 2, 1) := by decide +kernel
theorem dX4_layerMoisture_31 : decode cX4_layerMoisture 31 = .ok (.aload_n 3, 1) := by decide +kernel
theorem dX4_layerMoisture_32 : decode cX4_layerMoisture 32 = .ok (.arraylength, 1) := by decide +kernel
theorem dX4_layerMoisture_33 : decode cX4_layerMoisture 33 = .ok (.if_icmp .ge 9, 3) := by decide +kernel
theorem dX4_layerMoisture_36 : decode cX4_layerMoisture 36 = .ok (.aload_n 3, 1) := by decide +kernel
theorem dX4_layerMoisture_37 : decode cX4_layerMoisture 37 = .ok (.iload_n 2, 1) := by decide +kernel
theorem dX4_layerMoisture_38 : decode cX4_layerMoisture 38 = .ok (.iaload, 1) := by decide +kernel
theorem dX4_layerMoisture_39 : decode cX4_layerMoisture 39 = .ok (.goto 5, 3) := by decide +kernel
theorem dX4_layerMoisture_42 : decode cX4_layerMoisture 42 = .ok (.ldc 78, 2) := by decide +kernel
theorem dX4_layerMoisture_44 : decode cX4_layerMoisture 44 = .ok (.ireturn, 1) := by decide +kernel
set_option maxRecDepth 20000 in
theorem ggX4_averageMoisture_X1_has : GoodIn wsX4_averageMoisture wsX1_has := goodIn_r _ [7, 8, 9, 10, 11, 12, 13, 14, 58, 59, 60, 61, 62, 63] (by decide +kernel) (by decide +kernel)
set_option maxRecDepth 20000 in
theorem gX4_averageMoisture_X1_has : GoodIn wsX4_averageMoisture (wsV RX4 66 RX1 yX1_has wsX1_has) := goodIn_app (goodIn_of _ (by decide +kernel)) ggX4_averageMoisture_X1_has
set_option maxRecDepth 20000 in
theorem ggX4_averageMoisture_X1_boardAt : GoodIn wsX4_averageMoisture wsX1_boardAt := goodIn_r _ [18, 8, 19, 20, 21, 22, 12, 23, 14, 24, 25, 26, 27, 28, 29, 30, 31, 32, 33, 34, 35, 36, 58, 59, 60, 61, 62, 63] (by decide +kernel) (by decide +kernel)
set_option maxRecDepth 20000 in
theorem gX4_averageMoisture_X1_boardAt : GoodIn wsX4_averageMoisture (wsV RX4 71 RX1 yX1_boardAt wsX1_boardAt) := goodIn_app (goodIn_of _ (by decide +kernel)) ggX4_averageMoisture_X1_boardAt
set_option maxRecDepth 20000 in
theorem ggX4_averageMoisture_X0_average : GoodIn wsX4_averageMoisture wsX0_average := goodIn_r _ [41, 42, 43, 44, 45, 40, 46, 47, 48, 49, 64, 65, 66] (by decide +kernel) (by decide +kernel)
set_option maxRecDepth 20000 in
theorem gX4_averageMoisture_X0_average : GoodIn wsX4_averageMoisture (wsV RX4 79 RX0 yX0_average wsX0_average) := goodIn_app (goodIn_of _ (by decide +kernel)) ggX4_averageMoisture_X0_average
theorem dX4_averageMoisture_0 : decode cX4_averageMoisture 0 = .ok (.aload_n 0, 1) := by decide +kernel
theorem dX4_averageMoisture_1 : decode cX4_averageMoisture 1 = .ok (.getfield 26, 3) := by decide +kernel
theorem dX4_averageMoisture_4 : decode cX4_averageMoisture 4 = .ok (.iload_n 1, 1) := by decide +kernel
theorem dX4_averageMoisture_5 : decode cX4_averageMoisture 5 = .ok (.invokevirtual 66, 3) := by decide +kernel
theorem dX4_averageMoisture_8 : decode cX4_averageMoisture 8 = .ok (.ifCond .eq 17, 3) := by decide +kernel
theorem dX4_averageMoisture_11 : decode cX4_averageMoisture 11 = .ok (.aload_n 0, 1) := by decide +kernel
theorem dX4_averageMoisture_12 : decode cX4_averageMoisture 12 = .ok (.getfield 26, 3) := by decide +kernel
theorem dX4_averageMoisture_15 : decode cX4_averageMoisture 15 = .ok (.iload_n 1, 1) := by decide +kernel
theorem dX4_averageMoisture_16 : decode cX4_averageMoisture 16 = .ok (.invokevirtual 71, 3) := by decide +kernel
theorem dX4_averageMoisture_19 : decode cX4_averageMoisture 19 = .ok (.invokevirtual 79, 3) := by decide +kernel
theorem dX4_averageMoisture_22 : decode cX4_averageMoisture 22 = .ok (.goto 5, 3) := by decide +kernel
theorem dX4_averageMoisture_25 : decode cX4_averageMoisture 25 = .ok (.ldc 70, 2) := by decide +kernel
theorem dX4_averageMoisture_27 : decode cX4_averageMoisture 27 = .ok (.ireturn, 1) := by decide +kernel
set_option maxRecDepth 20000 in
theorem ggX4_strain_X1_has : GoodIn wsX4_strain wsX1_has := goodIn_r _ [7, 8, 9, 10, 11, 12, 13, 14, 58, 59, 60, 61, 62, 63] (by decide +kernel) (by decide +kernel)
set_option maxRecDepth 20000 in
theorem gX4_strain_X1_has : GoodIn wsX4_strain (wsV RX4 66 RX1 yX1_has wsX1_has) := goodIn_app (goodIn_of _ (by decide +kernel)) ggX4_strain_X1_has
set_option maxRecDepth 20000 in
theorem ggX4_strain_X1_boardAt : GoodIn wsX4_strain wsX1_boardAt := goodIn_r _ [18, 8, 19, 20, 21, 22, 12, 23, 14, 24, 25, 26, 27, 28, 29, 30, 31, 32, 33, 34, 35, 36, 58, 59, 60, 61, 62, 63] (by decide +kernel) (by decide +kernel)
set_option maxRecDepth 20000 in
theorem gX4_strain_X1_boardAt : GoodIn wsX4_strain (wsV RX4 71 RX1 yX1_boardAt wsX1_boardAt) := goodIn_app (goodIn_of _ (by decide +kernel)) ggX4_strain_X1_boardAt
set_option maxRecDepth 20000 in
theorem ggX4_strain_X0_gradient : GoodIn wsX4_strain wsX0_gradient := goodIn_r _ [41, 42, 43, 44, 45, 46, 47, 48, 49, 64, 65, 66] (by decide +kernel) (by decide +kernel)
set_option maxRecDepth 20000 in
theorem gX4_strain_X0_gradient : GoodIn wsX4_strain (wsV RX4 82 RX0 yX0_gradient wsX0_gradient) := goodIn_app (goodIn_of _ (by decide +kernel)) ggX4_strain_X0_gradient
theorem dX4_strain_0 : decode cX4_strain 0 = .ok (.aload_n 0, 1) := by decide +kernel
theorem dX4_strain_1 : decode cX4_strain 1 = .ok (.getfield 26, 3) := by decide +kernel
theorem dX4_strain_4 : decode cX4_strain 4 = .ok (.iload_n 1, 1) := by decide +kernel
theorem dX4_strain_5 : decode cX4_strain 5 = .ok (.invokevirtual 66, 3) := by decide +kernel
theorem dX4_strain_8 : decode cX4_strain 8 = .ok (.ifCond .eq 17, 3) := by decide +kernel
theorem dX4_strain_11 : decode cX4_strain 11 = .ok (.aload_n 0, 1) := by decide +kernel
theorem dX4_strain_12 : decode cX4_strain 12 = .ok (.getfield 26, 3) := by decide +kernel
theorem dX4_strain_15 : decode cX4_strain 15 = .ok (.iload_n 1, 1) := by decide +kernel
theorem dX4_strain_16 : decode cX4_strain 16 = .ok (.invokevirtual 71, 3) := by decide +kernel
theorem dX4_strain_19 : decode cX4_strain 19 = .ok (.invokevirtual 82, 3) := by decide +kernel
theorem dX4_strain_22 : decode cX4_strain 22 = .ok (.goto 5, 3) := by decide +kernel
theorem dX4_strain_25 : decode cX4_strain 25 = .ok (.ldc 70, 2) := by decide +kernel
theorem dX4_strain_27 : decode cX4_strain 27 = .ok (.ireturn, 1) := by decide +kernel
set_option maxRecDepth 20000 in
theorem ggX4_checkHour_X1_has : GoodIn wsX4_checkHour wsX1_has := goodIn_r _ [8, 9, 10, 11, 12, 13, 14, 15, 49, 50, 51, 52, 53, 54] (by decide +kernel) (by decide +kernel)
end
section
set_option maxRecDepth 20000 in
theorem gX4_checkHour_X1_has : GoodIn wsX4_checkHour (wsV RX4 66 RX1 yX1_has wsX1_has) := goodIn_app (goodIn_of _ (by decide +kernel)) ggX4_checkHour_X1_has
set_option maxRecDepth 20000 in
theorem ggX4_checkHour_X1_boardAt : GoodIn wsX4_checkHour wsX1_boardAt := goodIn_r _ [19, 9, 20, 21, 22, 23, 13, 24, 15, 25, 26, 27, 28, 29, 30, 31, 32, 33, 34, 35, 36, 37, 49, 50, 51, 52, 53, 54] (by decide +kernel) (by decide +kernel)
set_option maxRecDepth 20000 in
theorem gX4_checkHour_X1_boardAt : GoodIn wsX4_checkHour (wsV RX4 71 RX1 yX1_boardAt wsX1_boardAt) := goodIn_app (goodIn_of _ (by decide +kernel)) ggX4_checkHour_X1_boardAt
theorem dX4_checkHour_0 : decode cX4_checkHour 0 = .ok (.aload_n 0, 1) := by decide +kernel
theorem dX4_checkHour_1 : decode cX4_checkHour 1 = .ok (.getfield 26, 3) := by decide +kernel
theorem dX4_checkHour_4 : decode cX4_checkHour 4 = .ok (.iload_n 1, 1) := by decide +kernel
theorem dX4_checkHour_5 : decode cX4_checkHour 5 = .ok (.invokevirtual 66, 3) := by decide +kernel
theorem dX4_checkHour_8 : decode cX4_checkHour 8 = .ok (.ifCond .eq 17, 3) := by decide +kernel
theorem dX4_checkHour_11 : decode cX4_checkHour 11 = .ok (.aload_n 0, 1) := by decide +kernel
theorem dX4_checkHour_12 : decode cX4_checkHour 12 = .ok (.getfield 26, 3) := by decide +kernel
theorem dX4_checkHour_15 : decode cX4_checkHour 15 = .ok (.iload_n 1, 1) := by decide +kernel
theorem dX4_checkHour_16 : decode cX4_checkHour 16 = .ok (.invokevirtual 71, 3) := by decide +kernel
theorem dX4_checkHour_19 : decode cX4_checkHour 19 = .ok (.getfield 85, 3) := by decide +kernel
theorem dX4_checkHour_22 : decode cX4_checkHour 22 = .ok (.goto 5, 3) := by decide +kernel
theorem dX4_checkHour_25 : decode cX4_checkHour 25 = .ok (.ldc 70, 2) := by decide +kernel
theorem dX4_checkHour_27 : decode cX4_checkHour 27 = .ok (.ireturn, 1) := by decide +kernel
set_option maxRecDepth 20000 in
theorem ggX4_wettestBoard_X1_wettest : GoodIn wsX4_wettestBoard wsX1_wettest := goodIn_r _ [6, 7, 8, 9, 10, 11, 12, 13, 14, 15, 16, 17, 18, 19, 20, 21, 22, 23, 24, 25, 26, 27, 28, 29, 30, 31, 32, 33, 34, 35, 36, 37, 38, 39, 40, 41, 42, 43, 44, 45, 54, 55, 56, 57, 58, 59, 60, 61, 62] (by decide +kernel) (by decide +kernel)
set_option maxRecDepth 20000 in
theorem gX4_wettestBoard_X1_wettest : GoodIn wsX4_wettestBoard (wsV RX4 88 RX1 yX1_wettest wsX1_wettest) := goodIn_app (goodIn_of _ (by decide +kernel)) ggX4_wettestBoard_X1_wettest
theorem dX4_wettestBoard_0 : decode cX4_wettestBoard 0 = .ok (.aload_n 0, 1) := by decide +kernel
theorem dX4_wettestBoard_1 : decode cX4_wettestBoard 1 = .ok (.getfield 26, 3) := by decide +kernel
theorem dX4_wettestBoard_4 : decode cX4_wettestBoard 4 = .ok (.invokevirtual 88, 3) := by decide +kernel
theorem dX4_wettestBoard_7 : decode cX4_wettestBoard 7 = .ok (.ireturn, 1) := by decide +kernel
set_option maxRecDepth 20000 in
theorem ggX4_totalWater_X1_water : GoodIn wsX4_totalWater wsX1_water := goodIn_r _ [6, 7, 8, 9, 10, 11, 12, 13, 14, 15, 16, 17, 18, 19, 20, 21, 22, 23, 24, 25, 26, 27, 28, 29, 30, 31, 32, 33, 34, 35, 36, 37, 46, 47, 48, 49, 50, 51, 52, 53, 54] (by decide +kernel) (by decide +kernel)
set_option maxRecDepth 20000 in
theorem gX4_totalWater_X1_water : GoodIn wsX4_totalWater (wsV RX4 91 RX1 yX1_water wsX1_water) := goodIn_app (goodIn_of _ (by decide +kernel)) ggX4_totalWater_X1_water
theorem dX4_totalWater_0 : decode cX4_totalWater 0 = .ok (.aload_n 0, 1) := by decide +kernel
theorem dX4_totalWater_1 : decode cX4_totalWater 1 = .ok (.getfield 26, 3) := by decide +kernel
theorem dX4_totalWater_4 : decode cX4_totalWater 4 = .ok (.invokevirtual 91, 3) := by decide +kernel
theorem dX4_totalWater_7 : decode cX4_totalWater 7 = .ok (.ireturn, 1) := by decide +kernel
set_option maxRecDepth 20000 in
theorem ggX4_sampleError_X1_size : GoodIn wsX4_sampleError wsX1_size := goodIn_r _ [7, 8, 9, 10, 11, 12, 13, 14, 65, 66, 67, 68, 69, 70] (by decide +kernel) (by decide +kernel)
set_option maxRecDepth 20000 in
theorem gX4_sampleError_X1_size : GoodIn wsX4_sampleError (wsV RX4 52 RX1 yX1_size wsX1_size) := goodIn_app (goodIn_of _ (by decide +kernel)) ggX4_sampleError_X1_size
set_option maxRecDepth 20000 in
theorem ggX4_sampleError_X1_meanOf : GoodIn wsX4_sampleError wsX1_meanOf := goodIn_r _ [18, 8, 19, 9, 10, 11, 12, 13, 14, 20, 21, 22, 23, 24, 25, 26, 27, 28, 29, 30, 31, 32, 33, 34, 35, 36, 37, 38, 39, 40, 41, 42, 43, 44, 45, 46, 47, 48, 49, 50, 51, 52, 53, 54, 55, 56, 65, 66, 67, 68, 69, 70, 71, 72, 73] (by decide +kernel) (by decide +kernel)
set_option maxRecDepth 20000 in
theorem gX4_sampleError_X1_meanOf : GoodIn wsX4_sampleError (wsV RX4 94 RX1 yX1_meanOf wsX1_meanOf) := goodIn_app (goodIn_of _ (by decide +kernel)) ggX4_sampleError_X1_meanOf
theorem dX4_sampleError_0 : decode cX4_sampleError 0 = .ok (.iconst 1, 1) := by decide +kernel
theorem dX4_sampleError_1 : decode cX4_sampleError 1 = .ok (.aload_n 0, 1) := by decide +kernel
theorem dX4_sampleError_2 : decode cX4_sampleError 2 = .ok (.getfield 26, 3) := by decide +kernel
theorem dX4_sampleError_5 : decode cX4_sampleError 5 = .ok (.invokevirtual 52, 3) := by decide +kernel
theorem dX4_sampleError_8 : decode cX4_sampleError 8 = .ok (.ishl, 1) := by decide +kernel
theorem dX4_sampleError_9 : decode cX4_sampleError 9 = .ok (.iconst 1, 1) := by decide +kernel
theorem dX4_sampleError_10 : decode cX4_sampleError 10 = .ok (.isub, 1) := by decide +kernel
theorem dX4_sampleError_11 : decode cX4_sampleError 11 = .ok (.istore_n 2, 1) := by decide +kernel
theorem dX4_sampleError_12 : decode cX4_sampleError 12 = .ok (.iload_n 1, 1) := by decide +kernel
theorem dX4_sampleError_13 : decode cX4_sampleError 13 = .ok (.ifCond .eq 11, 3) := by decide +kernel
theorem dX4_sampleError_16 : decode cX4_sampleError 16 = .ok (.iload_n 1, 1) := by decide +kernel
theorem dX4_sampleError_17 : decode cX4_sampleError 17 = .ok (.iload_n 2, 1) := by decide +kernel
theorem dX4_sampleError_18 : decode cX4_sampleError 18 = .ok (.iconst (-1), 1) := by decide +kernel
theorem dX4_sampleError_19 : decode cX4_sampleError 19 = .ok (.ixor, 1) := by decide +kernel
theorem dX4_sampleError_20 : decode cX4_sampleError 20 = .ok (.iand, 1) := by decide +kernel
theorem dX4_sampleError_21 : decode cX4_sampleError 21 = .ok (.ifCond .eq 6, 3) := by decide +kernel
theorem dX4_sampleError_24 : decode cX4_sampleError 24 = .ok (.ldc 51, 2) := by decide +kernel
theorem dX4_sampleError_26 : decode cX4_sampleError 26 = .ok (.ireturn, 1) := by decide +kernel
theorem dX4_sampleError_27 : decode cX4_sampleError 27 = .ok (.aload_n 0, 1) := by decide +kernel
theorem dX4_sampleError_28 : decode cX4_sampleError 28 = .ok (.getfield 26, 3) := by decide +kernel
theorem dX4_sampleError_31 : decode cX4_sampleError 31 = .ok (.iload_n 1, 1) := by decide +kernel
theorem dX4_sampleError_32 : decode cX4_sampleError 32 = .ok (.invokevirtual 94, 3) := by decide +kernel
theorem dX4_sampleError_35 : decode cX4_sampleError 35 = .ok (.aload_n 0, 1) := by decide +kernel
theorem dX4_sampleError_36 : decode cX4_sampleError 36 = .ok (.getfield 26, 3) := by decide +kernel
theorem dX4_sampleError_39 : decode cX4_sampleError 39 = .ok (.iload_n 2, 1) := by decide +kernel
theorem dX4_sampleError_40 : decode cX4_sampleError 40 = .ok (.invokevirtual 94, 3) := by decide +kernel
theorem dX4_sampleError_43 : decode cX4_sampleError 43 = .ok (.isub, 1) := by decide +kernel
theorem dX4_sampleError_44 : decode cX4_sampleError 44 = .ok (.ireturn, 1) := by decide +kernel
set_option maxRecDepth 20000 in
theorem ggX4_setDiffusion_X4_isOutside : GoodIn wsX4_setDiffusion wsX4_isOutside := goodIn_r _ [7] (by decide +kernel) (by decide +kernel)
set_option maxRecDepth 20000 in
theorem gX4_setDiffusion_X4_isOutside : GoodIn wsX4_setDiffusion (va_wsS RX4 47 yX4_isOutside wsX4_isOutside) := goodIn_app (goodIn_of _ (by decide +kernel)) ggX4_setDiffusion_X4_isOutside
theorem dX4_setDiffusion_0 : decode cX4_setDiffusion 0 = .ok (.iload_n 1, 1) := by decide +kernel
theorem dX4_setDiffusion_1 : decode cX4_setDiffusion 1 = .ok (.iconst 1, 1) := by decide +kernel
theorem dX4_setDiffusion_2 : decode cX4_setDiffusion 2 = .ok (.sipush 250, 3) := by decide +kernel
theorem dX4_setDiffusion_5 : decode cX4_setDiffusion 5 = .ok (.invokestatic 47, 3) := by decide +kernel
theorem dX4_setDiffusion_8 : decode cX4_setDiffusion 8 = .ok (.ifCond .eq 6, 3) := by decide +kernel
theorem dX4_setDiffusion_11 : decode cX4_setDiffusion 11 = .ok (.ldc 51, 2) := by decide +kernel
theorem dX4_setDiffusion_13 : decode cX4_setDiffusion 13 = .ok (.ireturn, 1) := by decide +kernel
theorem dX4_setDiffusion_14 : decode cX4_setDiffusion 14 = .ok (.aload_n 0, 1) := by decide +kernel
theorem dX4_setDiffusion_15 : decode cX4_setDiffusion 15 = .ok (.getfield 10, 3) := by decide +kernel
theorem dX4_setDiffusion_18 : decode cX4_setDiffusion 18 = .ok (.getfield 98, 3) := by decide +kernel
theorem dX4_setDiffusion_21 : decode cX4_setDiffusion 21 = .ok (.istore_n 2, 1) := by decide +kernel
theorem dX4_setDiffusion_22 : decode cX4_setDiffusion 22 = .ok (.aload_n 0, 1) := by decide +kernel
theorem dX4_setDiffusion_23 : decode cX4_setDiffusion 23 = .ok (.getfield 10, 3) := by decide +kernel
theorem dX4_setDiffusion_26 : decode cX4_setDiffusion 26 = .ok (.iload_n 1, 1) := by decide +kernel
theorem dX4_setDiffusion_27 : decode cX4_setDiffusion 27 = .ok (.putfield 98, 3) := by decide +kernel
theorem dX4_setDiffusion_30 : decode cX4_setDiffusion 30 = .ok (.iload_n 2, 1) := by decide +kernel
theorem dX4_setDiffusion_31 : decode cX4_setDiffusion 31 = .ok (.ireturn, 1) := by decide +kernel
set_option maxRecDepth 20000 in
theorem ggX4_setSurface_X4_isOutside : GoodIn wsX4_setSurface wsX4_isOutside := goodIn_r _ [7] (by decide +kernel) (by decide +kernel)
set_option maxRecDepth 20000 in
theorem gX4_setSurface_X4_isOutside : GoodIn wsX4_setSurface (va_wsS RX4 47 yX4_isOutside wsX4_isOutside) := goodIn_app (goodIn_of _ (by decide +kernel)) ggX4_setSurface_X4_isOutside
theorem dX4_setSurface_0 : decode cX4_setSurface 0 = .ok (.iload_n 1, 1) := by decide +kernel
theorem dX4_setSurface_1 : decode cX4_setSurface 1 = .ok (.iconst 1, 1) := by decide +kernel
theorem dX4_setSurface_2 : decode cX4_setSurface 2 = .ok (.sipush 500, 3) := by decide +kernel
theorem dX4_setSurface_5 : decode cX4_setSurface 5 = .ok (.invokestatic 47, 3) := by decide +kernel
theorem dX4_setSurface_8 : decode cX4_setSurface 8 = .ok (.ifCond .eq 6, 3) := by decide +kernel
theorem dX4_setSurface_11 : decode cX4_setSurface 11 = .ok (.ldc 51, 2) := by decide +kernel
theorem dX4_setSurface_13 : decode cX4_setSurface 13 = .ok (.ireturn, 1) := by decide +kernel
theorem dX4_setSurface_14 : decode cX4_setSurface 14 = .ok (.aload_n 0, 1) := by decide +kernel
theorem dX4_setSurface_15 : decode cX4_setSurface 15 = .ok (.getfield 10, 3) := by decide +kernel
theorem dX4_setSurface_18 : decode cX4_setSurface 18 = .ok (.getfield 101, 3) := by decide +kernel
theorem dX4_setSurface_21 : decode cX4_setSurface 21 = .ok (.istore_n 2, 1) := by decide +kernel
theorem dX4_setSurface_22 : decode cX4_setSurface 22 = .ok (.aload_n 0, 1) := by decide +kernel
theorem dX4_setSurface_23 : decode cX4_setSurface 23 = .ok (.getfield 10, 3) := by decide +kernel
theorem dX4_setSurface_26 : decode cX4_setSurface 26 = .ok (.iload_n 1, 1) := by decide +kernel
theorem dX4_setSurface_27 : decode cX4_setSurface 27 = .ok (.putfield 101, 3) := by decide +kernel
theorem dX4_setSurface_30 : decode cX4_setSurface 30 = .ok (.iload_n 2, 1) := by decide +kernel
theorem dX4_setSurface_31 : decode cX4_setSurface 31 = .ok (.ireturn, 1) := by decide +kernel
set_option maxRecDepth 20000 in
theorem ggX4_setCapacity_X4_isOutside : GoodIn wsX4_setCapacity wsX4_isOutside := goodIn_r _ [7] (by decide +kernel) (by decide +kernel)
set_option maxRecDepth 20000 in
theorem gX4_setCapacity_X4_isOutside : GoodIn wsX4_setCapacity (va_wsS RX4 47 yX4_isOutside wsX4_isOutside) := goodIn_app (goodIn_of _ (by decide +kernel)) ggX4_setCapacity_X4_isOutside
theorem dX4_setCapacity_0 : decode cX4_setCapacity 0 = .ok (.iload_n 1, 1) := by decide +kernel
theorem dX4_setCapacity_1 : decode cX4_setCapacity 1 = .ok (.iconst 1, 1) := by decide +kernel
theorem dX4_setCapacity_2 : decode cX4_setCapacity 2 = .ok (.sipush 10000, 3) := by decide +kernel
theorem dX4_setCapacity_5 : decode cX4_setCapacity 5 = .ok (.invokestatic 47, 3) := by decide +kernel
theorem dX4_setCapacity_8 : decode cX4_setCapacity 8 = .ok (.ifCond .eq 6, 3) := by decide +kernel
theorem dX4_setCapacity_11 : decode cX4_setCapacity 11 = .ok (.ldc 51, 2) := by decide +kernel
theorem dX4_setCapacity_13 : decode cX4_setCapacity 13 = .ok (.ireturn, 1) := by decide +kernel
theorem dX4_setCapacity_14 : decode cX4_setCapacity 14 = .ok (.aload_n 0, 1) := by decide +kernel
theorem dX4_setCapacity_15 : decode cX4_setCapacity 15 = .ok (.getfield 10, 3) := by decide +kernel
theorem dX4_setCapacity_18 : decode cX4_setCapacity 18 = .ok (.getfield 104, 3) := by decide +kernel
theorem dX4_setCapacity_21 : decode cX4_setCapacity 21 = .ok (.istore_n 2, 1) := by decide +kernel
theorem dX4_setCapacity_22 : decode cX4_setCapacity 22 = .ok (.aload_n 0, 1) := by decide +kernel
theorem dX4_setCapacity_23 : decode cX4_setCapacity 23 = .ok (.getfield 10, 3) := by decide +kernel
theorem dX4_setCapacity_26 : decode cX4_setCapacity 26 = .ok (.iload_n 1, 1) := by decide +kernel
theorem dX4_setCapacity_27 : decode cX4_setCapacity 27 = .ok (.putfield 104, 3) := by decide +kernel
theorem dX4_setCapacity_30 : decode cX4_setCapacity 30 = .ok (.iload_n 2, 1) := by decide +kernel
theorem dX4_setCapacity_31 : decode cX4_setCapacity 31 = .ok (.ireturn, 1) := by decide +kernel
set_option maxRecDepth 20000 in
theorem ggX4_setStrainLimit_X4_isOutside : GoodIn wsX4_setStrainLimit wsX4_isOutside := goodIn_r _ [7] (by decide +kernel) (by decide +kernel)
set_option maxRecDepth 20000 in
theorem gX4_setStrainLimit_X4_isOutside : GoodIn wsX4_setStrainLimit (va_wsS RX4 47 yX4_isOutside wsX4_isOutside) := goodIn_app (goodIn_of _ (by decide +kernel)) ggX4_setStrainLimit_X4_isOutside
theorem dX4_setStrainLimit_0 : decode cX4_setStrainLimit 0 = .ok (.iload_n 1, 1) := by decide +kernel
theorem dX4_setStrainLimit_1 : decode cX4_setStrainLimit 1 = .ok (.bipush 20, 2) := by decide +kernel
theorem dX4_setStrainLimit_3 : decode cX4_setStrainLimit 3 = .ok (.sipush 900, 3) := by decide +kernel
theorem dX4_setStrainLimit_6 : decode cX4_setStrainLimit 6 = .ok (.invokestatic 47, 3) := by decide +kernel
theorem dX4_setStrainLimit_9 : decode cX4_setStrainLimit 9 = .ok (.ifCond .eq 6, 3) := by decide +kernel
theorem dX4_setStrainLimit_12 : decode cX4_setStrainLimit 12 = .ok (.ldc 51, 2) := by decide +kernel
theorem dX4_setStrainLimit_14 : decode cX4_setStrainLimit 14 = .ok (.ireturn, 1) := by decide +kernel
theorem dX4_setStrainLimit_15 : decode cX4_setStrainLimit 15 = .ok (.aload_n 0, 1) := by decide +kernel
theorem dX4_setStrainLimit_16 : decode cX4_setStrainLimit 16 = .ok (.getfield 10, 3) := by decide +kernel
theorem dX4_setStrainLimit_19 : decode cX4_setStrainLimit 19 = .ok (.getfield 107, 3) := by decide +kernel
theorem dX4_setStrainLimit_22 : decode cX4_setStrainLimit 22 = .ok (.istore_n 2, 1) := by decide +kernel
theorem dX4_setStrainLimit_23 : decode cX4_setStrainLimit 23 = .ok (.aload_n 0, 1) := by decide +kernel
theorem dX4_setStrainLimit_24 : decode cX4_setStrainLimit 24 = .ok (.getfield 10, 3) := by decide +kernel
theorem dX4_setStrainLimit_27 : decode cX4_setStrainLimit 27 = .ok (.iload_n 1, 1) := by decide +kernel
theorem dX4_setStrainLimit_28 : decode cX4_setStrainLimit 28 = .ok (.putfield 107, 3) := by decide +kernel
theorem dX4_setStrainLimit_31 : decode cX4_setStrainLimit 31 = .ok (.iload_n 2, 1) := by decide +kernel
theorem dX4_setStrainLimit_32 : decode cX4_setStrainLimit 32 = .ok (.ireturn, 1) := by decide +kernel
set_option maxRecDepth 20000 in
theorem ggX4_setHumidity_X4_isOutside : GoodIn wsX4_setHumidity wsX4_isOutside := goodIn_r _ [7] (by decide +kernel) (by decide +kernel)
set_option maxRecDepth 20000 in
theorem gX4_setHumidity_X4_isOutside : GoodIn wsX4_setHumidity (va_wsS RX4 47 yX4_isOutside wsX4_isOutside) := goodIn_app (goodIn_of _ (by decide +kernel)) ggX4_setHumidity_X4_isOutside
theorem dX4_setHumidity_0 : decode cX4_setHumidity 0 = .ok (.iload_n 1, 1) := by decide +kernel
theorem dX4_setHumidity_1 : decode cX4_setHumidity 1 = .ok (.iconst 0, 1) := by decide +kernel
theorem dX4_setHumidity_2 : decode cX4_setHumidity 2 = .ok (.sipush 300, 3) := by decide +kernel
theorem dX4_setHumidity_5 : decode cX4_setHumidity 5 = .ok (.invokestatic 47, 3) := by decide +kernel
theorem dX4_setHumidity_8 : decode cX4_setHumidity 8 = .ok (.ifCond .eq 6, 3) := by decide +kernel
theorem dX4_setHumidity_11 : decode cX4_setHumidity 11 = .ok (.ldc 51, 2) := by decide +kernel
theorem dX4_setHumidity_13 : decode cX4_setHumidity 13 = .ok (.ireturn, 1) := by decide +kernel
theorem dX4_setHumidity_14 : decode cX4_setHumidity 14 = .ok (.aload_n 0, 1) := by decide +kernel
theorem dX4_setHumidity_15 : decode cX4_setHumidity 15 = .ok (.getfield 10, 3) := by decide +kernel
theorem dX4_setHumidity_18 : decode cX4_setHumidity 18 = .ok (.getfield 110, 3) := by decide +kernel
theorem dX4_setHumidity_21 : decode cX4_setHumidity 21 = .ok (.istore_n 2, 1) := by decide +kernel
theorem dX4_setHumidity_22 : decode cX4_setHumidity 22 = .ok (.aload_n 0, 1) := by decide +kernel
theorem dX4_setHumidity_23 : decode cX4_setHumidity 23 = .ok (.getfield 10, 3) := by decide +kernel
theorem dX4_setHumidity_26 : decode cX4_setHumidity 26 = .ok (.iload_n 1, 1) := by decide +kernel
theorem dX4_setHumidity_27 : decode cX4_setHumidity 27 = .ok (.putfield 110, 3) := by decide +kernel
theorem dX4_setHumidity_30 : decode cX4_setHumidity 30 = .ok (.iload_n 2, 1) := by decide +kernel
theorem dX4_setHumidity_31 : decode cX4_setHumidity 31 = .ok (.ireturn, 1) := by decide +kernel
theorem dX4_setFan_0 : decode cX4_setFan 0 = .ok (.aload_n 0, 1) := by decide +kernel
theorem dX4_setFan_1 : decode cX4_setFan 1 = .ok (.getfield 26, 3) := by decide +kernel
theorem dX4_setFan_4 : decode cX4_setFan 4 = .ok (.getfield 113, 3) := by decide +kernel
theorem dX4_setFan_7 : decode cX4_setFan 7 = .ok (.iload_n 1, 1) := by decide +kernel
theorem dX4_setFan_8 : decode cX4_setFan 8 = .ok (.if_icmp .eq 7, 3) := by decide +kernel
theorem dX4_setFan_11 : decode cX4_setFan 11 = .ok (.iconst 1, 1) := by decide +kernel
theorem dX4_setFan_12 : decode cX4_setFan 12 = .ok (.goto 4, 3) := by decide +kernel
theorem dX4_setFan_15 : decode cX4_setFan 15 = .ok (.iconst 0, 1) := by decide +kernel
theorem dX4_setFan_16 : decode cX4_setFan 16 = .ok (.istore_n 2, 1) := by decide +kernel
theorem dX4_setFan_17 : decode cX4_setFan 17 = .ok (.aload_n 0, 1) := by decide +kernel
theorem dX4_setFan_18 : decode cX4_setFan 18 = .ok (.getfield 26, 3) := by decide +kernel
theorem dX4_setFan_21 : decode cX4_setFan 21 = .ok (.iload_n 1, 1) := by decide +kernel
theorem dX4_setFan_22 : decode cX4_setFan 22 = .ok (.putfield 113, 3) := by decide +kernel
theorem dX4_setFan_25 : decode cX4_setFan 25 = .ok (.iload_n 2, 1) := by decide +kernel
theorem dX4_setFan_26 : decode cX4_setFan 26 = .ok (.ifCond .eq 7, 3) := by decide +kernel
theorem dX4_setFan_29 : decode cX4_setFan 29 = .ok (.iconst 1, 1) := by decide +kernel
theorem dX4_setFan_30 : decode cX4_setFan 30 = .ok (.goto 4, 3) := by decide +kernel
theorem dX4_setFan_33 : decode cX4_setFan 33 = .ok (.iconst 0, 1) := by decide +kernel
theorem dX4_setFan_34 : decode cX4_setFan 34 = .ok (.ireturn, 1) := by decide +kernel
theorem dX4_isFanReversed_0 : decode cX4_isFanReversed 0 = .ok (.aload_n 0, 1) := by decide +kernel
theorem dX4_isFanReversed_1 : decode cX4_isFanReversed 1 = .ok (.getfield 26, 3) := by decide +kernel
theorem dX4_isFanReversed_4 : decode cX4_isFanReversed 4 = .ok (.getfield 113, 3) := by decide +kernel
theorem dX4_isFanReversed_7 : decode cX4_isFanReversed 7 = .ok (.ifCond .eq 7, 3) := by decide +kernel
theorem dX4_isFanReversed_10 : decode cX4_isFanReversed 10 = .ok (.iconst 1, 1) := by decide +kernel
theorem dX4_isFanReversed_11 : decode cX4_isFanReversed 11 = .ok (.goto 4, 3) := by decide +kernel
theorem dX4_isFanReversed_14 : decode cX4_isFanReversed 14 = .ok (.iconst 0, 1) := by decide +kernel
theorem dX4_isFanReversed_15 : decode cX4_isFanReversed 15 = .ok (.ireturn, 1) := by decide +kernel
set_option maxRecDepth 20000 in
theorem ggX4_setReversalPeriod_X4_isOutside : GoodIn wsX4_setReversalPeriod wsX4_isOutside := goodIn_r _ [7] (by decide +kernel) (by decide +kernel)
set_option maxRecDepth 20000 in
theorem gX4_setReversalPeriod_X4_isOutside : GoodIn wsX4_setReversalPeriod (va_wsS RX4 47 yX4_isOutside wsX4_isOutside) := goodIn_app (goodIn_of _ (by decide +kernel)) ggX4_setReversalPeriod_X4_isOutside
theorem dX4_setReversalPeriod_0 : decode cX4_setReversalPeriod 0 = .ok (.iload_n 1, 1) := by decide +kernel
theorem dX4_setReversalPeriod_1 : decode cX4_setReversalPeriod 1 = .ok (.iconst 0, 1) := by decide +kernel
theorem dX4_setReversalPeriod_2 : decode cX4_setReversalPeriod 2 = .ok (.bipush 48, 2) := by decide +kernel
theorem dX4_setReversalPeriod_4 : decode cX4_setReversalPeriod 4 = .ok (.invokestatic 47, 3) := by decide +kernel
theorem dX4_setReversalPeriod_7 : decode cX4_setReversalPeriod 7 = .ok (.ifCond .eq 6, 3) := by decide +kernel
theorem dX4_setReversalPeriod_10 : decode cX4_setReversalPeriod 10 = .ok (.ldc 51, 2) := by decide +kernel
theorem dX4_setReversalPeriod_12 : decode cX4_setReversalPeriod 12 = .ok (.ireturn, 1) := by decide +kernel
theorem dX4_setReversalPeriod_13 : decode cX4_setReversalPeriod 13 = .ok (.aload_n 0, 1) := by decide +kernel
theorem dX4_setReversalPeriod_14 : decode cX4_setReversalPeriod 14 = .ok (.getfield 10, 3) := by decide +kernel
theorem dX4_setReversalPeriod_17 : decode cX4_setReversalPeriod 17 = .ok (.getfield 117, 3) := by decide +kernel
theorem dX4_setReversalPeriod_20 : decode cX4_setReversalPeriod 20 = .ok (.istore_n 2, 1) := by decide +kernel
theorem dX4_setReversalPeriod_21 : decode cX4_setReversalPeriod 21 = .ok (.aload_n 0, 1) := by decide +kernel
theorem dX4_setReversalPeriod_22 : decode cX4_setReversalPeriod 22 = .ok (.getfield 10, 3) := by decide +kernel
theorem dX4_setReversalPeriod_25 : decode cX4_setReversalPeriod 25 = .ok (.iload_n 1, 1) := by decide +kernel
theorem dX4_setReversalPeriod_26 : decode cX4_setReversalPeriod 26 = .ok (.putfield 117, 3) := by decide +kernel
theorem dX4_setReversalPeriod_29 : decode cX4_setReversalPeriod 29 = .ok (.iload_n 2, 1) := by decide +kernel
theorem dX4_setReversalPeriod_30 : decode cX4_setReversalPeriod 30 = .ok (.ireturn, 1) := by decide +kernel
set_option maxRecDepth 20000 in
theorem ggX4_dry_X4_isOutside : GoodIn wsX4_dry wsX4_isOutside := goodIn_r _ [7] (by decide +kernel) (by decide +kernel)
set_option maxRecDepth 20000 in
theorem gX4_dry_X4_isOutside : GoodIn wsX4_dry (va_wsS RX4 47 yX4_isOutside wsX4_isOutside) := goodIn_app (goodIn_of _ (by decide +kernel)) ggX4_dry_X4_isOutside
set_option maxRecDepth 20000 in
theorem ggX4_dry_X4_runDryingHour : GoodIn wsX4_dry wsX4_runDryingHour := goodIn_r _ [11, 12, 2, 13, 14, 15, 16, 17, 18, 19, 20, 21, 22, 23, 24, 25, 26, 27, 28, 29, 30, 31, 32, 33, 34, 6, 35, 36, 37, 38, 39, 40, 41, 42, 43, 44, 45, 46, 47, 48, 49, 50, 51, 52, 53, 54, 55, 56, 57, 58, 59, 60, 61, 62, 63, 64, 65, 66, 67, 68, 69, 70, 71, 72, 73, 74, 75, 76, 77, 78, 79, 80, 81, 82, 83, 84, 85, 86, 87, 88, 89, 90, 91, 92, 93, 94, 95, 96, 97, 98, 105, 106, 107, 99, 100, 101, 102, 103, 104, 108, 109, 110, 111, 112, 113] (by decide +kernel) (by decide +kernel)
set_option maxRecDepth 20000 in
theorem gX4_dry_X4_runDryingHour : GoodIn wsX4_dry (wsV RX4 120 RX4 yX4_runDryingHour wsX4_runDryingHour) := goodIn_app (goodIn_of _ (by decide +kernel)) ggX4_dry_X4_runDryingHour
theorem dX4_dry_0 : decode cX4_dry 0 = .ok (.iload_n 1, 1) := by decide +kernel
theorem dX4_dry_1 : decode cX4_dry 1 = .ok (.iconst 1, 1) := by decide +kernel
theorem dX4_dry_2 : decode cX4_dry 2 = .ok (.sipush 200, 3) := by decide +kernel
theorem dX4_dry_5 : decode cX4_dry 5 = .ok (.invokestatic 47, 3) := by decide +kernel
theorem dX4_dry_8 : decode cX4_dry 8 = .ok (.ifCond .eq 6, 3) := by decide +kernel
theorem dX4_dry_11 : decode cX4_dry 11 = .ok (.ldc 51, 2) := by decide +kernel
theorem dX4_dry_13 : decode cX4_dry 13 = .ok (.ireturn, 1) := by decide +kernel
theorem dX4_dry_14 : decode cX4_dry 14 = .ok (.iconst 0, 1) := by decide +kernel
theorem dX4_dry_15 : decode cX4_dry 15 = .ok (.istore_n 2, 1) := by decide +kernel
theorem dX4_dry_16 : decode cX4_dry 16 = .ok (.iconst 0, 1) := by decide +kernel
theorem dX4_dry_17 : decode cX4_dry 17 = .ok (.istore_n 3, 1) := by decide +kernel
theorem dX4_dry_18 : decode cX4_dry 18 = .ok (.iload_n 3, 1) := by decide +kernel
theorem dX4_dry_19 : decode cX4_dry 19 = .ok (.iload_n 1, 1) := by decide +kernel
theorem dX4_dry_20 : decode cX4_dry 20 = .ok (.if_icmp .ge 23, 3) := by decide +kernel
theorem dX4_dry_23 : decode cX4_dry 23 = .ok (.iload_n 2, 1) := by decide +kernel
theorem dX4_dry_24 : decode cX4_dry 24 = .ok (.aload_n 0, 1) := by decide +kernel
theorem dX4_dry_25 : decode cX4_dry 25 = .ok (.aload_n 0, 1) := by decide +kernel
theorem dX4_dry_26 : decode cX4_dry 26 = .ok (.getfield 10, 3) := by decide +kernel
theorem dX4_dry_29 : decode cX4_dry 29 = .ok (.getfield 110, 3) := by decide +kernel
theorem dX4_dry_32 : decode cX4_dry 32 = .ok (.invokevirtual 120, 3) := by decide +kernel
theorem dX4_dry_35 : decode cX4_dry 35 = .ok (.iadd, 1) := by decide +kernel
theorem dX4_dry_36 : decode cX4_dry 36 = .ok (.istore_n 2, 1) := by decide +kernel
theorem dX4_dry_37 : decode cX4_dry 37 = .ok (.iinc 3 1, 3) := by decide +kernel
theorem dX4_dry_40 : decode cX4_dry 40 = .ok (.goto (-22), 3) := by decide +kernel
theorem dX4_dry_43 : decode cX4_dry 43 = .ok (.iload_n 2, 1) := by decide +kernel
theorem dX4_dry_44 : decode cX4_dry 44 = .ok (.ireturn, 1) := by decide +kernel
set_option maxRecDepth 20000 in
theorem ggX4_rest_X4_isOutside : GoodIn wsX4_rest wsX4_isOutside := goodIn_r _ [7] (by decide +kernel) (by decide +kernel)
set_option maxRecDepth 20000 in
theorem gX4_rest_X4_isOutside : GoodIn wsX4_rest (va_wsS RX4 47 yX4_isOutside wsX4_isOutside) := goodIn_app (goodIn_of _ (by decide +kernel)) ggX4_rest_X4_isOutside
set_option maxRecDepth 20000 in
theorem ggX4_rest_X1_passRestHour : GoodIn wsX4_rest wsX1_passRestHour := goodIn_r _ [12, 13, 14, 15, 16, 17, 18, 19, 20, 21, 22, 23, 24, 25, 26, 27, 28, 29, 30, 31, 32, 33, 34, 35, 36, 37, 38, 39, 40, 41, 42, 43, 44, 45, 46, 47, 48, 80, 81, 82, 83, 84, 85, 86, 87, 88, 89, 90, 91, 92, 93, 94] (by decide +kernel) (by decide +kernel)
set_option maxRecDepth 20000 in
theorem gX4_rest_X1_passRestHour : GoodIn wsX4_rest (wsV RX4 123 RX1 yX1_passRestHour wsX1_passRestHour) := goodIn_app (goodIn_of _ (by decide +kernel)) ggX4_rest_X1_passRestHour
set_option maxRecDepth 20000 in
theorem ggX4_rest_X4_endHour : GoodIn wsX4_rest wsX4_endHour := goodIn_r _ [52, 53, 2, 3, 54, 55, 56, 57, 11, 58, 13, 14, 59, 60, 16, 17, 18, 19, 20, 21, 22, 23, 24, 25, 26, 27, 28, 29, 30, 31, 32, 33, 34, 35, 36, 37, 38, 61, 62, 63, 42, 64, 48, 65, 66, 67, 68, 69, 70, 71, 72, 73, 74, 75, 76, 77, 78, 79, 83, 84, 85, 86, 87, 88, 80, 81, 82, 92, 93, 94, 89, 90, 91] (by decide +kernel) (by decide +kernel)
set_option maxRecDepth 20000 in
theorem gX4_rest_X4_endHour : GoodIn wsX4_rest (wsV RX4 127 RX4 yX4_endHour wsX4_endHour) := goodIn_app (goodIn_of _ (by decide +kernel)) ggX4_rest_X4_endHour
theorem dX4_rest_0 : decode cX4_rest 0 = .ok (.iload_n 1, 1) := by decide +kernel
theorem dX4_rest_1 : decode cX4_rest 1 = .ok (.iconst 1, 1) := by decide +kernel
theorem dX4_rest_2 : decode cX4_rest 2 = .ok (.sipush 200, 3) := by decide +kernel
theorem dX4_rest_5 : decode cX4_rest 5 = .ok (.invokestatic 47, 3) := by decide +kernel
theorem dX4_rest_8 : decode cX4_rest 8 = .ok (.ifCond .eq 6, 3) := by decide +kernel
theorem dX4_rest_11 : decode cX4_rest 11 = .ok (.ldc 51, 2) := by decide +kernel
theorem dX4_rest_13 : decode cX4_rest 13 = .ok (.ireturn, 1) := by decide +kernel
theorem dX4_rest_14 : decode cX4_rest 14 = .ok (.iconst 0, 1) := by decide +kernel
theorem dX4_rest_15 : decode cX4_rest 15 = .ok (.istore_n 2, 1) := by decide +kernel
theorem dX4_rest_16 : decode cX4_rest 16 = .ok (.iconst 0, 1) := by decide +kernel
theorem dX4_rest_17 : decode cX4_rest 17 = .ok (.istore_n 3, 1) := by decide +kernel
theorem dX4_rest_18 : decode cX4_rest 18 = .ok (.iload_n 3, 1) := by decide +kernel
theorem dX4_rest_19 : decode cX4_rest 19 = .ok (.iload_n 1, 1) := by decide +kernel
theorem dX4_rest_20 : decode cX4_rest 20 = .ok (.if_icmp .ge 27, 3) := by decide +kernel
theorem dX4_rest_23 : decode cX4_rest 23 = .ok (.aload_n 0, 1) := by decide +kernel
theorem dX4_rest_24 : decode cX4_rest 24 = .ok (.getfield 26, 3) := by decide +kernel
theorem dX4_rest_27 : decode cX4_rest 27 = .ok (.aload_n 0, 1) := by decide +kernel
theorem dX4_rest_28 : decode cX4_rest 28 = .ok (.getfield 10, 3) := by decide +kernel
theorem dX4_rest_31 : decode cX4_rest 31 = .ok (.invokevirtual 123, 3) := by decide +kernel
theorem dX4_rest_34 : decode cX4_rest 34 = .ok (.iload_n 2, 1) := by decide +kernel
theorem dX4_rest_35 : decode cX4_rest 35 = .ok (.aload_n 0, 1) := by decide +kernel
theorem dX4_rest_36 : decode cX4_rest 36 = .ok (.invokevirtual 127, 3) := by decide +kernel
theorem dX4_rest_39 : decode cX4_rest 39 = .ok (.iadd, 1) := by decide +kernel
theorem dX4_rest_40 : decode cX4_rest 40 = .ok (.istore_n 2, 1) := by decide +kernel
theorem dX4_rest_41 : decode cX4_rest 41 = .ok (.iinc 3 1, 3) := by decide +kernel
theorem dX4_rest_44 : decode cX4_rest 44 = .ok (.goto (-26), 3) := by decide +kernel
theorem dX4_rest_47 : decode cX4_rest 47 = .ok (.iload_n 2, 1) := by decide +kernel
theorem dX4_rest_48 : decode cX4_rest 48 = .ok (.ireturn, 1) := by decide +kernel
theorem dX4_hour_0 : decode cX4_hour 0 = .ok (.aload_n 0, 1) := by decide +kernel
theorem dX4_hour_1 : decode cX4_hour 1 = .ok (.getfield 40, 3) := by decide +kernel
theorem dX4_hour_4 : decode cX4_hour 4 = .ok (.ireturn, 1) := by decide +kernel
theorem dX4_evaporated_0 : decode cX4_evaporated 0 = .ok (.aload_n 0, 1) := by decide +kernel
theorem dX4_evaporated_1 : decode cX4_evaporated 1 = .ok (.getfield 44, 3) := by decide +kernel
theorem dX4_evaporated_4 : decode cX4_evaporated 4 = .ok (.ireturn, 1) := by decide +kernel
set_option maxRecDepth 20000 in
theorem ggX4_airMoisture_X1_has : GoodIn wsX4_airMoisture wsX1_has := goodIn_r _ [8, 9, 10, 11, 12, 13, 14, 15, 49, 50, 51, 52, 53, 54] (by decide +kernel) (by decide +kernel)
set_option maxRecDepth 20000 in
theorem gX4_airMoisture_X1_has : GoodIn wsX4_airMoisture (wsV RX4 66 RX1 yX1_has wsX1_has) := goodIn_app (goodIn_of _ (by decide +kernel)) ggX4_airMoisture_X1_has
set_option maxRecDepth 20000 in
theorem ggX4_airMoisture_X1_boardAt : GoodIn wsX4_airMoisture wsX1_boardAt := goodIn_r _ [19, 9, 20, 21, 22, 23, 13, 24, 15, 25, 26, 27, 28, 29, 30, 31, 32, 33, 34, 35, 36, 37, 49, 50, 51, 52, 53, 54] (by decide +kernel) (by decide +kernel)
set_option maxRecDepth 20000 in
theorem gX4_airMoisture_X1_boardAt : GoodIn wsX4_airMoisture (wsV RX4 71 RX1 yX1_boardAt wsX1_boardAt) := goodIn_app (goodIn_of _ (by decide +kernel)) ggX4_airMoisture_X1_boardAt
theorem dX4_airMoisture_0 : decode cX4_airMoisture 0 = .ok (.aload_n 0, 1) := by decide +kernel
theorem dX4_airMoisture_1 : decode cX4_airMoisture 1 = .ok (.getfield 26, 3) := by decide +kernel
theorem dX4_airMoisture_4 : decode cX4_airMoisture 4 = .ok (.iload_n 1, 1) := by decide +kernel
theorem dX4_airMoisture_5 : decode cX4_airMoisture 5 = .ok (.invokevirtual 66, 3) := by decide +kernel
theorem dX4_airMoisture_8 : decode cX4_airMoisture 8 = .ok (.ifCond .eq 17, 3) := by decide +kernel
theorem dX4_airMoisture_11 : decode cX4_airMoisture 11 = .ok (.aload_n 0, 1) := by decide +kernel
theorem dX4_airMoisture_12 : decode cX4_airMoisture 12 = .ok (.getfield 26, 3) := by decide +kernel
theorem dX4_airMoisture_15 : decode cX4_airMoisture 15 = .ok (.iload_n 1, 1) := by decide +kernel
theorem dX4_airMoisture_16 : decode cX4_airMoisture 16 = .ok (.invokevirtual 71, 3) := by decide +kernel
theorem dX4_airMoisture_19 : decode cX4_airMoisture 19 = .ok (.getfield 130, 3) := by decide +kernel
theorem dX4_airMoisture_22 : decode cX4_airMoisture 22 = .ok (.goto 5, 3) := by decide +kernel
theorem dX4_airMoisture_25 : decode cX4_airMoisture 25 = .ok (.ldc 70, 2) := by decide +kernel
theorem dX4_airMoisture_27 : decode cX4_airMoisture 27 = .ok (.ireturn, 1) := by decide +kernel
set_option maxRecDepth 20000 in
theorem ggX4_addStage_X4_isOutside : GoodIn wsX4_addStage wsX4_isOutside := goodIn_r _ [6] (by decide +kernel) (by decide +kernel)
set_option maxRecDepth 20000 in
theorem gX4_addStage_X4_isOutside : GoodIn wsX4_addStage (va_wsS RX4 47 yX4_isOutside wsX4_isOutside) := goodIn_app (goodIn_of _ (by decide +kernel)) ggX4_addStage_X4_isOutside
set_option maxRecDepth 20000 in
theorem ggX4_addStage_X2_append : GoodIn wsX4_addStage wsX2_append := goodIn_r _ [11, 12, 13, 14, 15, 16, 25, 26, 27] (by decide +kernel) (by decide +kernel)
set_option maxRecDepth 20000 in
theorem gX4_addStage_X2_append : GoodIn wsX4_addStage (wsV RX4 133 RX2 yX2_append wsX2_append) := goodIn_app (goodIn_of _ (by decide +kernel)) ggX4_addStage_X2_append
theorem dX4_addStage_0 : decode cX4_addStage 0 = .ok (.iload_n 1, 1) := by decide +kernel
theorem dX4_addStage_1 : decode cX4_addStage 1 = .ok (.iconst 0, 1) := by decide +kernel
theorem dX4_addStage_2 : decode cX4_addStage 2 = .ok (.sipush 2000, 3) := by decide +kernel
theorem dX4_addStage_5 : decode cX4_addStage 5 = .ok (.invokestatic 47, 3) := by decide +kernel
theorem dX4_addStage_8 : decode cX4_addStage 8 = .ok (.ifCond .ne 14, 3) := by decide +kernel
theorem dX4_addStage_11 : decode cX4_addStage 11 = .ok (.iload_n 2, 1) := by decide +kernel
theorem dX4_addStage_12 : decode cX4_addStage 12 = .ok (.iconst 0, 1) := by decide +kernel
theorem dX4_addStage_13 : decode cX4_addStage 13 = .ok (.sipush 300, 3) := by decide +kernel
theorem dX4_addStage_16 : decode cX4_addStage 16 = .ok (.invokestatic 47, 3) := by decide +kernel
theorem dX4_addStage_19 : decode cX4_addStage 19 = .ok (.ifCond .eq 6, 3) := by decide +kernel
theorem dX4_addStage_22 : decode cX4_addStage 22 = .ok (.ldc 51, 2) := by decide +kernel
theorem dX4_addStage_24 : decode cX4_addStage 24 = .ok (.ireturn, 1) := by decide +kernel
theorem dX4_addStage_25 : decode cX4_addStage 25 = .ok (.aload_n 0, 1) := by decide +kernel
theorem dX4_addStage_26 : decode cX4_addStage 26 = .ok (.getfield 19, 3) := by decide +kernel
theorem dX4_addStage_29 : decode cX4_addStage 29 = .ok (.iload_n 1, 1) := by decide +kernel
theorem dX4_addStage_30 : decode cX4_addStage 30 = .ok (.iload_n 2, 1) := by decide +kernel
theorem dX4_addStage_31 : decode cX4_addStage 31 = .ok (.invokevirtual 133, 3) := by decide +kernel
theorem dX4_addStage_34 : decode cX4_addStage 34 = .ok (.ireturn, 1) := by decide +kernel
set_option maxRecDepth 20000 in
theorem ggX4_clearStages_X2_clear : GoodIn wsX4_clearStages wsX2_clear := goodIn_r _ [6, 7, 16, 17, 18] (by decide +kernel) (by decide +kernel)
set_option maxRecDepth 20000 in
theorem gX4_clearStages_X2_clear : GoodIn wsX4_clearStages (wsV RX4 137 RX2 yX2_clear wsX2_clear) := goodIn_app (goodIn_of _ (by decide +kernel)) ggX4_clearStages_X2_clear
theorem dX4_clearStages_0 : decode cX4_clearStages 0 = .ok (.aload_n 0, 1) := by decide +kernel
theorem dX4_clearStages_1 : decode cX4_clearStages 1 = .ok (.getfield 19, 3) := by decide +kernel
theorem dX4_clearStages_4 : decode cX4_clearStages 4 = .ok (.invokevirtual 137, 3) := by decide +kernel
theorem dX4_clearStages_7 : decode cX4_clearStages 7 = .ok (.ireturn, 1) := by decide +kernel
set_option maxRecDepth 20000 in
theorem ggX4_currentStage_X1_size : GoodIn wsX4_currentStage wsX1_size := goodIn_r _ [8, 9, 10, 11, 12, 13, 14, 15, 71, 72, 73, 74, 75, 76] (by decide +kernel) (by decide +kernel)
set_option maxRecDepth 20000 in
theorem gX4_currentStage_X1_size : GoodIn wsX4_currentStage (wsV RX4 52 RX1 yX1_size wsX1_size) := goodIn_app (goodIn_of _ (by decide +kernel)) ggX4_currentStage_X1_size
set_option maxRecDepth 20000 in
theorem ggX4_currentStage_X1_greatestAverage : GoodIn wsX4_currentStage wsX1_greatestAverage := goodIn_r _ [19, 9, 20, 21, 22, 23, 24, 10, 11, 12, 13, 14, 15, 25, 26, 27, 28, 29, 30, 31, 32, 33, 34, 35, 36, 37, 38, 39, 40, 41, 42, 43, 44, 45, 46, 47, 48, 49, 50, 51, 52, 53, 54, 71, 72, 73, 74, 75, 76, 77, 78, 79] (by decide +kernel) (by decide +kernel)
set_option maxRecDepth 20000 in
theorem gX4_currentStage_X1_greatestAverage : GoodIn wsX4_currentStage (wsV RX4 141 RX1 yX1_greatestAverage wsX1_greatestAverage) := goodIn_app (goodIn_of _ (by decide +kernel)) ggX4_currentStage_X1_greatestAverage
set_option maxRecDepth 20000 in
theorem ggX4_currentStage_X2_stageFor : GoodIn wsX4_currentStage wsX2_stageFor := goodIn_r _ [59, 60, 61, 62, 80, 81, 82] (by decide +kernel) (by decide +kernel)
set_option maxRecDepth 20000 in
theorem gX4_currentStage_X2_stageFor : GoodIn wsX4_currentStage (wsV RX4 144 RX2 yX2_stageFor wsX2_stageFor) := goodIn_app (goodIn_of _ (by decide +kernel)) ggX4_currentStage_X2_stageFor
theorem dX4_currentStage_0 : decode cX4_currentStage 0 = .ok (.aload_n 0, 1) := by decide +kernel
theorem dX4_currentStage_1 : decode cX4_currentStage 1 = .ok (.getfield 26, 3) := by decide +kernel
theorem dX4_currentStage_4 : decode cX4_currentStage 4 = .ok (.invokevirtual 52, 3) := by decide +kernel
theorem dX4_currentStage_7 : decode cX4_currentStage 7 = .ok (.ifCond .ne 8, 3) := by decide +kernel
theorem dX4_currentStage_10 : decode cX4_currentStage 10 = .ok (.ldc 140, 2) := by decide +kernel
theorem dX4_currentStage_12 : decode cX4_currentStage 12 = .ok (.goto 17, 3) := by decide +kernel
theorem dX4_currentStage_15 : decode cX4_currentStage 15 = .ok (.aload_n 0, 1) := by decide +kernel
theorem dX4_currentStage_16 : decode cX4_currentStage 16 = .ok (.getfield 19, 3) := by decide +kernel
theorem dX4_currentStage_19 : decode cX4_currentStage 19 = .ok (.aload_n 0, 1) := by decide +kernel
theorem dX4_currentStage_20 : decode cX4_currentStage 20 = .ok (.getfield 26, 3) := by decide +kernel
theorem dX4_currentStage_23 : decode cX4_currentStage 23 = .ok (.invokevirtual 141, 3) := by decide +kernel
theorem dX4_currentStage_26 : decode cX4_currentStage 26 = .ok (.invokevirtual 144, 3) := by decide +kernel
theorem dX4_currentStage_29 : decode cX4_currentStage 29 = .ok (.ireturn, 1) := by decide +kernel
set_option maxRecDepth 20000 in
theorem ggX4_runSchedule_X4_isOutside : GoodIn wsX4_runSchedule wsX4_isOutside := goodIn_r _ [6] (by decide +kernel) (by decide +kernel)
set_option maxRecDepth 20000 in
theorem gX4_runSchedule_X4_isOutside : GoodIn wsX4_runSchedule (va_wsS RX4 47 yX4_isOutside wsX4_isOutside) := goodIn_app (goodIn_of _ (by decide +kernel)) ggX4_runSchedule_X4_isOutside
set_option maxRecDepth 20000 in
theorem ggX4_runSchedule_X1_isWetterThan : GoodIn wsX4_runSchedule wsX1_isWetterThan := goodIn_r _ [11, 12, 13, 14, 10, 15, 16, 17, 18, 19, 20, 21, 22, 23, 24, 25, 26, 27, 28, 29, 30, 31, 32, 33, 34, 35, 36, 37, 38, 39, 40, 41, 42, 43, 44, 45, 46, 47, 48, 49, 50, 51, 52, 53, 54, 55, 5, 56, 143, 144, 145, 146, 147, 148, 149, 150, 151] (by decide +kernel) (by decide +kernel)
set_option maxRecDepth 20000 in
theorem gX4_runSchedule_X1_isWetterThan : GoodIn wsX4_runSchedule (wsV RX4 147 RX1 yX1_isWetterThan wsX1_isWetterThan) := goodIn_app (goodIn_of _ (by decide +kernel)) ggX4_runSchedule_X1_isWetterThan
set_option maxRecDepth 20000 in
theorem ggX4_runSchedule_X4_scheduledInlet : GoodIn wsX4_runSchedule wsX4_scheduledInlet := goodIn_r _ [60, 61, 62, 63, 64, 65, 66, 5, 67, 2, 68, 69, 70, 71, 10, 72, 16, 22, 23, 24, 25, 26, 27, 73, 13, 14, 15, 17, 18, 19, 20, 21, 28, 29, 30, 31, 32, 33, 34, 35, 36, 37, 38, 39, 40, 41, 42, 43, 44, 45, 46, 47, 48, 49, 50, 51, 52, 53, 54, 55, 56, 74, 75, 76, 77, 78, 79, 80, 81, 82, 83, 84, 85, 86, 135, 136, 137, 138, 139, 140, 141, 142, 152, 153, 154, 155, 156, 157, 143, 144, 145, 146, 147, 148, 149, 150, 151, 158, 159, 160] (by decide +kernel) (by decide +kernel)
set_option maxRecDepth 20000 in
theorem gX4_runSchedule_X4_scheduledInlet : GoodIn wsX4_runSchedule (wsV RX4 150 RX4 yX4_scheduledInlet wsX4_scheduledInlet) := goodIn_app (goodIn_of _ (by decide +kernel)) ggX4_runSchedule_X4_scheduledInlet
set_option maxRecDepth 20000 in
theorem ggX4_runSchedule_X4_runDryingHour : GoodIn wsX4_runSchedule wsX4_runDryingHour := goodIn_r _ [90, 2, 62, 91, 92, 93, 94, 10, 95, 16, 96, 97, 18, 19, 20, 21, 17, 98, 22, 23, 24, 25, 26, 27, 55, 5, 56, 28, 29, 30, 31, 32, 33, 34, 35, 36, 37, 38, 39, 40, 41, 42, 43, 44, 99, 100, 101, 48, 102, 103, 50, 104, 105, 106, 107, 108, 109, 110, 111, 112, 113, 114, 115, 116, 117, 118, 119, 120, 121, 122, 123, 124, 125, 126, 127, 128, 129, 130, 131, 132, 133, 134, 135, 136, 137, 138, 139, 140, 141, 142, 143, 144, 145, 152, 153, 154, 155, 156, 157, 146, 147, 148, 149, 150, 151] (by decide +kernel) (by decide +kernel)
set_option maxRecDepth 20000 in
theorem gX4_runSchedule_X4_runDryingHour : GoodIn wsX4_runSchedule (wsV RX4 120 RX4 yX4_runDryingHour wsX4_runDryingHour) := goodIn_app (goodIn_of _ (by decide +kernel)) ggX4_runSchedule_X4_runDryingHour
theorem dX4_runSchedule_0 : decode cX4_runSchedule 0 = .ok (.iload_n 1, 1) := by decide +kernel
theorem dX4_runSchedule_1 : decode cX4_runSchedule 1 = .ok (.iconst 0, 1) := by decide +kernel
theorem dX4_runSchedule_2 : decode cX4_runSchedule 2 = .ok (.sipush 2000, 3) := by decide +kernel
theorem dX4_runSchedule_5 : decode cX4_runSchedule 5 = .ok (.invokestatic 47, 3) := by decide +kernel
theorem dX4_runSchedule_8 : decode cX4_runSchedule 8 = .ok (.ifCond .ne 14, 3) := by decide +kernel
theorem dX4_runSchedule_11 : decode cX4_runSchedule 11 = .ok (.iload_n 2, 1) := by decide +kernel
theorem dX4_runSchedule_12 : decode cX4_runSchedule 12 = .ok (.iconst 1, 1) := by decide +kernel
theorem dX4_runSchedule_13 : decode cX4_runSchedule 13 = .ok (.sipush 200, 3) := by decide +kernel
theorem dX4_runSchedule_16 : decode cX4_runSchedule 16 = .ok (.invokestatic 47, 3) := by decide +kernel
theorem dX4_runSchedule_19 : decode cX4_runSchedule 19 = .ok (.ifCond .eq 6, 3) := by decide +kernel
theorem dX4_runSchedule_22 : decode cX4_runSchedule 22 = .ok (.ldc 51, 2) := by decide +kernel
theorem dX4_runSchedule_24 : decode cX4_runSchedule 24 = .ok (.ireturn, 1) := by decide +kernel
theorem dX4_runSchedule_25 : decode cX4_runSchedule 25 = .ok (.iconst 0, 1) := by decide +kernel
theorem dX4_runSchedule_26 : decode cX4_runSchedule 26 = .ok (.istore_n 3, 1) := by decide +kernel
theorem dX4_runSchedule_27 : decode cX4_runSchedule 27 = .ok (.iload_n 3, 1) := by decide +kernel
theorem dX4_runSchedule_28 : decode cX4_runSchedule 28 = .ok (.iload_n 2, 1) := by decide +kernel
theorem dX4_runSchedule_29 : decode cX4_runSchedule 29 = .ok (.if_icmp .ge 29, 3) := by decide +kernel
theorem dX4_runSchedule_32 : decode cX4_runSchedule 32 = .ok (.aload_n 0, 1) := by decide +kernel
theorem dX4_runSchedule_33 : decode cX4_runSchedule 33 = .ok (.getfield 26, 3) := by decide +kernel
theorem dX4_runSchedule_36 : decode cX4_runSchedule 36 = .ok (.iload_n 1, 1) := by decide +kernel
theorem dX4_runSchedule_37 : decode cX4_runSchedule 37 = .ok (.invokevirtual 147, 3) := by decide +kernel
theorem dX4_runSchedule_40 : decode cX4_runSchedule 40 = .ok (.ifCond .eq 18, 3) := by decide +kernel
theorem dX4_runSchedule_43 : decode cX4_runSchedule 43 = .ok (.aload_n 0, 1) := by decide +kernel
theorem dX4_runSchedule_44 : decode cX4_runSchedule 44 = .ok (.aload_n 0, 1) := by decide +kernel
theorem dX4_runSchedule_45 : decode cX4_runSchedule 45 = .ok (.invokevirtual 150, 3) := by decide +kernel
theorem dX4_runSchedule_48 : decode cX4_runSchedule 48 = .ok (.invokevirtual 120, 3) := by decide +kernel
theorem dX4_runSchedule_51 : decode cX4_runSchedule 51 = .ok (.pop, 1) := by decide +kernel
theorem dX4_runSchedule_52 : decode cX4_runSchedule 52 = .ok (.iinc 3 1, 3) := by decide +kernel
theorem dX4_runSchedule_55 : decode cX4_runSchedule 55 = .ok (.goto (-28), 3) := by decide +kernel
theorem dX4_runSchedule_58 : decode cX4_runSchedule 58 = .ok (.iload_n 3, 1) := by decide +kernel
theorem dX4_runSchedule_59 : decode cX4_runSchedule 59 = .ok (.ireturn, 1) := by decide +kernel
set_option maxRecDepth 20000 in
theorem ggX4_plannedHours_X4_isOutside : GoodIn wsX4_plannedHours wsX4_isOutside := goodIn_r _ [5] (by decide +kernel) (by decide +kernel)
set_option maxRecDepth 20000 in
theorem gX4_plannedHours_X4_isOutside : GoodIn wsX4_plannedHours (va_wsS RX4 47 yX4_isOutside wsX4_isOutside) := goodIn_app (goodIn_of _ (by decide +kernel)) ggX4_plannedHours_X4_isOutside
set_option maxRecDepth 20000 in
theorem ggX4_plannedHours_X4_makePlan : GoodIn wsX4_plannedHours wsX4_makePlan := goodIn_r _ [9, 10, 11, 12, 13, 14, 15, 16, 17, 18, 19, 20, 21, 22, 23, 24, 25, 26, 27, 28, 29, 30, 31, 32, 33, 34, 35, 36, 37, 38, 39, 40, 41, 42, 43, 44, 45, 46, 47, 48, 49, 50, 51, 52, 53, 54, 55, 56, 57, 58, 59, 60, 61, 62, 63, 64, 65, 66, 67, 68, 69, 70, 71, 72, 73, 74, 75, 76, 77, 78, 79, 80, 81, 82, 4, 83, 84, 85, 86, 87, 88, 89, 90, 91, 92, 93, 94, 95, 96, 97, 98, 99, 100, 101, 102, 103, 104, 105, 106, 107, 108, 109, 110, 111, 112, 113, 114, 115, 116, 117, 118, 119, 120, 121, 122, 123, 124, 125, 126, 127, 128, 129, 130, 131, 132, 133, 134, 135, 136, 137, 138, 139, 140, 141, 142, 143, 144, 145, 146, 147, 148, 149, 150] (by decide +kernel) (by decide +kernel)
set_option maxRecDepth 20000 in
theorem gX4_plannedHours_X4_makePlan : GoodIn wsX4_plannedHours (wsV RX4 153 RX4 yX4_makePlan wsX4_makePlan) := goodIn_app (goodIn_of _ (by decide +kernel)) ggX4_plannedHours_X4_makePlan
theorem dX4_plannedHours_0 : decode cX4_plannedHours 0 = .ok (.iload_n 1, 1) := by decide +kernel
theorem dX4_plannedHours_1 : decode cX4_plannedHours 1 = .ok (.iconst 0, 1) := by decide +kernel
theorem dX4_plannedHours_2 : decode cX4_plannedHours 2 = .ok (.sipush 2000, 3) := by decide +kernel
theorem dX4_plannedHours_5 : decode cX4_plannedHours 5 = .ok (.invokestatic 47, 3) := by decide +kernel
theorem dX4_plannedHours_8 : decode cX4_plannedHours 8 = .ok (.ifCond .eq 8, 3) := by decide +kernel
theorem dX4_plannedHours_11 : decode cX4_plannedHours 11 = .ok (.ldc 51, 2) := by decide +kernel
theorem dX4_plannedHours_13 : decode cX4_plannedHours 13 = .ok (.goto 8, 3) := by decide +kernel
theorem dX4_plannedHours_16 : decode cX4_plannedHours 16 = .ok (.aload_n 0, 1) := by decide +kernel
theorem dX4_plannedHours_17 : decode cX4_plannedHours 17 = .ok (.iload_n 1, 1) := by decide +kernel
theorem dX4_plannedHours_18 : decode cX4_plannedHours 18 = .ok (.invokevirtual 153, 3) := by decide +kernel
theorem dX4_plannedHours_21 : decode cX4_plannedHours 21 = .ok (.ireturn, 1) := by decide +kernel
set_option maxRecDepth 20000 in
theorem ggX4_plannedInlet_X4_isOutside : GoodIn wsX4_plannedInlet wsX4_isOutside := goodIn_r _ [7] (by decide +kernel) (by decide +kernel)
set_option maxRecDepth 20000 in
theorem gX4_plannedInlet_X4_isOutside : GoodIn wsX4_plannedInlet (va_wsS RX4 47 yX4_isOutside wsX4_isOutside) := goodIn_app (goodIn_of _ (by decide +kernel)) ggX4_plannedInlet_X4_isOutside
set_option maxRecDepth 20000 in
theorem ggX4_plannedInlet_X4_makePlan : GoodIn wsX4_plannedInlet wsX4_makePlan := goodIn_r _ [11, 12, 13, 2, 14, 15, 16, 3, 17, 18, 19, 20, 21, 22, 23, 24, 25, 26, 27, 28, 29, 30, 31, 32, 33, 34, 35, 36, 37, 38, 39, 40, 41, 42, 43, 44, 45, 46, 47, 48, 49, 50, 51, 52, 53, 54, 55, 56, 57, 58, 59, 60, 61, 62, 63, 64, 65, 66, 67, 68, 69, 70, 71, 72, 73, 74, 75, 76, 77, 78, 79, 80, 81, 82, 6, 83, 84, 85, 86, 87, 88, 89, 90, 91, 92, 93, 94, 95, 96, 97, 98, 99, 100, 101, 102, 103, 104, 105, 106, 107, 108, 109, 110, 111, 112, 113, 114, 115, 116, 117, 118, 119, 120, 121, 122, 123, 124, 125, 126, 127, 128, 129, 130, 131, 132, 133, 134, 135, 136, 137, 138, 139, 140, 141, 142, 143, 144, 145, 146, 147, 148, 149, 150] (by decide +kernel) (by decide +kernel)
set_option maxRecDepth 20000 in
theorem gX4_plannedInlet_X4_makePlan : GoodIn wsX4_plannedInlet (wsV RX4 153 RX4 yX4_makePlan wsX4_makePlan) := goodIn_app (goodIn_of _ (by decide +kernel)) ggX4_plannedInlet_X4_makePlan
theorem dX4_plannedInlet_0 : decode cX4_plannedInlet 0 = .ok (.iload_n 1, 1) := by decide +kernel
theorem dX4_plannedInlet_1 : decode cX4_plannedInlet 1 = .ok (.iconst 0, 1) := by decide +kernel
theorem dX4_plannedInlet_2 : decode cX4_plannedInlet 2 = .ok (.sipush 2000, 3) := by decide +kernel
theorem dX4_plannedInlet_5 : decode cX4_plannedInlet 5 = .ok (.invokestatic 47, 3) := by decide +kernel
theorem dX4_plannedInlet_8 : decode cX4_plannedInlet 8 = .ok (.ifCond .ne 7, 3) := by decide +kernel
theorem dX4_plannedInlet_11 : decode cX4_plannedInlet 11 = .ok (.iload_n 2, 1) := by decide +kernel
theorem dX4_plannedInlet_12 : decode cX4_plannedInlet 12 = .ok (.ifCond .ge 6, 3) := by decide +kernel
theorem dX4_plannedInlet_15 : decode cX4_plannedInlet 15 = .ok (.ldc 51, 2) := by decide +kernel
theorem dX4_plannedInlet_17 : decode cX4_plannedInlet 17 = .ok (.ireturn, 1) := by decide +kernel
theorem dX4_plannedInlet_18 : decode cX4_plannedInlet 18 = .ok (.iload_n 2, 1) := by decide +kernel
theorem dX4_plannedInlet_19 : decode cX4_plannedInlet 19 = .ok (.aload_n 0, 1) := by decide +kernel
theorem dX4_plannedInlet_20 : decode cX4_plannedInlet 20 = .ok (.iload_n 1, 1) := by decide +kernel
theorem dX4_plannedInlet_21 : decode cX4_plannedInlet 21 = .ok (.invokevirtual 153, 3) := by decide +kernel
theorem dX4_plannedInlet_24 : decode cX4_plannedInlet 24 = .ok (.if_icmp .ge 21, 3) := by decide +kernel
theorem dX4_plannedInlet_27 : decode cX4_plannedInlet 27 = .ok (.iload_n 2, 1) := by decide +kernel
theorem dX4_plannedInlet_28 : decode cX4_plannedInlet 28 = .ok (.aload_n 0, 1) := by decide +kernel
theorem dX4_plannedInlet_29 : decode cX4_plannedInlet 29 = .ok (.getfield 36, 3) := by decide +kernel
theorem dX4_plannedInlet_32 : decode cX4_plannedInlet 32 = .ok (.arraylength, 1) := by decide +kernel
theorem dX4_plannedInlet_33 : decode cX4_plannedInlet 33 = .ok (.if_icmp .ge 12, 3) := by decide +kernel
theorem dX4_plannedInlet_36 : decode cX4_plannedInlet 36 = .ok (.aload_n 0, 1) := by decide +kernel
theorem dX4_plannedInlet_37 : decode cX4_plannedInlet 37 = .ok (.getfield 36, 3) := by decide +kernel
theorem dX4_plannedInlet_40 : decode cX4_plannedInlet 40 = .ok (.iload_n 2, 1) := by decide +kernel
theorem dX4_plannedInlet_41 : decode cX4_plannedInlet 41 = .ok (.iaload, 1) := by decide +kernel
theorem dX4_plannedInlet_42 : decode cX4_plannedInlet 42 = .ok (.goto 5, 3) := by decide +kernel
theorem dX4_plannedInlet_45 : decode cX4_plannedInlet 45 = .ok (.ldc 140, 2) := by decide +kernel
theorem dX4_plannedInlet_47 : decode cX4_plannedInlet 47 = .ok (.ireturn, 1) := by decide +kernel
theorem dX4_isOutside_0 : decode cX4_isOutside 0 = .ok (.iload_n 0, 1) := by decide +kernel
theorem dX4_isOutside_1 : decode cX4_isOutside 1 = .ok (.iload_n 1, 1) := by decide +kernel
theorem dX4_isOutside_2 : decode cX4_isOutside 2 = .ok (.if_icmp .lt 8, 3) := by decide +kernel
theorem dX4_isOutside_5 : decode cX4_isOutside 5 = .ok (.iload_n 0, 1) := by decide +kernel
theorem dX4_isOutside_6 : decode cX4_isOutside 6 = .ok (.iload_n 2, 1) := by decide +kernel
theorem dX4_isOutside_7 : decode cX4_isOutside 7 = .ok (.if_icmp .le 7, 3) := by decide +kernel
theorem dX4_isOutside_10 : decode cX4_isOutside 10 = .ok (.iconst 1, 1) := by decide +kernel
theorem dX4_isOutside_11 : decode cX4_isOutside 11 = .ok (.goto 4, 3) := by decide +kernel
theorem dX4_isOutside_14 : decode cX4_isOutside 14 = .ok (.iconst 0, 1) := by decide +kernel
theorem dX4_isOutside_15 : decode cX4_isOutside 15 = .ok (.ireturn, 1) := by decide +kernel
theorem dX4_quotient_0 : decode cX4_quotient 0 = .ok (.iload_n 1, 1) := by decide +kernel
theorem dX4_quotient_1 : decode cX4_quotient 1 = .ok (.ifCond .ne 7, 3) := by decide +kernel
theorem dX4_quotient_4 : decode cX4_quotient 4 = .ok (.iconst 0, 1) := by decide +kernel
theorem dX4_quotient_5 : decode cX4_quotient 5 = .ok (.goto 6, 3) := by decide +kernel
theorem dX4_quotient_8 : decode cX4_quotient 8 = .ok (.iload_n 0, 1) := by decide +kernel
theorem dX4_quotient_9 : decode cX4_quotient 9 = .ok (.iload_n 1, 1) := by decide +kernel
theorem dX4_quotient_10 : decode cX4_quotient 10 = .ok (.idiv, 1) := by decide +kernel
theorem dX4_quotient_11 : decode cX4_quotient 11 = .ok (.ireturn, 1) := by decide +kernel
set_option maxRecDepth 20000 in
theorem ggX4_runDryingHour_X1_passDryingHour : GoodIn wsX4_runDryingHour wsX1_passDryingHour := goodIn_r _ [8, 9, 10, 11, 12, 13, 14, 15, 16, 17, 18, 19, 20, 21, 22, 23, 24, 25, 26, 27, 28, 29, 30, 31, 32, 33, 34, 35, 36, 37, 38, 39, 40, 41, 42, 43, 44, 45, 46, 47, 48, 49, 50, 51, 52, 53, 54, 55, 56, 57, 58, 59, 7, 60, 61, 90, 91, 92, 93, 94, 95, 96, 97, 98, 99, 100, 101, 102, 103, 104] (by decide +kernel) (by decide +kernel)
set_option maxRecDepth 20000 in
theorem gX4_runDryingHour_X1_passDryingHour : GoodIn wsX4_runDryingHour (wsV RX4 156 RX1 yX1_passDryingHour wsX1_passDryingHour) := goodIn_app (goodIn_of _ (by decide +kernel)) ggX4_runDryingHour_X1_passDryingHour
set_option maxRecDepth 20000 in
theorem ggX4_runDryingHour_X4_endHour : GoodIn wsX4_runDryingHour wsX4_endHour := goodIn_r _ [65, 66, 1, 2, 67, 68, 69, 70, 7, 71, 9, 16, 72, 73, 18, 19, 20, 21, 22, 23, 27, 28, 29, 30, 31, 32, 33, 34, 35, 36, 37, 38, 39, 40, 41, 42, 43, 74, 75, 76, 47, 77, 50, 78, 13, 14, 15, 79, 80, 81, 82, 83, 84, 85, 86, 87, 88, 89, 93, 94, 95, 96, 97, 98, 90, 91, 92, 102, 103, 104, 99, 100, 101] (by decide +kernel) (by decide +kernel)
set_option maxRecDepth 20000 in
theorem gX4_runDryingHour_X4_endHour : GoodIn wsX4_runDryingHour (wsV RX4 127 RX4 yX4_endHour wsX4_endHour) := goodIn_app (goodIn_of _ (by decide +kernel)) ggX4_runDryingHour_X4_endHour
theorem dX4_runDryingHour_0 : decode cX4_runDryingHour 0 = .ok (.aload_n 0, 1) := by decide +kernel
theorem dX4_runDryingHour_1 : decode cX4_runDryingHour 1 = .ok (.getfield 26, 3) := by decide +kernel
theorem dX4_runDryingHour_4 : decode cX4_runDryingHour 4 = .ok (.iload_n 1, 1) := by decide +kernel
theorem dX4_runDryingHour_5 : decode cX4_runDryingHour 5 = .ok (.aload_n 0, 1) := by decide +kernel
theorem dX4_runDryingHour_6 : decode cX4_runDryingHour 6 = .ok (.getfield 10, 3) := by decide +kernel
theorem dX4_runDryingHour_9 : decode cX4_runDryingHour 9 = .ok (.invokevirtual 156, 3) := by decide +kernel
theorem dX4_runDryingHour_12 : decode cX4_runDryingHour 12 = .ok (.istore_n 2, 1) := by decide +kernel
theorem dX4_runDryingHour_13 : decode cX4_runDryingHour 13 = .ok (.aload_n 0, 1) := by decide +kernel
theorem dX4_runDryingHour_14 : decode cX4_runDryingHour 14 = .ok (.dup, 1) := by decide +kernel
theorem dX4_runDryingHour_15 : decode cX4_runDryingHour 15 = .ok (.getfield 44, 3) := by decide +kernel
theorem dX4_runDryingHour_18 : decode cX4_runDryingHour 18 = .ok (.iload_n 2, 1) := by decide +kernel
theorem dX4_runDryingHour_19 : decode cX4_runDryingHour 19 = .ok (.iadd, 1) := by decide +kernel
theorem dX4_runDryingHour_20 : decode cX4_runDryingHour 20 = .ok (.putfield 44, 3) := by decide +kernel
theorem dX4_runDryingHour_23 : decode cX4_runDryingHour 23 = .ok (.aload_n 0, 1) := by decide +kernel
theorem dX4_runDryingHour_24 : decode cX4_runDryingHour 24 = .ok (.invokevirtual 127, 3) := by decide +kernel
theorem dX4_runDryingHour_27 : decode cX4_runDryingHour 27 = .ok (.pop, 1) := by decide +kernel
theorem dX4_runDryingHour_28 : decode cX4_runDryingHour 28 = .ok (.iload_n 2, 1) := by decide +kernel
theorem dX4_runDryingHour_29 : decode cX4_runDryingHour 29 = .ok (.ireturn, 1) := by decide +kernel
set_option maxRecDepth 20000 in
theorem ggX4_endHour_X1_recordChecks : GoodIn wsX4_endHour wsX1_recordChecks := goodIn_r _ [9, 10, 11, 12, 13, 14, 15, 16, 17, 18, 19, 20, 21, 22, 23, 24, 25, 26, 27, 28, 29, 30, 31, 32, 33, 34, 35, 36, 37, 38, 39, 40, 41, 42, 43, 44, 45, 46, 47, 48, 49, 64, 65, 66, 67, 68, 69, 70, 71, 72] (by decide +kernel) (by decide +kernel)
set_option maxRecDepth 20000 in
theorem gX4_endHour_X1_recordChecks : GoodIn wsX4_endHour (wsV RX4 160 RX1 yX1_recordChecks wsX1_recordChecks) := goodIn_app (goodIn_of _ (by decide +kernel)) ggX4_endHour_X1_recordChecks
theorem dX4_endHour_0 : decode cX4_endHour 0 = .ok (.aload_n 0, 1) := by decide +kernel
theorem dX4_endHour_1 : decode cX4_endHour 1 = .ok (.dup, 1) := by decide +kernel
theorem dX4_endHour_2 : decode cX4_endHour 2 = .ok (.getfield 40, 3) := by decide +kernel
theorem dX4_endHour_5 : decode cX4_endHour 5 = .ok (.iconst 1, 1) := by decide +kernel
theorem dX4_endHour_6 : decode cX4_endHour 6 = .ok (.iadd, 1) := by decide +kernel
theorem dX4_endHour_7 : decode cX4_endHour 7 = .ok (.putfield 40, 3) := by decide +kernel
theorem dX4_endHour_10 : decode cX4_endHour 10 = .ok (.aload_n 0, 1) := by decide +kernel
theorem dX4_endHour_11 : decode cX4_endHour 11 = .ok (.getfield 26, 3) := by decide +kernel
theorem dX4_endHour_14 : decode cX4_endHour 14 = .ok (.aload_n 0, 1) := by decide +kernel
theorem dX4_endHour_15 : decode cX4_endHour 15 = .ok (.getfield 10, 3) := by decide +kernel
theorem dX4_endHour_18 : decode cX4_endHour 18 = .ok (.getfield 107, 3) := by decide +kernel
theorem dX4_endHour_21 : decode cX4_endHour 21 = .ok (.aload_n 0, 1) := by decide +kernel
theorem dX4_endHour_22 : decode cX4_endHour 22 = .ok (.getfield 40, 3) := by decide +kernel
theorem dX4_endHour_25 : decode cX4_endHour 25 = .ok (.invokevirtual 160, 3) := by decide +kernel
theorem dX4_endHour_28 : decode cX4_endHour 28 = .ok (.ireturn, 1) := by decide +kernel
set_option maxRecDepth 20000 in
theorem ggX4_scheduledInlet_X4_currentStage : GoodIn wsX4_scheduledInlet wsX4_currentStage := goodIn_r _ [8, 9, 10, 1, 11, 12, 13, 14, 15, 16, 17, 18, 19, 20, 21, 22, 23, 24, 25, 26, 27, 28, 29, 30, 31, 32, 33, 34, 35, 36, 37, 38, 39, 40, 41, 42, 43, 44, 45, 46, 47, 48, 49, 50, 51, 52, 53, 54, 55, 56, 57, 58, 59, 7, 60, 61, 62, 63, 64, 65, 66, 67, 68, 74, 75, 76, 77, 78, 79, 80, 81, 88, 89, 90, 91, 92, 93, 94, 95, 96, 97, 98, 99] (by decide +kernel) (by decide +kernel)
set_option maxRecDepth 20000 in
theorem gX4_scheduledInlet_X4_currentStage : GoodIn wsX4_scheduledInlet (wsV RX4 163 RX4 yX4_currentStage wsX4_currentStage) := goodIn_app (goodIn_of _ (by decide +kernel)) ggX4_scheduledInlet_X4_currentStage
set_option maxRecDepth 20000 in
theorem ggX4_scheduledInlet_X2_inletOf : GoodIn wsX4_scheduledInlet wsX2_inletOf := goodIn_r _ [72, 73, 97, 98, 99] (by decide +kernel) (by decide +kernel)
set_option maxRecDepth 20000 in
theorem gX4_scheduledInlet_X2_inletOf : GoodIn wsX4_scheduledInlet (wsV RX4 166 RX2 yX2_inletOf wsX2_inletOf) := goodIn_app (goodIn_of _ (by decide +kernel)) ggX4_scheduledInlet_X2_inletOf
theorem dX4_scheduledInlet_0 : decode cX4_scheduledInlet 0 = .ok (.aload_n 0, 1) := by decide +kernel
theorem dX4_scheduledInlet_1 : decode cX4_scheduledInlet 1 = .ok (.getfield 19, 3) := by decide +kernel
theorem dX4_scheduledInlet_4 : decode cX4_scheduledInlet 4 = .ok (.aload_n 0, 1) := by decide +kernel
theorem dX4_scheduledInlet_5 : decode cX4_scheduledInlet 5 = .ok (.invokevirtual 163, 3) := by decide +kernel
theorem dX4_scheduledInlet_8 : decode cX4_scheduledInlet 8 = .ok (.aload_n 0, 1) := by decide +kernel
theorem dX4_scheduledInlet_9 : decode cX4_scheduledInlet 9 = .ok (.getfield 10, 3) := by decide +kernel
theorem dX4_scheduledInlet_12 : decode cX4_scheduledInlet 12 = .ok (.getfield 110, 3) := by decide +kernel
theorem dX4_scheduledInlet_15 : decode cX4_scheduledInlet 15 = .ok (.invokevirtual 166, 3) := by decide +kernel
theorem dX4_scheduledInlet_18 : decode cX4_scheduledInlet 18 = .ok (.ireturn, 1) := by decide +kernel
set_option maxRecDepth 20000 in
theorem ggX4_makePlan_X1_copyFrom : GoodIn wsX4_makePlan wsX1_copyFrom := goodIn_r _ [12, 13, 14, 15, 16, 17, 18, 19, 20, 21, 22, 23, 24, 25, 26, 27, 28, 29, 30, 31, 32, 33, 34, 35, 36, 37, 38, 39, 40, 41, 42, 43, 44, 45, 46, 47, 48, 49, 50, 51, 52, 53, 128, 129, 130, 131, 132, 133, 134, 135, 136] (by decide +kernel) (by decide +kernel)
set_option maxRecDepth 20000 in
theorem gX4_makePlan_X1_copyFrom : GoodIn wsX4_makePlan (wsV RX4 169 RX1 yX1_copyFrom wsX1_copyFrom) := goodIn_app (goodIn_of _ (by decide +kernel)) ggX4_makePlan_X1_copyFrom
set_option maxRecDepth 20000 in
theorem ggX4_makePlan_X1_isWetterThan : GoodIn wsX4_makePlan wsX1_isWetterThan := goodIn_r _ [57, 58, 59, 60, 11, 61, 13, 14, 62, 63, 48, 64, 17, 18, 19, 20, 21, 22, 23, 24, 25, 26, 27, 28, 29, 30, 31, 32, 33, 34, 35, 36, 37, 38, 39, 65, 66, 67, 43, 68, 45, 69, 70, 71, 72, 73, 74, 75, 128, 129, 130, 131, 132, 133, 134, 135, 136] (by decide +kernel) (by decide +kernel)
set_option maxRecDepth 20000 in
theorem gX4_makePlan_X1_isWetterThan : GoodIn wsX4_makePlan (wsV RX4 147 RX1 yX1_isWetterThan wsX1_isWetterThan) := goodIn_app (goodIn_of _ (by decide +kernel)) ggX4_makePlan_X1_isWetterThan
set_option maxRecDepth 20000 in
theorem ggX4_makePlan_X4_chooseInlet : GoodIn wsX4_makePlan wsX4_chooseInlet := goodIn_r _ [79, 6, 1, 5, 80, 4, 8, 9, 10, 11, 12, 13, 14, 15, 16, 17, 18, 19, 20, 21, 22, 23, 24, 25, 26, 27, 28, 29, 30, 31, 32, 33, 34, 35, 36, 37, 38, 39, 40, 41, 42, 43, 44, 45, 46, 47, 48, 49, 50, 51, 52, 53, 81, 82, 83, 84, 85, 62, 63, 64, 86, 73, 74, 75, 87, 88, 89, 90, 91, 92, 93, 94, 95, 96, 97, 98, 99, 100, 101, 102, 103, 104, 105, 106, 107, 108, 109, 110, 120, 121, 122, 123, 124, 125, 126, 127, 137, 138, 139, 140, 141, 142, 128, 129, 130, 131, 132, 133, 134, 135, 136] (by decide +kernel) (by decide +kernel)
set_option maxRecDepth 20000 in
theorem gX4_makePlan_X4_chooseInlet : GoodIn wsX4_makePlan (wsV RX4 173 RX4 yX4_chooseInlet wsX4_chooseInlet) := goodIn_app (goodIn_of _ (by decide +kernel)) ggX4_makePlan_X4_chooseInlet
set_option maxRecDepth 20000 in
theorem ggX4_makePlan_X1_passRestHour : GoodIn wsX4_makePlan wsX1_passRestHour := goodIn_r _ [114, 13, 14, 115, 17, 18, 19, 20, 21, 22, 23, 24, 25, 26, 27, 28, 29, 30, 31, 32, 33, 34, 35, 36, 37, 38, 39, 116, 117, 118, 43, 119, 94, 95, 96, 97, 45, 128, 129, 130, 137, 138, 139, 140, 141, 142, 131, 132, 133, 134, 135, 136] (by decide +kernel) (by decide +kernel)
set_option maxRecDepth 20000 in
theorem gX4_makePlan_X1_passRestHour : GoodIn wsX4_makePlan (wsV RX4 123 RX1 yX1_passRestHour wsX1_passRestHour) := goodIn_app (goodIn_of _ (by decide +kernel)) ggX4_makePlan_X1_passRestHour
theorem dX4_makePlan_0 : decode cX4_makePlan 0 = .ok (.aload_n 0, 1) := by decide +kernel
theorem dX4_makePlan_1 : decode cX4_makePlan 1 = .ok (.getfield 30, 3) := by decide +kernel
theorem dX4_makePlan_4 : decode cX4_makePlan 4 = .ok (.aload_n 0, 1) := by decide +kernel
theorem dX4_makePlan_5 : decode cX4_makePlan 5 = .ok (.getfield 26, 3) := by decide +kernel
theorem dX4_makePlan_8 : decode cX4_makePlan 8 = .ok (.invokevirtual 169, 3) := by decide +kernel
theorem dX4_makePlan_11 : decode cX4_makePlan 11 = .ok (.iconst 0, 1) := by decide +kernel
theorem dX4_makePlan_12 : decode cX4_makePlan 12 = .ok (.istore_n 2, 1) := by decide +kernel
theorem dX4_makePlan_13 : decode cX4_makePlan 13 = .ok (.iload_n 2, 1) := by decide +kernel
theorem dX4_makePlan_14 : decode cX4_makePlan 14 = .ok (.aload_n 0, 1) := by decide +kernel
theorem dX4_makePlan_15 : decode cX4_makePlan 15 = .ok (.getfield 36, 3) := by decide +kernel
theorem dX4_makePlan_18 : decode cX4_makePlan 18 = .ok (.arraylength, 1) := by decide +kernel
theorem dX4_makePlan_19 : decode cX4_makePlan 19 = .ok (.if_icmp .ge 63, 3) := by decide +kernel
theorem dX4_makePlan_22 : decode cX4_makePlan 22 = .ok (.aload_n 0, 1) := by decide +kernel
theorem dX4_makePlan_23 : decode cX4_makePlan 23 = .ok (.getfield 30, 3) := by decide +kernel
theorem dX4_makePlan_26 : decode cX4_makePlan 26 = .ok (.iload_n 1, 1) := by decide +kernel
theorem dX4_makePlan_27 : decode cX4_makePlan 27 = .ok (.invokevirtual 147, 3) := by decide +kernel
theorem dX4_makePlan_30 : decode cX4_makePlan 30 = .ok (.ifCond .eq 52, 3) := by decide +kernel
theorem dX4_makePlan_33 : decode cX4_makePlan 33 = .ok (.aload_n 0, 1) := by decide +kernel
theorem dX4_makePlan_34 : decode cX4_makePlan 34 = .ok (.invokevirtual 173, 3) := by decide +kernel
theorem dX4_makePlan_37 : decode cX4_makePlan 37 = .ok (.istore_n 3, 1) := by decide +kernel
theorem dX4_makePlan_38 : decode cX4_makePlan 38 = .ok (.aload_n 0, 1) := by decide +kernel
theorem dX4_makePlan_39 : decode cX4_makePlan 39 = .ok (.getfield 36, 3) := by decide +kernel
theorem dX4_makePlan_42 : decode cX4_makePlan 42 = .ok (.iload_n 2, 1) := by decide +kernel
theorem dX4_makePlan_43 : decode cX4_makePlan 43 = .ok (.iload_n 3, 1) := by decide +kernel
theorem dX4_makePlan_44 : decode cX4_makePlan 44 = .ok (.iastore, 1) := by decide +kernel
theorem dX4_makePlan_45 : decode cX4_makePlan 45 = .ok (.iload_n 3, 1) := by decide +kernel
theorem dX4_makePlan_46 : decode cX4_makePlan 46 = .ok (.ldc 176, 2) := by decide +kernel
theorem dX4_makePlan_48 : decode cX4_makePlan 48 = .ok (.if_icmp .ne 17, 3) := by decide +kernel
theorem dX4_makePlan_51 : decode cX4_makePlan 51 = .ok (.aload_n 0, 1) := by decide +kernel
theorem dX4_makePlan_52 : decode cX4_makePlan 52 = .ok (.getfield 30, 3) := by decide +kernel
theorem dX4_makePlan_55 : decode cX4_makePlan 55 = .ok (.aload_n 0, 1) := by decide +kernel
theorem dX4_makePlan_56 : decode cX4_makePlan 56 = .ok (.getfield 10, 3) := by decide +kernel
theorem dX4_makePlan_59 : decode cX4_makePlan 59 = .ok (.invokevirtual 123, 3) := by decide +kernel
theorem dX4_makePlan_62 : decode cX4_makePlan 62 = .ok (.goto 14, 3) := by decide +kernel
theorem dX4_makePlan_65 : decode cX4_makePlan 65 = .ok (.aload_n 0, 1) := by decide +kernel
theorem dX4_makePlan_66 : decode cX4_makePlan 66 = .ok (.getfield 30, 3) := by decide +kernel
theorem dX4_makePlan_69 : decode cX4_makePlan 69 = .ok (.aload_n 0, 1) := by decide +kernel
theorem dX4_makePlan_70 : decode cX4_makePlan 70 = .ok (.getfield 33, 3) := by decide +kernel
theorem dX4_makePlan_73 : decode cX4_makePlan 73 = .ok (.invokevirtual 169, 3) := by decide +kernel
theorem dX4_makePlan_76 : decode cX4_makePlan 76 = .ok (.iinc 2 1, 3) := by decide +kernel
theorem dX4_makePlan_79 : decode cX4_makePlan 79 = .ok (.goto (-66), 3) := by decide +kernel
theorem dX4_makePlan_82 : decode cX4_makePlan 82 = .ok (.aload_n 0, 1) := by decide +kernel
theorem dX4_makePlan_83 : decode cX4_makePlan 83 = .ok (.getfield 30, 3) := by decide +kernel
theorem dX4_makePlan_86 : decode cX4_makePlan 86 = .ok (.iload_n 1, 1) := by decide +kernel
theorem dX4_makePlan_87 : decode cX4_makePlan 87 = .ok (.invokevirtual 147, 3) := by decide +kernel
theorem dX4_makePlan_90 : decode cX4_makePlan 90 = .ok (.ifCond .eq 8, 3) := by decide +kernel
theorem dX4_makePlan_93 : decode cX4_makePlan 93 = .ok (.ldc 140, 2) := by decide +kernel
theorem dX4_makePlan_95 : decode cX4_makePlan 95 = .ok (.goto 4, 3) := by decide +kernel
theorem dX4_makePlan_98 : decode cX4_makePlan 98 = .ok (.iload_n 2, 1) := by decide +kernel
theorem dX4_makePlan_99 : decode cX4_makePlan 99 = .ok (.ireturn, 1) := by decide +kernel
set_option maxRecDepth 20000 in
theorem ggX4_chooseInlet_X1_copyFrom : GoodIn wsX4_chooseInlet wsX1_copyFrom := goodIn_r _ [10, 11, 12, 13, 14, 15, 16, 17, 18, 19, 20, 21, 22, 23, 24, 25, 26, 27, 28, 29, 30, 31, 32, 33, 34, 35, 36, 37, 38, 39, 40, 41, 42, 43, 44, 45, 46, 47, 48, 49, 50, 51, 102, 103, 104, 105, 106, 107, 108, 109, 110] (by decide +kernel) (by decide +kernel)
set_option maxRecDepth 20000 in
theorem gX4_chooseInlet_X1_copyFrom : GoodIn wsX4_chooseInlet (wsV RX4 169 RX1 yX1_copyFrom wsX1_copyFrom) := goodIn_app (goodIn_of _ (by decide +kernel)) ggX4_chooseInlet_X1_copyFrom
set_option maxRecDepth 20000 in
theorem ggX4_chooseInlet_X1_passDryingHour : GoodIn wsX4_chooseInlet wsX1_passDryingHour := goodIn_r _ [55, 11, 13, 56, 57, 58, 46, 59, 12, 60, 15, 16, 17, 18, 19, 20, 61, 62, 63, 21, 22, 23, 24, 25, 26, 27, 28, 29, 30, 31, 32, 33, 34, 35, 36, 37, 64, 65, 66, 41, 67, 68, 43, 69, 70, 71, 72, 73, 74, 75, 76, 77, 9, 78, 14, 102, 103, 104, 96, 97, 98, 99, 100, 101, 105, 106, 107, 108, 109, 110] (by decide +kernel) (by decide +kernel)
set_option maxRecDepth 20000 in
theorem gX4_chooseInlet_X1_passDryingHour : GoodIn wsX4_chooseInlet (wsV RX4 156 RX1 yX1_passDryingHour wsX1_passDryingHour) := goodIn_app (goodIn_of _ (by decide +kernel)) ggX4_chooseInlet_X1_passDryingHour
set_option maxRecDepth 20000 in
theorem ggX4_chooseInlet_X1_greatestGradient : GoodIn wsX4_chooseInlet wsX1_greatestGradient := goodIn_r _ [82, 11, 12, 57, 58, 46, 59, 15, 16, 17, 18, 19, 20, 21, 22, 23, 24, 25, 26, 27, 28, 29, 30, 31, 32, 33, 34, 35, 36, 37, 83, 84, 85, 41, 86, 43, 87, 44, 45, 47, 102, 103, 104, 105, 106, 107, 108, 109, 110] (by decide +kernel) (by decide +kernel)
set_option maxRecDepth 20000 in
theorem gX4_chooseInlet_X1_greatestGradient : GoodIn wsX4_chooseInlet (wsV RX4 177 RX1 yX1_greatestGradient wsX1_greatestGradient) := goodIn_app (goodIn_of _ (by decide +kernel)) ggX4_chooseInlet_X1_greatestGradient
theorem dX4_chooseInlet_0 : decode cX4_chooseInlet 0 = .ok (.iconst 0, 1) := by decide +kernel
theorem dX4_chooseInlet_1 : decode cX4_chooseInlet 1 = .ok (.istore_n 1, 1) := by decide +kernel
theorem dX4_chooseInlet_2 : decode cX4_chooseInlet 2 = .ok (.iload_n 1, 1) := by decide +kernel
theorem dX4_chooseInlet_3 : decode cX4_chooseInlet 3 = .ok (.sipush 300, 3) := by decide +kernel
theorem dX4_chooseInlet_6 : decode cX4_chooseInlet 6 = .ok (.if_icmp .gt 52, 3) := by decide +kernel
theorem dX4_chooseInlet_9 : decode cX4_chooseInlet 9 = .ok (.aload_n 0, 1) := by decide +kernel
theorem dX4_chooseInlet_10 : decode cX4_chooseInlet 10 = .ok (.getfield 33, 3) := by decide +kernel
theorem dX4_chooseInlet_13 : decode cX4_chooseInlet 13 = .ok (.aload_n 0, 1) := by decide +kernel
theorem dX4_chooseInlet_14 : decode cX4_chooseInlet 14 = .ok (.getfield 30, 3) := by decide +kernel
theorem dX4_chooseInlet_17 : decode cX4_chooseInlet 17 = .ok (.invokevirtual 169, 3) := by decide +kernel
theorem dX4_chooseInlet_20 : decode cX4_chooseInlet 20 = .ok (.aload_n 0, 1) := by decide +kernel
theorem dX4_chooseInlet_21 : decode cX4_chooseInlet 21 = .ok (.getfield 33, 3) := by decide +kernel
theorem dX4_chooseInlet_24 : decode cX4_chooseInlet 24 = .ok (.iload_n 1, 1) := by decide +kernel
theorem dX4_chooseInlet_25 : decode cX4_chooseInlet 25 = .ok (.aload_n 0, 1) := by decide +kernel
theorem dX4_chooseInlet_26 : decode cX4_chooseInlet 26 = .ok (.getfield 10, 3) := by decide +kernel
theorem dX4_chooseInlet_29 : decode cX4_chooseInlet 29 = .ok (.invokevirtual 156, 3) := by decide +kernel
theorem dX4_chooseInlet_32 : decode cX4_chooseInlet 32 = .ok (.pop, 1) := by decide +kernel
theorem dX4_chooseInlet_33 : decode cX4_chooseInlet 33 = .ok (.aload_n 0, 1) := by decide +kernel
theorem dX4_chooseInlet_34 : decode cX4_chooseInlet 34 = .ok (.getfield 33, 3) := by decide +kernel
theorem dX4_chooseInlet_37 : decode cX4_chooseInlet 37 = .ok (.invokevirtual 177, 3) := by decide +kernel
theorem dX4_chooseInlet_40 : decode cX4_chooseInlet 40 = .ok (.aload_n 0, 1) := by decide +kernel
theorem dX4_chooseInlet_41 : decode cX4_chooseInlet 41 = .ok (.getfield 10, 3) := by decide +kernel
theorem dX4_chooseInlet_44 : decode cX4_chooseInlet 44 = .ok (.getfield 107, 3) := by decide +kernel
theorem dX4_chooseInlet_47 : decode cX4_chooseInlet 47 = .ok (.if_icmp .gt 5, 3) := by decide +kernel
theorem dX4_chooseInlet_50 : decode cX4_chooseInlet 50 = .ok (.iload_n 1, 1) := by decide +kernel
theorem dX4_chooseInlet_51 : decode cX4_chooseInlet 51 = .ok (.ireturn, 1) := by decide +kernel
theorem dX4_chooseInlet_52 : decode cX4_chooseInlet 52 = .ok (.iinc 1 10, 3) := by decide +kernel
theorem dX4_chooseInlet_55 : decode cX4_chooseInlet 55 = .ok (.goto (-53), 3) := by decide +kernel
theorem dX4_chooseInlet_58 : decode cX4_chooseInlet 58 = .ok (.ldc 176, 2) := by decide +kernel
theorem dX4_chooseInlet_60 : decode cX4_chooseInlet 60 = .ok (.ireturn, 1) := by decide +kernel
theorem dX5_init_0 : decode cX5_init 0 = .ok (.aload_n 0, 1) := by decide +kernel
theorem dX5_init_1 : decode cX5_init 1 = .ok (.invokespecial 1, 3) := by decide +kernel
theorem dX5_init_4 : decode cX5_init 4 = .ok (.aload_n 0, 1) := by decide +kernel
theorem dX5_init_5 : decode cX5_init 5 = .ok (.bipush 6, 2) := by decide +kernel
theorem dX5_init_7 : decode cX5_init 7 = .ok (.newarray .int, 2) := by decide +kernel
theorem dX5_init_9 : decode cX5_init 9 = .ok (.putfield 7, 3) := by decide +kernel
theorem dX5_init_12 : decode cX5_init 12 = .ok (.aload_n 0, 1) := by decide +kernel
theorem dX5_init_13 : decode cX5_init 13 = .ok (.bipush 54, 2) := by decide +kernel
theorem dX5_init_15 : decode cX5_init 15 = .ok (.newarray .int, 2) := by decide +kernel
theorem dX5_init_17 : decode cX5_init 17 = .ok (.putfield 13, 3) := by decide +kernel
theorem dX5_init_20 : decode cX5_init 20 = .ok (.aload_n 0, 1) := by decide +kernel
theorem dX5_init_21 : decode cX5_init 21 = .ok (.bipush 6, 2) := by decide +kernel
theorem dX5_init_23 : decode cX5_init 23 = .ok (.newarray .int, 2) := by decide +kernel
theorem dX5_init_25 : decode cX5_init 25 = .ok (.putfield 16, 3) := by decide +kernel
theorem dX5_init_28 : decode cX5_init 28 = .ok (.aload_n 0, 1) := by decide +kernel
theorem dX5_init_29 : decode cX5_init 29 = .ok (.bipush 6, 2) := by decide +kernel
theorem dX5_init_31 : decode cX5_init 31 = .ok (.newarray .int, 2) := by decide +kernel
theorem dX5_init_33 : decode cX5_init 33 = .ok (.putfield 19, 3) := by decide +kernel
theorem dX5_init_36 : decode cX5_init 36 = .ok (.aload_n 0, 1) := by decide +kernel
theorem dX5_init_37 : decode cX5_init 37 = .ok (.sipush 200, 3) := by decide +kernel
theorem dX5_init_40 : decode cX5_init 40 = .ok (.putfield 22, 3) := by decide +kernel
theorem dX5_init_43 : decode cX5_init 43 = .ok (.aload_n 0, 1) := by decide +kernel
theorem dX5_init_44 : decode cX5_init 44 = .ok (.bipush 50, 2) := by decide +kernel
theorem dX5_init_46 : decode cX5_init 46 = .ok (.putfield 26, 3) := by decide +kernel
theorem dX5_init_49 : decode cX5_init 49 = .ok (.aload_n 0, 1) := by decide +kernel
theorem dX5_init_50 : decode cX5_init 50 = .ok (.sipush 200, 3) := by decide +kernel
theorem dX5_init_53 : decode cX5_init 53 = .ok (.putfield 29, 3) := by decide +kernel
theorem dX5_init_56 : decode cX5_init 56 = .ok (.aload_n 0, 1) := by decide +kernel
theorem dX5_init_57 : decode cX5_init 57 = .ok (.bipush 120, 2) := by decide +kernel
theorem dX5_init_59 : decode cX5_init 59 = .ok (.putfield 32, 3) := by decide +kernel
theorem dX5_init_62 : decode cX5_init 62 = .ok (.aload_n 0, 1) := by decide +kernel
theorem dX5_init_63 : decode cX5_init 63 = .ok (.bipush 10, 2) := by decide +kernel
theorem dX5_init_65 : decode cX5_init 65 = .ok (.newarray .int, 2) := by decide +kernel
theorem dX5_init_67 : decode cX5_init 67 = .ok (.putfield 35, 3) := by decide +kernel
theorem dX5_init_70 : decode cX5_init 70 = .ok (.aload_n 0, 1) := by decide +kernel
theorem dX5_init_71 : decode cX5_init 71 = .ok (.bipush 8, 2) := by decide +kernel
theorem dX5_init_73 : decode cX5_init 73 = .ok (.newarray .int, 2) := by decide +kernel
theorem dX5_init_75 : decode cX5_init 75 = .ok (.putfield 38, 3) := by decide +kernel
theorem dX5_init_78 : decode cX5_init 78 = .ok (.aload_n 0, 1) := by decide +kernel
theorem dX5_init_79 : decode cX5_init 79 = .ok (.bipush 8, 2) := by decide +kernel
theorem dX5_init_81 : decode cX5_init 81 = .ok (.newarray .int, 2) := by decide +kernel
theorem dX5_init_83 : decode cX5_init 83 = .ok (.putfield 41, 3) := by decide +kernel
theorem dX5_init_86 : decode cX5_init 86 = .ok (.aload_n 0, 1) := by decide +kernel
theorem dX5_init_87 : decode cX5_init 87 = .ok (.bipush 54, 2) := by decide +kernel
theorem dX5_init_89 : decode cX5_init 89 = .ok (.newarray .int, 2) := by decide +kernel
theorem dX5_init_91 : decode cX5_init 91 = .ok (.putfield 44, 3) := by decide +kernel
theorem dX5_init_94 : decode cX5_init 94 = .ok (.aload_n 0, 1) := by decide +kernel
theorem dX5_init_95 : decode cX5_init 95 = .ok (.bipush 6, 2) := by decide +kernel
theorem dX5_init_97 : decode cX5_init 97 = .ok (.newarray .int, 2) := by decide +kernel
theorem dX5_init_99 : decode cX5_init 99 = .ok (.putfield 47, 3) := by decide +kernel
theorem dX5_init_102 : decode cX5_init 102 = .ok (.aload_n 0, 1) := by decide +kernel
theorem dX5_init_103 : decode cX5_init 103 = .ok (.bipush 54, 2) := by decide +kernel
theorem dX5_init_105 : decode cX5_init 105 = .ok (.newarray .int, 2) := by decide +kernel
theorem dX5_init_107 : decode cX5_init 107 = .ok (.putfield 50, 3) := by decide +kernel
theorem dX5_init_110 : decode cX5_init 110 = .ok (.aload_n 0, 1) := by decide +kernel
theorem dX5_init_111 : decode cX5_init 111 = .ok (.sipush 300, 3) := by decide +kernel
theorem dX5_init_114 : decode cX5_init 114 = .ok (.newarray .int, 2) := by decide +kernel
theorem dX5_init_116 : decode cX5_init 116 = .ok (.putfield 53, 3) := by decide +kernel
theorem dX5_init_119 : decode cX5_init 119 = .ok (.aload_n 0, 1) := by decide +kernel
theorem dX5_init_120 : decode cX5_init 120 = .ok (.bipush 100, 2) := by decide +kernel
theorem dX5_init_122 : decode cX5_init 122 = .ok (.putfield 56, 3) := by decide +kernel
theorem dX5_init_125 : decode cX5_init 125 = .ok (.return_, 1) := by decide +kernel
theorem dX5_isBetween_0 : decode cX5_isBetween 0 = .ok (.iload_n 0, 1) := by decide +kernel
theorem dX5_isBetween_1 : decode cX5_isBetween 1 = .ok (.iload_n 1, 1) := by decide +kernel
theorem dX5_isBetween_2 : decode cX5_isBetween 2 = .ok (.if_icmp .lt 12, 3) := by decide +kernel
theorem dX5_isBetween_5 : decode cX5_isBetween 5 = .ok (.iload_n 0, 1) := by decide +kernel
theorem dX5_isBetween_6 : decode cX5_isBetween 6 = .ok (.iload_n 2, 1) := by decide +kernel
theorem dX5_isBetween_7 : decode cX5_isBetween 7 = .ok (.if_icmp .gt 7, 3) := by decide +kernel
theorem dX5_isBetween_10 : decode cX5_isBetween 10 = .ok (.iconst 1, 1) := by decide +kernel
theorem dX5_isBetween_11 : decode cX5_isBetween 11 = .ok (.goto 4, 3) := by decide +kernel
theorem dX5_isBetween_14 : decode cX5_isBetween 14 = .ok (.iconst 0, 1) := by decide +kernel
theorem dX5_isBetween_15 : decode cX5_isBetween 15 = .ok (.ireturn, 1) := by decide +kernel
set_option maxRecDepth 20000 in
theorem ggX5_isBoard_X5_isBetween : GoodIn wsX5_isBoard wsX5_isBetween := goodIn_r _ [5] (by decide +kernel) (by decide +kernel)
set_option maxRecDepth 20000 in
theorem gX5_isBoard_X5_isBetween : GoodIn wsX5_isBoard (va_wsS RX5 62 yX5_isBetween wsX5_isBetween) := goodIn_app (goodIn_of _ (by decide +kernel)) ggX5_isBoard_X5_isBetween
theorem dX5_isBoard_0 : decode cX5_isBoard 0 = .ok (.iload_n 1, 1) := by decide +kernel
theorem dX5_isBoard_1 : decode cX5_isBoard 1 = .ok (.iconst 0, 1) := by decide +kernel
theorem dX5_isBoard_2 : decode cX5_isBoard 2 = .ok (.aload_n 0, 1) := by decide +kernel
theorem dX5_isBoard_3 : decode cX5_isBoard 3 = .ok (.getfield 59, 3) := by decide +kernel
theorem dX5_isBoard_6 : decode cX5_isBoard 6 = .ok (.iconst 1, 1) := by decide +kernel
theorem dX5_isBoard_7 : decode cX5_isBoard 7 = .ok (.isub, 1) := by decide +kernel
theorem dX5_isBoard_8 : decode cX5_isBoard 8 = .ok (.invokestatic 62, 3) := by decide +kernel
theorem dX5_isBoard_11 : decode cX5_isBoard 11 = .ok (.ireturn, 1) := by decide +kernel
set_option maxRecDepth 20000 in
theorem ggX5_addBoard_X5_isBetween : GoodIn wsX5_addBoard wsX5_isBetween := goodIn_r _ [12] (by decide +kernel) (by decide +kernel)
set_option maxRecDepth 20000 in
theorem gX5_addBoard_X5_isBetween : GoodIn wsX5_addBoard (va_wsS RX5 62 yX5_isBetween wsX5_isBetween) := goodIn_app (goodIn_of _ (by decide +kernel)) ggX5_addBoard_X5_isBetween
theorem dX5_addBoard_0 : decode cX5_addBoard 0 = .ok (.iload_n 1, 1) := by decide +kernel
theorem dX5_addBoard_1 : decode cX5_addBoard 1 = .ok (.iconst 3, 1) := by decide +kernel
theorem dX5_addBoard_2 : decode cX5_addBoard 2 = .ok (.bipush 9, 2) := by decide +kernel
theorem dX5_addBoard_4 : decode cX5_addBoard 4 = .ok (.invokestatic 62, 3) := by decide +kernel
theorem dX5_addBoard_7 : decode cX5_addBoard 7 = .ok (.ifCond .eq 14, 3) := by decide +kernel
theorem dX5_addBoard_10 : decode cX5_addBoard 10 = .ok (.iload_n 2, 1) := by decide +kernel
theorem dX5_addBoard_11 : decode cX5_addBoard 11 = .ok (.iconst 0, 1) := by decide +kernel
theorem dX5_addBoard_12 : decode cX5_addBoard 12 = .ok (.sipush 2000, 3) := by decide +kernel
theorem dX5_addBoard_15 : decode cX5_addBoard 15 = .ok (.invokestatic 62, 3) := by decide +kernel
theorem dX5_addBoard_18 : decode cX5_addBoard 18 = .ok (.ifCond .ne 6, 3) := by decide +kernel
theorem dX5_addBoard_21 : decode cX5_addBoard 21 = .ok (.ldc 66, 2) := by decide +kernel
theorem dX5_addBoard_23 : decode cX5_addBoard 23 = .ok (.ireturn, 1) := by decide +kernel
theorem dX5_addBoard_24 : decode cX5_addBoard 24 = .ok (.aload_n 0, 1) := by decide +kernel
theorem dX5_addBoard_25 : decode cX5_addBoard 25 = .ok (.getfield 59, 3) := by decide +kernel
theorem dX5_addBoard_28 : decode cX5_addBoard 28 = .ok (.bipush 6, 2) := by decide +kernel
theorem dX5_addBoard_30 : decode cX5_addBoard 30 = .ok (.if_icmp .ne 6, 3) := by decide +kernel
theorem dX5_addBoard_33 : decode cX5_addBoard 33 = .ok (.ldc 67, 2) := by decide +kernel
theorem dX5_addBoard_35 : decode cX5_addBoard 35 = .ok (.ireturn, 1) := by decide +kernel
theorem dX5_addBoard_36 : decode cX5_addBoard 36 = .ok (.aload_n 0, 1) := by decide +kernel
theorem dX5_addBoard_37 : decode cX5_addBoard 37 = .ok (.getfield 7, 3) := by decide +kernel
theorem dX5_addBoard_40 : decode cX5_addBoard 40 = .ok (.aload_n 0, 1) := by decide +kernel
theorem dX5_addBoard_41 : decode cX5_addBoard 41 = .ok (.getfield 59, 3) := by decide +kernel
theorem dX5_addBoard_44 : decode cX5_addBoard 44 = .ok (.iload_n 1, 1) := by decide +kernel
theorem dX5_addBoard_45 : decode cX5_addBoard 45 = .ok (.iastore, 1) := by decide +kernel
theorem dX5_addBoard_46 : decode cX5_addBoard 46 = .ok (.aload_n 0, 1) := by decide +kernel
theorem dX5_addBoard_47 : decode cX5_addBoard 47 = .ok (.getfield 16, 3) := by decide +kernel
theorem dX5_addBoard_50 : decode cX5_addBoard 50 = .ok (.aload_n 0, 1) := by decide +kernel
theorem dX5_addBoard_51 : decode cX5_addBoard 51 = .ok (.getfield 59, 3) := by decide +kernel
theorem dX5_addBoard_54 : decode cX5_addBoard 54 = .ok (.ldc 68, 2) := by decide +kernel
theorem dX5_addBoard_56 : decode cX5_addBoard 56 = .ok (.iastore, 1) := by decide +kernel
theorem dX5_addBoard_57 : decode cX5_addBoard 57 = .ok (.aload_n 0, 1) := by decide +kernel
theorem dX5_addBoard_58 : decode cX5_addBoard 58 = .ok (.getfield 19, 3) := by decide +kernel
theorem dX5_addBoard_61 : decode cX5_addBoard 61 = .ok (.aload_n 0, 1) := by decide +kernel
theorem dX5_addBoard_62 : decode cX5_addBoard 62 = .ok (.getfield 59, 3) := by decide +kernel
theorem dX5_addBoard_65 : decode cX5_addBoard 65 = .ok (.ldc 68, 2) := by decide +kernel
theorem dX5_addBoard_67 : decode cX5_addBoard 67 = .ok (.iastore, 1) := by decide +kernel
theorem dX5_addBoard_68 : decode cX5_addBoard 68 = .ok (.iconst 0, 1) := by decide +kernel
theorem dX5_addBoard_69 : decode cX5_addBoard 69 = .ok (.istore_n 3, 1) := by decide +kernel
theorem dX5_addBoard_70 : decode cX5_addBoard 70 = .ok (.iload_n 3, 1) := by decide +kernel
theorem dX5_addBoard_71 : decode cX5_addBoard 71 = .ok (.iload_n 1, 1) := by decide +kernel
theorem dX5_addBoard_72 : decode cX5_addBoard 72 = .ok (.if_icmp .ge 24, 3) := by decide +kernel
theorem dX5_addBoard_75 : decode cX5_addBoard 75 = .ok (.aload_n 0, 1) := by decide +kernel
theorem dX5_addBoard_76 : decode cX5_addBoard 76 = .ok (.getfield 13, 3) := by decide +kernel
theorem dX5_addBoard_79 : decode cX5_addBoard 79 = .ok (.bipush 9, 2) := by decide +kernel
theorem dX5_addBoard_81 : decode cX5_addBoard 81 = .ok (.aload_n 0, 1) := by decide +kernel
theorem dX5_addBoard_82 : decode cX5_addBoard 82 = .ok (.getfield 59, 3) := by decide +kernel
theorem dX5_addBoard_85 : decode cX5_addBoard 85 = .ok (.imul, 1) := by decide +kernel
theorem dX5_addBoard_86 : decode cX5_addBoard 86 = .ok (.iload_n 3, 1) := by decide +kernel
theorem dX5_addBoard_87 : decode cX5_addBoard 87 = .ok (.iadd, 1) := by decide +kernel
theorem dX5_addBoard_88 : decode cX5_addBoard 88 = .ok (.iload_n 2, 1) := by decide +kernel
theorem dX5_addBoard_89 : decode cX5_addBoard 89 = .ok (.iastore, 1) := by decide +kernel
theorem dX5_addBoard_90 : decode cX5_addBoard 90 = .ok (.iinc 3 1, 3) := by decide +kernel
theorem dX5_addBoard_93 : decode cX5_addBoard 93 = .ok (.goto (-23), 3) := by decide +kernel
theorem dX5_addBoard_96 : decode cX5_addBoard 96 = .ok (.aload_n 0, 1) := by decide +kernel
theorem dX5_addBoard_97 : decode cX5_addBoard 97 = .ok (.dup, 1) := by decide +kernel
theorem dX5_addBoard_98 : decode cX5_addBoard 98 = .ok (.getfield 59, 3) := by decide +kernel
theorem dX5_addBoard_101 : decode cX5_addBoard 101 = .ok (.iconst 1, 1) := by decide +kernel
theorem dX5_addBoard_102 : decode cX5_addBoard 102 = .ok (.iadd, 1) := by decide +kernel
theorem dX5_addBoard_103 : decode cX5_addBoard 103 = .ok (.putfield 59, 3) := by decide +kernel
theorem dX5_addBoard_106 : decode cX5_addBoard 106 = .ok (.aload_n 0, 1) := by decide +kernel
theorem dX5_addBoard_107 : decode cX5_addBoard 107 = .ok (.getfield 59, 3) := by decide +kernel
theorem dX5_addBoard_110 : decode cX5_addBoard 110 = .ok (.iconst 1, 1) := by decide +kernel
theorem dX5_addBoard_111 : decode cX5_addBoard 111 = .ok (.isub, 1) := by decide +kernel
theorem dX5_addBoard_112 : decode cX5_addBoard 112 = .ok (.ireturn, 1) := by decide +kernel
set_option maxRecDepth 20000 in
theorem ggX5_checkLayer_X5_isBoard : GoodIn wsX5_checkLayer wsX5_isBoard := goodIn_r _ [8, 9, 10, 11, 7, 12, 13, 14, 15, 16, 17, 18, 19, 20, 21, 22, 23, 24, 25, 26, 27, 28, 29, 30, 31, 32, 33, 34, 35, 36] (by decide +kernel) (by decide +kernel)
set_option maxRecDepth 20000 in
theorem gX5_checkLayer_X5_isBoard : GoodIn wsX5_checkLayer (wsV RX5 69 RX5 yX5_isBoard wsX5_isBoard) := goodIn_app (goodIn_of _ (by decide +kernel)) ggX5_checkLayer_X5_isBoard
set_option maxRecDepth 20000 in
theorem ggX5_checkLayer_X5_isBetween : GoodIn wsX5_checkLayer wsX5_isBetween := goodIn_r _ [12] (by decide +kernel) (by decide +kernel)
set_option maxRecDepth 20000 in
theorem gX5_checkLayer_X5_isBetween : GoodIn wsX5_checkLayer (va_wsS RX5 62 yX5_isBetween wsX5_isBetween) := goodIn_app (goodIn_of _ (by decide +kernel)) ggX5_checkLayer_X5_isBetween
theorem dX5_checkLayer_0 : decode cX5_checkLayer 0 = .ok (.aload_n 0, 1) := by decide +kernel
theorem dX5_checkLayer_1 : decode cX5_checkLayer 1 = .ok (.iload_n 1, 1) := by decide +kernel
theorem dX5_checkLayer_2 : decode cX5_checkLayer 2 = .ok (.invokevirtual 69, 3) := by decide +kernel
theorem dX5_checkLayer_5 : decode cX5_checkLayer 5 = .ok (.ifCond .ne 8, 3) := by decide +kernel
theorem dX5_checkLayer_8 : decode cX5_checkLayer 8 = .ok (.ldc 73, 2) := by decide +kernel
theorem dX5_checkLayer_10 : decode cX5_checkLayer 10 = .ok (.goto 25, 3) := by decide +kernel
theorem dX5_checkLayer_13 : decode cX5_checkLayer 13 = .ok (.iload_n 2, 1) := by decide +kernel
theorem dX5_checkLayer_14 : decode cX5_checkLayer 14 = .ok (.iconst 0, 1) := by decide +kernel
theorem dX5_checkLayer_15 : decode cX5_checkLayer 15 = .ok (.aload_n 0, 1) := by decide +kernel
theorem dX5_checkLayer_16 : decode cX5_checkLayer 16 = .ok (.getfield 7, 3) := by decide +kernel
theorem dX5_checkLayer_19 : decode cX5_checkLayer 19 = .ok (.iload_n 1, 1) := by decide +kernel
theorem dX5_checkLayer_20 : decode cX5_checkLayer 20 = .ok (.iaload, 1) := by decide +kernel
theorem dX5_checkLayer_21 : decode cX5_checkLayer 21 = .ok (.iconst 1, 1) := by decide +kernel
theorem dX5_checkLayer_22 : decode cX5_checkLayer 22 = .ok (.isub, 1) := by decide +kernel
theorem dX5_checkLayer_23 : decode cX5_checkLayer 23 = .ok (.invokestatic 62, 3) := by decide +kernel
theorem dX5_checkLayer_26 : decode cX5_checkLayer 26 = .ok (.ifCond .eq 7, 3) := by decide +kernel
theorem dX5_checkLayer_29 : decode cX5_checkLayer 29 = .ok (.iconst 0, 1) := by decide +kernel
theorem dX5_checkLayer_30 : decode cX5_checkLayer 30 = .ok (.goto 5, 3) := by decide +kernel
theorem dX5_checkLayer_33 : decode cX5_checkLayer 33 = .ok (.ldc 74, 2) := by decide +kernel
theorem dX5_checkLayer_35 : decode cX5_checkLayer 35 = .ok (.ireturn, 1) := by decide +kernel
set_option maxRecDepth 20000 in
theorem ggX5_setLayer_X5_checkLayer : GoodIn wsX5_setLayer wsX5_checkLayer := goodIn_r _ [7, 8, 9, 10, 11, 12, 13, 6, 14, 15, 16, 17, 18, 19, 20, 21, 22, 23, 24, 25, 26, 27, 28, 29, 30, 31, 32, 33, 34, 35, 36, 37, 38, 39, 40, 41, 42] (by decide +kernel) (by decide +kernel)
set_option maxRecDepth 20000 in
theorem gX5_setLayer_X5_checkLayer : GoodIn wsX5_setLayer (wsV RX5 75 RX5 yX5_checkLayer wsX5_checkLayer) := goodIn_app (goodIn_of _ (by decide +kernel)) ggX5_setLayer_X5_checkLayer
set_option maxRecDepth 20000 in
theorem ggX5_setLayer_X5_isBetween : GoodIn wsX5_setLayer wsX5_isBetween := goodIn_r _ [18] (by decide +kernel) (by decide +kernel)
set_option maxRecDepth 20000 in
theorem gX5_setLayer_X5_isBetween : GoodIn wsX5_setLayer (va_wsS RX5 62 yX5_isBetween wsX5_isBetween) := goodIn_app (goodIn_of _ (by decide +kernel)) ggX5_setLayer_X5_isBetween
theorem dX5_setLayer_0 : decode cX5_setLayer 0 = .ok (.aload_n 0, 1) := by decide +kernel
theorem dX5_setLayer_1 : decode cX5_setLayer 1 = .ok (.iload_n 1, 1) := by decide +kernel
theorem dX5_setLayer_2 : decode cX5_setLayer 2 = .ok (.iload_n 2, 1) := by decide +kernel
theorem dX5_setLayer_3 : decode cX5_setLayer 3 = .ok (.invokevirtual 75, 3) := by decide +kernel
theorem dX5_setLayer_6 : decode cX5_setLayer 6 = .ok (.istore 4, 2) := by decide +kernel
theorem dX5_setLayer_8 : decode cX5_setLayer 8 = .ok (.iload 4, 2) := by decide +kernel
theorem dX5_setLayer_10 : decode cX5_setLayer 10 = .ok (.ifCond .ge 6, 3) := by decide +kernel
theorem dX5_setLayer_13 : decode cX5_setLayer 13 = .ok (.iload 4, 2) := by decide +kernel
theorem dX5_setLayer_15 : decode cX5_setLayer 15 = .ok (.ireturn, 1) := by decide +kernel
theorem dX5_setLayer_16 : decode cX5_setLayer 16 = .ok (.iload_n 3, 1) := by decide +kernel
theorem dX5_setLayer_17 : decode cX5_setLayer 17 = .ok (.iconst 0, 1) := by decide +kernel
theorem dX5_setLayer_18 : decode cX5_setLayer 18 = .ok (.sipush 2000, 3) := by decide +kernel
theorem dX5_setLayer_21 : decode cX5_setLayer 21 = .ok (.invokestatic 62, 3) := by decide +kernel
theorem dX5_setLayer_24 : decode cX5_setLayer 24 = .ok (.ifCond .ne 6, 3) := by decide +kernel
theorem dX5_setLayer_27 : decode cX5_setLayer 27 = .ok (.ldc 66, 2) := by decide +kernel
theorem dX5_setLayer_29 : decode cX5_setLayer 29 = .ok (.ireturn, 1) := by decide +kernel
theorem dX5_setLayer_30 : decode cX5_setLayer 30 = .ok (.aload_n 0, 1) := by decide +kernel
theorem dX5_setLayer_31 : decode cX5_setLayer 31 = .ok (.getfield 13, 3) := by decide +kernel
theorem dX5_setLayer_34 : decode cX5_setLayer 34 = .ok (.bipush 9, 2) := by decide +kernel
theorem dX5_setLayer_36 : decode cX5_setLayer 36 = .ok (.iload_n 1, 1) := by decide +kernel
theorem dX5_setLayer_37 : decode cX5_setLayer 37 = .ok (.imul, 1) := by decide +kernel
theorem dX5_setLayer_38 : decode cX5_setLayer 38 = .ok (.iload_n 2, 1) := by decide +kernel
theorem dX5_setLayer_39 : decode cX5_setLayer 39 = .ok (.iadd, 1) := by decide +kernel
theorem dX5_setLayer_40 : decode cX5_setLayer 40 = .ok (.iaload, 1) := by decide +kernel
theorem dX5_setLayer_41 : decode cX5_setLayer 41 = .ok (.istore 5, 2) := by decide +kernel
theorem dX5_setLayer_43 : decode cX5_setLayer 43 = .ok (.aload_n 0, 1) := by decide +kernel
theorem dX5_setLayer_44 : decode cX5_setLayer 44 = .ok (.getfield 13, 3) := by decide +kernel
theorem dX5_setLayer_47 : decode cX5_setLayer 47 = .ok (.bipush 9, 2) := by decide +kernel
theorem dX5_setLayer_49 : decode cX5_setLayer 49 = .ok (.iload_n 1, 1) := by decide +kernel
theorem dX5_setLayer_50 : decode cX5_setLayer 50 = .ok (.imul, 1) := by decide +kernel
theorem dX5_setLayer_51 : decode cX5_setLayer 51 = .ok (.iload_n 2, 1) := by decide +kernel
theorem dX5_setLayer_52 : decode cX5_setLayer 52 = .ok (.iadd, 1) := by decide +kernel
theorem dX5_setLayer_53 : decode cX5_setLayer 53 = .ok (.iload_n 3, 1) := by decide +kernel
theorem dX5_setLayer_54 : decode cX5_setLayer 54 = .ok (.iastore, 1) := by decide +kernel
theorem dX5_setLayer_55 : decode cX5_setLayer 55 = .ok (.iload 5, 2) := by decide +kernel
theorem dX5_setLayer_57 : decode cX5_setLayer 57 = .ok (.ireturn, 1) := by decide +kernel
set_option maxRecDepth 20000 in
theorem ggX5_layerMoisture_X5_checkLayer : GoodIn wsX5_layerMoisture wsX5_checkLayer := goodIn_r _ [6, 7, 8, 9, 10, 11, 12, 5, 13, 14, 15, 16, 17, 18, 19, 20, 21, 22, 23, 24, 25, 26, 27, 28, 29, 30, 31, 32, 33, 34, 35, 36, 37, 38, 39, 40, 41] (by decide +kernel) (by decide +kernel)
set_option maxRecDepth 20000 in
theorem gX5_layerMoisture_X5_checkLayer : GoodIn wsX5_layerMoisture (wsV RX5 75 RX5 yX5_checkLayer wsX5_checkLayer) := goodIn_app (goodIn_of _ (by decide +kernel)) ggX5_layerMoisture_X5_checkLayer
theorem dX5_layerMoisture_0 : decode cX5_layerMoisture 0 = .ok (.aload_n 0, 1) := by decide +kernel
theorem dX5_layerMoisture_1 : decode cX5_layerMoisture 1 = .ok (.iload_n 1, 1) := by decide +kernel
theorem dX5_layerMoisture_2 : decode cX5_layerMoisture 2 = .ok (.iload_n 2, 1) := by decide +kernel
theorem dX5_layerMoisture_3 : decode cX5_layerMoisture 3 = .ok (.invokevirtual 75, 3) := by decide +kernel
theorem dX5_layerMoisture_6 : decode cX5_layerMoisture 6 = .ok (.istore_n 3, 1) := by decide +kernel
theorem dX5_layerMoisture_7 : decode cX5_layerMoisture 7 = .ok (.iload_n 3, 1) := by decide +kernel
theorem dX5_layerMoisture_8 : decode cX5_layerMoisture 8 = .ok (.ifCond .ge 7, 3) := by decide +kernel
theorem dX5_layerMoisture_11 : decode cX5_layerMoisture 11 = .ok (.iload_n 3, 1) := by decide +kernel
theorem dX5_layerMoisture_12 : decode cX5_layerMoisture 12 = .ok (.goto 14, 3) := by decide +kernel
theorem dX5_layerMoisture_15 : decode cX5_layerMoisture 15 = .ok (.aload_n 0, 1) := by decide +kernel
theorem dX5_layerMoisture_16 : decode cX5_layerMoisture 16 = .ok (.getfield 13, 3) := by decide +kernel
theorem dX5_layerMoisture_19 : decode cX5_layerMoisture 19 = .ok (.bipush 9, 2) := by decide +kernel
theorem dX5_layerMoisture_21 : decode cX5_layerMoisture 21 = .ok (.iload_n 1, 1) := by decide +kernel
theorem dX5_layerMoisture_22 : decode cX5_layerMoisture 22 = .ok (.imul, 1) := by decide +kernel
theorem dX5_layerMoisture_23 : decode cX5_layerMoisture 23 = .ok (.iload_n 2, 1) := by decide +kernel
theorem dX5_layerMoisture_24 : decode cX5_layerMoisture 24 = .ok (.iadd, 1) := by decide +kernel
theorem dX5_layerMoisture_25 : decode cX5_layerMoisture 25 = .ok (.iaload, 1) := by decide +kernel
theorem dX5_layerMoisture_26 : decode cX5_layerMoisture 26 = .ok (.ireturn, 1) := by decide +kernel
theorem dX5_sumOf_0 : decode cX5_sumOf 0 = .ok (.iconst 0, 1) := by decide +kernel
theorem dX5_sumOf_1 : decode cX5_sumOf 1 = .ok (.istore_n 2, 1) := by decide +kernel
theorem dX5_sumOf_2 : decode cX5_sumOf 2 = .ok (.iconst 0, 1) := by decide +kernel
theorem dX5_sumOf_3 : decode cX5_sumOf 3 = .ok (.istore_n 3, 1) := by decide +kernel
theorem dX5_sumOf_4 : decode cX5_sumOf 4 = .ok (.iload_n 3, 1) := by decide +kernel
theorem dX5_sumOf_5 : decode cX5_sumOf 5 = .ok (.aload_n 0, 1) := by decide +kernel
theorem dX5_sumOf_6 : decode cX5_sumOf 6 = .ok (.getfield 7, 3) := by decide +kernel
theorem dX5_sumOf_9 : decode cX5_sumOf 9 = .ok (.iload_n 1, 1) := by decide +kernel
theorem dX5_sumOf_10 : decode cX5_sumOf 10 = .ok (.iaload, 1) := by decide +kernel
theorem dX5_sumOf_11 : decode cX5_sumOf 11 = .ok (.if_icmp .ge 23, 3) := by decide +kernel
theorem dX5_sumOf_14 : decode cX5_sumOf 14 = .ok (.iload_n 2, 1) := by decide +kernel
theorem dX5_sumOf_15 : decode cX5_sumOf 15 = .ok (.aload_n 0, 1) := by decide +kernel
theorem dX5_sumOf_16 : decode cX5_sumOf 16 = .ok (.getfield 13, 3) := by decide +kernel
theorem dX5_sumOf_19 : decode cX5_sumOf 19 = .ok (.bipush 9, 2) := by decide +kernel
theorem dX5_sumOf_21 : decode cX5_sumOf 21 = .ok (.iload_n 1, 1) := by decide +kernel
theorem dX5_sumOf_22 : decode cX5_sumOf 22 = .ok (.imul, 1) := by decide +kernel
theorem dX5_sumOf_23 : decode cX5_sumOf 23 = .ok (.iload_n 3, 1) := by decide +kernel
theorem dX5_sumOf_24 : decode cX5_sumOf 24 = .ok (.iadd, 1) := by decide +kernel
theorem dX5_sumOf_25 : decode cX5_sumOf 25 = .ok (.iaload, 1) := by decide +kernel
theorem dX5_sumOf_26 : decode cX5_sumOf 26 = .ok (.iadd, 1) := by decide +kernel
theorem dX5_sumOf_27 : decode cX5_sumOf 27 = .ok (.istore_n 2, 1) := by decide +kernel
theorem dX5_sumOf_28 : decode cX5_sumOf 28 = .ok (.iinc 3 1, 3) := by decide +kernel
theorem dX5_sumOf_31 : decode cX5_sumOf 31 = .ok (.goto (-27), 3) := by decide +kernel
theorem dX5_sumOf_34 : decode cX5_sumOf 34 = .ok (.iload_n 2, 1) := by decide +kernel
theorem dX5_sumOf_35 : decode cX5_sumOf 35 = .ok (.ireturn, 1) := by decide +kernel
set_option maxRecDepth 20000 in
theorem ggX5_averageOf_X5_sumOf : GoodIn wsX5_averageOf wsX5_sumOf := goodIn_r _ [6, 1, 7, 8, 9, 10, 11, 12, 13, 14, 15, 16, 17, 18, 19, 20, 21, 22, 23, 24, 25, 26, 27, 28, 29, 30, 31] (by decide +kernel) (by decide +kernel)
set_option maxRecDepth 20000 in
theorem gX5_averageOf_X5_sumOf : GoodIn wsX5_averageOf (wsV RX5 79 RX5 yX5_sumOf wsX5_sumOf) := goodIn_app (goodIn_of _ (by decide +kernel)) ggX5_averageOf_X5_sumOf
theorem dX5_averageOf_0 : decode cX5_averageOf 0 = .ok (.aload_n 0, 1) := by decide +kernel
theorem dX5_averageOf_1 : decode cX5_averageOf 1 = .ok (.iload_n 1, 1) := by decide +kernel
theorem dX5_averageOf_2 : decode cX5_averageOf 2 = .ok (.invokevirtual 79, 3) := by decide +kernel
theorem dX5_averageOf_5 : decode cX5_averageOf 5 = .ok (.aload_n 0, 1) := by decide +kernel
theorem dX5_averageOf_6 : decode cX5_averageOf 6 = .ok (.getfield 7, 3) := by decide +kernel
theorem dX5_averageOf_9 : decode cX5_averageOf 9 = .ok (.iload_n 1, 1) := by decide +kernel
theorem dX5_averageOf_10 : decode cX5_averageOf 10 = .ok (.iaload, 1) := by decide +kernel
theorem dX5_averageOf_11 : decode cX5_averageOf 11 = .ok (.idiv, 1) := by decide +kernel
theorem dX5_averageOf_12 : decode cX5_averageOf 12 = .ok (.ireturn, 1) := by decide +kernel
theorem dX5_strainOf_0 : decode cX5_strainOf 0 = .ok (.iconst 0, 1) := by decide +kernel
theorem dX5_strainOf_1 : decode cX5_strainOf 1 = .ok (.istore_n 2, 1) := by decide +kernel
theorem dX5_strainOf_2 : decode cX5_strainOf 2 = .ok (.iconst 0, 1) := by decide +kernel
theorem dX5_strainOf_3 : decode cX5_strainOf 3 = .ok (.istore_n 3, 1) := by decide +kernel
theorem dX5_strainOf_4 : decode cX5_strainOf 4 = .ok (.iload_n 3, 1) := by decide +kernel
theorem dX5_strainOf_5 : decode cX5_strainOf 5 = .ok (.aload_n 0, 1) := by decide +kernel
theorem dX5_strainOf_6 : decode cX5_strainOf 6 = .ok (.getfield 7, 3) := by decide +kernel
theorem dX5_strainOf_9 : decode cX5_strainOf 9 = .ok (.iload_n 1, 1) := by decide +kernel
theorem dX5_strainOf_10 : decode cX5_strainOf 10 = .ok (.iaload, 1) := by decide +kernel
theorem dX5_strainOf_11 : decode cX5_strainOf 11 = .ok (.if_icmp .ge 40, 3) := by decide +kernel
theorem dX5_strainOf_14 : decode cX5_strainOf 14 = .ok (.aload_n 0, 1) := by decide +kernel
theorem dX5_strainOf_15 : decode cX5_strainOf 15 = .ok (.getfield 13, 3) := by decide +kernel
theorem dX5_strainOf_18 : decode cX5_strainOf 18 = .ok (.bipush 9, 2) := by decide +kernel
theorem dX5_strainOf_20 : decode cX5_strainOf 20 = .ok (.iload_n 1, 1) := by decide +kernel
theorem dX5_strainOf_21 : decode cX5_strainOf 21 = .ok (.imul, 1) := by decide +kernel
theorem dX5_strainOf_22 : decode cX5_strainOf 22 = .ok (.iload_n 3, 1) := by decide +kernel
theorem dX5_strainOf_23 : decode cX5_strainOf 23 = .ok (.iadd, 1) := by decide +kernel
theorem dX5_strainOf_24 : decode cX5_strainOf 24 = .ok (.iaload, 1) := by decide +kernel
theorem dX5_strainOf_25 : decode cX5_strainOf 25 = .ok (.iload_n 2, 1) := by decide +kernel
theorem dX5_strainOf_26 : decode cX5_strainOf 26 = .ok (.if_icmp .le 17, 3) := by decide +kernel
theorem dX5_strainOf_29 : decode cX5_strainOf 29 = .ok (.aload_n 0, 1) := by decide +kernel
theorem dX5_strainOf_30 : decode cX5_strainOf 30 = .ok (.getfield 13, 3) := by decide +kernel
theorem dX5_strainOf_33 : decode cX5_strainOf 33 = .ok (.bipush 9, 2) := by decide +kernel
theorem dX5_strainOf_35 : decode cX5_strainOf 35 = .ok (.iload_n 1, 1) := by decide +kernel
theorem dX5_strainOf_36 : decode cX5_strainOf 36 = .ok (.imul, 1) := by decide +kernel
theorem dX5_strainOf_37 : decode cX5_strainOf 37 = .ok (.iload_n 3, 1) := by decide +kernel
theorem dX5_strainOf_38 : decode cX5_strainOf 38 = .ok (.iadd, 1) := by decide +kernel
theorem dX5_strainOf_39 : decode cX5_strainOf 39 = .ok (.iaload, 1) := by decide +kernel
theorem dX5_strainOf_40 : decode cX5_strainOf 40 = .ok (.goto 4, 3) := by decide +kernel
theorem dX5_strainOf_43 : decode cX5_strainOf 43 = .ok (.iload_n 2, 1) := by decide +kernel
theorem dX5_strainOf_44 : decode cX5_strainOf 44 = .ok (.istore_n 2, 1) := by decide +kernel
theorem dX5_strainOf_45 : decode cX5_strainOf 45 = .ok (.iinc 3 1, 3) := by decide +kernel
theorem dX5_strainOf_48 : decode cX5_strainOf 48 = .ok (.goto (-44), 3) := by decide +kernel
theorem dX5_strainOf_51 : decode cX5_strainOf 51 = .ok (.aload_n 0, 1) := by decide +kernel
theorem dX5_strainOf_52 : decode cX5_strainOf 52 = .ok (.getfield 13, 3) := by decide +kernel
theorem dX5_strainOf_55 : decode cX5_strainOf 55 = .ok (.bipush 9, 2) := by decide +kernel
theorem dX5_strainOf_57 : decode cX5_strainOf 57 = .ok (.iload_n 1, 1) := by decide +kernel
theorem dX5_strainOf_58 : decode cX5_strainOf 58 = .ok (.imul, 1) := by decide +kernel
theorem dX5_strainOf_59 : decode cX5_strainOf 59 = .ok (.iaload, 1) := by decide +kernel
theorem dX5_strainOf_60 : decode cX5_strainOf 60 = .ok (.istore_n 3, 1) := by decide +kernel
theorem dX5_strainOf_61 : decode cX5_strainOf 61 = .ok (.aload_n 0, 1) := by decide +kernel
theorem dX5_strainOf_62 : decode cX5_strainOf 62 = .ok (.getfield 13, 3) := by decide +kernel
theorem dX5_strainOf_65 : decode cX5_strainOf 65 = .ok (.bipush 9, 2) := by decide +kernel
theorem dX5_strainOf_67 : decode cX5_strainOf 67 = .ok (.iload_n 1, 1) := by decide +kernel
theorem dX5_strainOf_68 : decode cX5_strainOf 68 = .ok (.imul, 1) := by decide +kernel
theorem dX5_strainOf_69 : decode cX5_strainOf 69 = .ok (.aload_n 0, 1) := by decide +kernel
theorem dX5_strainOf_70 : decode cX5_strainOf 70 = .ok (.getfield 7, 3) := by decide +kernel
theorem dX5_strainOf_73 : decode cX5_strainOf 73 = .ok (.iload_n 1, 1) := by decide +kernel
theorem dX5_strainOf_74 : decode cX5_strainOf 74 = .ok (.iaload, 1) := by decide +kernel
theorem dX5_strainOf_75 : decode cX5_strainOf 75 = .ok (.iadd, 1) := by decide +kernel
theorem dX5_strainOf_76 : decode cX5_strainOf 76 = .ok (.iconst 1, 1) := by decide +kernel
theorem dX5_strainOf_77 : decode cX5_strainOf 77 = .ok (.isub, 1) := by decide +kernel
theorem dX5_strainOf_78 : decode cX5_strainOf 78 = .ok (.iaload, 1) := by decide +kernel
theorem dX5_strainOf_79 : decode cX5_strainOf 79 = .ok (.istore 4, 2) := by decide +kernel
theorem dX5_strainOf_81 : decode cX5_strainOf 81 = .ok (.iload_n 2, 1) := by decide +kernel
theorem dX5_strainOf_82 : decode cX5_strainOf 82 = .ok (.iload_n 3, 1) := by decide +kernel
theorem dX5_strainOf_83 : decode cX5_strainOf 83 = .ok (.iload 4, 2) := by decide +kernel
theorem dX5_strainOf_85 : decode cX5_strainOf 85 = .ok (.if_icmp .ge 7, 3) := by decide +kernel
theorem dX5_strainOf_88 : decode cX5_strainOf 88 = .ok (.iload_n 3, 1) := by decide +kernel
theorem dX5_strainOf_89 : decode cX5_strainOf 89 = .ok (.goto 5, 3) := by decide +kernel
theorem dX5_strainOf_92 : decode cX5_strainOf 92 = .ok (.iload 4, 2) := by decide +kernel
theorem dX5_strainOf_94 : decode cX5_strainOf 94 = .ok (.isub, 1) := by decide +kernel
theorem dX5_strainOf_95 : decode cX5_strainOf 95 = .ok (.ireturn, 1) := by decide +kernel
set_option maxRecDepth 20000 in
theorem ggX5_averageMoisture_X5_isBoard : GoodIn wsX5_averageMoisture wsX5_isBoard := goodIn_r _ [6, 7, 8, 9, 5, 10, 21, 22, 23, 24, 25, 26, 27, 28, 29, 30, 31, 32, 33, 34, 35, 36, 37, 38, 39, 40, 41, 42, 43, 44] (by decide +kernel) (by decide +kernel)
set_option maxRecDepth 20000 in
theorem gX5_averageMoisture_X5_isBoard : GoodIn wsX5_averageMoisture (wsV RX5 69 RX5 yX5_isBoard wsX5_isBoard) := goodIn_app (goodIn_of _ (by decide +kernel)) ggX5_averageMoisture_X5_isBoard
set_option maxRecDepth 20000 in
theorem ggX5_averageMoisture_X5_averageOf : GoodIn wsX5_averageMoisture wsX5_averageOf := goodIn_r _ [14, 15, 16, 17, 18, 5, 19, 20, 21, 22, 23, 24, 25, 26, 27, 28, 29, 30, 31, 32, 33, 34, 35, 36, 37, 38, 39, 40, 41, 42, 43, 44] (by decide +kernel) (by decide +kernel)
set_option maxRecDepth 20000 in
theorem gX5_averageMoisture_X5_averageOf : GoodIn wsX5_averageMoisture (wsV RX5 83 RX5 yX5_averageOf wsX5_averageOf) := goodIn_app (goodIn_of _ (by decide +kernel)) ggX5_averageMoisture_X5_averageOf
theorem dX5_averageMoisture_0 : decode cX5_averageMoisture 0 = .ok (.aload_n 0, 1) := by decide +kernel
theorem dX5_averageMoisture_1 : decode cX5_averageMoisture 1 = .ok (.iload_n 1, 1) := by decide +kernel
theorem dX5_averageMoisture_2 : decode cX5_averageMoisture 2 = .ok (.invokevirtual 69, 3) := by decide +kernel
theorem dX5_averageMoisture_5 : decode cX5_averageMoisture 5 = .ok (.ifCond .eq 11, 3) := by decide +kernel
theorem dX5_averageMoisture_8 : decode cX5_averageMoisture 8 = .ok (.aload_n 0, 1) := by decide +kernel
theorem dX5_averageMoisture_9 : decode cX5_averageMoisture 9 = .ok (.iload_n 1, 1) := by decide +kernel
theorem dX5_averageMoisture_10 : decode cX5_averageMoisture 10 = .ok (.invokevirtual 83, 3) := by decide +kernel
theorem dX5_averageMoisture_13 : decode cX5_averageMoisture 13 = .ok (.goto 5, 3) := by decide +kernel
theorem dX5_averageMoisture_16 : decode cX5_averageMoisture 16 = .ok (.ldc 73, 2) := by decide +kernel
theorem dX5_averageMoisture_18 : decode cX5_averageMoisture 18 = .ok (.ireturn, 1) := by decide +kernel
set_option maxRecDepth 20000 in
theorem ggX5_strain_X5_isBoard : GoodIn wsX5_strain wsX5_isBoard := goodIn_r _ [6, 7, 8, 9, 5, 10, 17, 18, 19, 20, 21, 22, 23, 24, 25, 26, 27, 28, 29, 30, 31, 32, 33, 34, 35, 36, 37, 38, 39, 40] (by decide +kernel) (by decide +kernel)
set_option maxRecDepth 20000 in
theorem gX5_strain_X5_isBoard : GoodIn wsX5_strain (wsV RX5 69 RX5 yX5_isBoard wsX5_isBoard) := goodIn_app (goodIn_of _ (by decide +kernel)) ggX5_strain_X5_isBoard
set_option maxRecDepth 20000 in
theorem ggX5_strain_X5_strainOf : GoodIn wsX5_strain wsX5_strainOf := goodIn_r _ [14, 15, 16, 17, 18, 19, 20, 21, 22, 23, 24, 25, 26, 27, 28, 29, 30, 31, 32, 33, 34, 35, 36, 37, 38, 39, 40] (by decide +kernel) (by decide +kernel)
set_option maxRecDepth 20000 in
theorem gX5_strain_X5_strainOf : GoodIn wsX5_strain (wsV RX5 86 RX5 yX5_strainOf wsX5_strainOf) := goodIn_app (goodIn_of _ (by decide +kernel)) ggX5_strain_X5_strainOf
theorem dX5_strain_0 : decode cX5_strain 0 = .ok (.aload_n 0, 1) := by decide +kernel
theorem dX5_strain_1 : decode cX5_strain 1 = .ok (.iload_n 1, 1) := by decide +kernel
theorem dX5_strain_2 : decode cX5_strain 2 = .ok (.invokevirtual 69, 3) := by decide +kernel
theorem dX5_strain_5 : decode cX5_strain 5 = .ok (.ifCond .eq 11, 3) := by decide +kernel
theorem dX5_strain_8 : decode cX5_strain 8 = .ok (.aload_n 0, 1) := by decide +kernel
theorem dX5_strain_9 : decode cX5_strain 9 = .ok (.iload_n 1, 1) := by decide +kernel
theorem dX5_strain_10 : decode cX5_strain 10 = .ok (.invokevirtual 86, 3) := by decide +kernel
theorem dX5_strain_13 : decode cX5_strain 13 = .ok (.goto 5, 3) := by decide +kernel
theorem dX5_strain_16 : decode cX5_strain 16 = .ok (.ldc 73, 2) := by decide +kernel
theorem dX5_strain_18 : decode cX5_strain 18 = .ok (.ireturn, 1) := by decide +kernel
set_option maxRecDepth 20000 in
theorem ggX5_checkHour_X5_isBoard : GoodIn wsX5_checkHour wsX5_isBoard := goodIn_r _ [7, 8, 9, 10, 6, 11, 12, 13, 14, 15, 16, 17, 18, 19, 20, 21, 22, 23, 24, 25, 26, 27, 28, 29, 30, 31, 32, 33, 34, 35] (by decide +kernel) (by decide +kernel)
set_option maxRecDepth 20000 in
theorem gX5_checkHour_X5_isBoard : GoodIn wsX5_checkHour (wsV RX5 69 RX5 yX5_isBoard wsX5_isBoard) := goodIn_app (goodIn_of _ (by decide +kernel)) ggX5_checkHour_X5_isBoard
theorem dX5_checkHour_0 : decode cX5_checkHour 0 = .ok (.aload_n 0, 1) := by decide +kernel
theorem dX5_checkHour_1 : decode cX5_checkHour 1 = .ok (.iload_n 1, 1) := by decide +kernel
theorem dX5_checkHour_2 : decode cX5_checkHour 2 = .ok (.invokevirtual 69, 3) := by decide +kernel
end
section
theorem dX5_checkHour_5 : decode cX5_checkHour 5 = .ok (.ifCond .eq 12, 3) := by decide +kernel
theorem dX5_checkHour_8 : decode cX5_checkHour 8 = .ok (.aload_n 0, 1) := by decide +kernel
theorem dX5_checkHour_9 : decode cX5_checkHour 9 = .ok (.getfield 16, 3) := by decide +kernel
theorem dX5_checkHour_12 : decode cX5_checkHour 12 = .ok (.iload_n 1, 1) := by decide +kernel
theorem dX5_checkHour_13 : decode cX5_checkHour 13 = .ok (.iaload, 1) := by decide +kernel
theorem dX5_checkHour_14 : decode cX5_checkHour 14 = .ok (.goto 5, 3) := by decide +kernel
theorem dX5_checkHour_17 : decode cX5_checkHour 17 = .ok (.ldc 73, 2) := by decide +kernel
theorem dX5_checkHour_19 : decode cX5_checkHour 19 = .ok (.ireturn, 1) := by decide +kernel
set_option maxRecDepth 20000 in
theorem ggX5_wettest_X5_averageOf : GoodIn wsX5_wettest wsX5_averageOf := goodIn_r _ [7, 8, 9, 10, 11, 6, 12, 13, 14, 15, 16, 17, 18, 19, 20, 21, 22, 23, 24, 25, 26, 27, 28, 29, 30, 31, 32, 33, 34, 35, 36, 37] (by decide +kernel) (by decide +kernel)
set_option maxRecDepth 20000 in
theorem gX5_wettest_X5_averageOf : GoodIn wsX5_wettest (wsV RX5 83 RX5 yX5_averageOf wsX5_averageOf) := goodIn_app (goodIn_of _ (by decide +kernel)) ggX5_wettest_X5_averageOf
theorem dX5_wettest_0 : decode cX5_wettest 0 = .ok (.ldc 68, 2) := by decide +kernel
theorem dX5_wettest_2 : decode cX5_wettest 2 = .ok (.istore_n 1, 1) := by decide +kernel
theorem dX5_wettest_3 : decode cX5_wettest 3 = .ok (.iconst 0, 1) := by decide +kernel
theorem dX5_wettest_4 : decode cX5_wettest 4 = .ok (.istore_n 2, 1) := by decide +kernel
theorem dX5_wettest_5 : decode cX5_wettest 5 = .ok (.iload_n 2, 1) := by decide +kernel
theorem dX5_wettest_6 : decode cX5_wettest 6 = .ok (.aload_n 0, 1) := by decide +kernel
theorem dX5_wettest_7 : decode cX5_wettest 7 = .ok (.getfield 59, 3) := by decide +kernel
theorem dX5_wettest_10 : decode cX5_wettest 10 = .ok (.if_icmp .ge 34, 3) := by decide +kernel
theorem dX5_wettest_13 : decode cX5_wettest 13 = .ok (.iload_n 1, 1) := by decide +kernel
theorem dX5_wettest_14 : decode cX5_wettest 14 = .ok (.ldc 68, 2) := by decide +kernel
theorem dX5_wettest_16 : decode cX5_wettest 16 = .ok (.if_icmp .eq 16, 3) := by decide +kernel
theorem dX5_wettest_19 : decode cX5_wettest 19 = .ok (.aload_n 0, 1) := by decide +kernel
theorem dX5_wettest_20 : decode cX5_wettest 20 = .ok (.iload_n 2, 1) := by decide +kernel
theorem dX5_wettest_21 : decode cX5_wettest 21 = .ok (.invokevirtual 83, 3) := by decide +kernel
theorem dX5_wettest_24 : decode cX5_wettest 24 = .ok (.aload_n 0, 1) := by decide +kernel
theorem dX5_wettest_25 : decode cX5_wettest 25 = .ok (.iload_n 1, 1) := by decide +kernel
theorem dX5_wettest_26 : decode cX5_wettest 26 = .ok (.invokevirtual 83, 3) := by decide +kernel
theorem dX5_wettest_29 : decode cX5_wettest 29 = .ok (.if_icmp .le 7, 3) := by decide +kernel
theorem dX5_wettest_32 : decode cX5_wettest 32 = .ok (.iload_n 2, 1) := by decide +kernel
theorem dX5_wettest_33 : decode cX5_wettest 33 = .ok (.goto 4, 3) := by decide +kernel
theorem dX5_wettest_36 : decode cX5_wettest 36 = .ok (.iload_n 1, 1) := by decide +kernel
theorem dX5_wettest_37 : decode cX5_wettest 37 = .ok (.istore_n 1, 1) := by decide +kernel
theorem dX5_wettest_38 : decode cX5_wettest 38 = .ok (.iinc 2 1, 3) := by decide +kernel
theorem dX5_wettest_41 : decode cX5_wettest 41 = .ok (.goto (-36), 3) := by decide +kernel
theorem dX5_wettest_44 : decode cX5_wettest 44 = .ok (.iload_n 1, 1) := by decide +kernel
theorem dX5_wettest_45 : decode cX5_wettest 45 = .ok (.ireturn, 1) := by decide +kernel
set_option maxRecDepth 20000 in
theorem ggX5_wettestBoard_X5_wettest : GoodIn wsX5_wettestBoard wsX5_wettest := goodIn_r _ [5, 6, 7, 8, 9, 10, 4, 11, 12, 13, 14, 15, 16, 17, 18, 19, 20, 21, 22, 23, 24, 25, 26, 27, 28, 29, 30, 31, 32, 33, 34, 35, 36, 37, 38, 39, 40, 41] (by decide +kernel) (by decide +kernel)
set_option maxRecDepth 20000 in
theorem gX5_wettestBoard_X5_wettest : GoodIn wsX5_wettestBoard (wsV RX5 89 RX5 yX5_wettest wsX5_wettest) := goodIn_app (goodIn_of _ (by decide +kernel)) ggX5_wettestBoard_X5_wettest
theorem dX5_wettestBoard_0 : decode cX5_wettestBoard 0 = .ok (.aload_n 0, 1) := by decide +kernel
theorem dX5_wettestBoard_1 : decode cX5_wettestBoard 1 = .ok (.invokevirtual 89, 3) := by decide +kernel
theorem dX5_wettestBoard_4 : decode cX5_wettestBoard 4 = .ok (.ireturn, 1) := by decide +kernel
set_option maxRecDepth 20000 in
theorem ggX5_totalWater_X5_sumOf : GoodIn wsX5_totalWater wsX5_sumOf := goodIn_r _ [6, 7, 8, 9, 10, 11, 12, 13, 14, 15, 16, 17, 18, 19, 20, 21, 22, 23, 24, 25, 26, 27, 28, 29, 30, 31, 32] (by decide +kernel) (by decide +kernel)
set_option maxRecDepth 20000 in
theorem gX5_totalWater_X5_sumOf : GoodIn wsX5_totalWater (wsV RX5 79 RX5 yX5_sumOf wsX5_sumOf) := goodIn_app (goodIn_of _ (by decide +kernel)) ggX5_totalWater_X5_sumOf
theorem dX5_totalWater_0 : decode cX5_totalWater 0 = .ok (.iconst 0, 1) := by decide +kernel
theorem dX5_totalWater_1 : decode cX5_totalWater 1 = .ok (.istore_n 1, 1) := by decide +kernel
theorem dX5_totalWater_2 : decode cX5_totalWater 2 = .ok (.iconst 0, 1) := by decide +kernel
theorem dX5_totalWater_3 : decode cX5_totalWater 3 = .ok (.istore_n 2, 1) := by decide +kernel
theorem dX5_totalWater_4 : decode cX5_totalWater 4 = .ok (.iload_n 2, 1) := by decide +kernel
theorem dX5_totalWater_5 : decode cX5_totalWater 5 = .ok (.aload_n 0, 1) := by decide +kernel
theorem dX5_totalWater_6 : decode cX5_totalWater 6 = .ok (.getfield 59, 3) := by decide +kernel
theorem dX5_totalWater_9 : decode cX5_totalWater 9 = .ok (.if_icmp .ge 17, 3) := by decide +kernel
theorem dX5_totalWater_12 : decode cX5_totalWater 12 = .ok (.iload_n 1, 1) := by decide +kernel
theorem dX5_totalWater_13 : decode cX5_totalWater 13 = .ok (.aload_n 0, 1) := by decide +kernel
theorem dX5_totalWater_14 : decode cX5_totalWater 14 = .ok (.iload_n 2, 1) := by decide +kernel
theorem dX5_totalWater_15 : decode cX5_totalWater 15 = .ok (.invokevirtual 79, 3) := by decide +kernel
theorem dX5_totalWater_18 : decode cX5_totalWater 18 = .ok (.iadd, 1) := by decide +kernel
theorem dX5_totalWater_19 : decode cX5_totalWater 19 = .ok (.istore_n 1, 1) := by decide +kernel
theorem dX5_totalWater_20 : decode cX5_totalWater 20 = .ok (.iinc 2 1, 3) := by decide +kernel
theorem dX5_totalWater_23 : decode cX5_totalWater 23 = .ok (.goto (-19), 3) := by decide +kernel
theorem dX5_totalWater_26 : decode cX5_totalWater 26 = .ok (.iload_n 1, 1) := by decide +kernel
theorem dX5_totalWater_27 : decode cX5_totalWater 27 = .ok (.ireturn, 1) := by decide +kernel
set_option maxRecDepth 20000 in
theorem ggX5_meanOf_X5_averageOf : GoodIn wsX5_meanOf wsX5_averageOf := goodIn_r _ [6, 7, 8, 9, 10, 5, 11, 12, 13, 14, 15, 16, 17, 18, 19, 20, 21, 22, 23, 24, 25, 26, 27, 28, 29, 30, 31, 32, 33, 34, 35, 36] (by decide +kernel) (by decide +kernel)
set_option maxRecDepth 20000 in
theorem gX5_meanOf_X5_averageOf : GoodIn wsX5_meanOf (wsV RX5 83 RX5 yX5_averageOf wsX5_averageOf) := goodIn_app (goodIn_of _ (by decide +kernel)) ggX5_meanOf_X5_averageOf
theorem dX5_meanOf_0 : decode cX5_meanOf 0 = .ok (.iconst 0, 1) := by decide +kernel
theorem dX5_meanOf_1 : decode cX5_meanOf 1 = .ok (.istore_n 2, 1) := by decide +kernel
theorem dX5_meanOf_2 : decode cX5_meanOf 2 = .ok (.iconst 0, 1) := by decide +kernel
theorem dX5_meanOf_3 : decode cX5_meanOf 3 = .ok (.istore_n 3, 1) := by decide +kernel
theorem dX5_meanOf_4 : decode cX5_meanOf 4 = .ok (.iconst 0, 1) := by decide +kernel
theorem dX5_meanOf_5 : decode cX5_meanOf 5 = .ok (.istore 4, 2) := by decide +kernel
theorem dX5_meanOf_7 : decode cX5_meanOf 7 = .ok (.iload 4, 2) := by decide +kernel
theorem dX5_meanOf_9 : decode cX5_meanOf 9 = .ok (.aload_n 0, 1) := by decide +kernel
theorem dX5_meanOf_10 : decode cX5_meanOf 10 = .ok (.getfield 59, 3) := by decide +kernel
theorem dX5_meanOf_13 : decode cX5_meanOf 13 = .ok (.if_icmp .ge 31, 3) := by decide +kernel
theorem dX5_meanOf_16 : decode cX5_meanOf 16 = .ok (.iload_n 1, 1) := by decide +kernel
theorem dX5_meanOf_17 : decode cX5_meanOf 17 = .ok (.iload 4, 2) := by decide +kernel
theorem dX5_meanOf_19 : decode cX5_meanOf 19 = .ok (.ishr, 1) := by decide +kernel
theorem dX5_meanOf_20 : decode cX5_meanOf 20 = .ok (.iconst 1, 1) := by decide +kernel
theorem dX5_meanOf_21 : decode cX5_meanOf 21 = .ok (.iand, 1) := by decide +kernel
theorem dX5_meanOf_22 : decode cX5_meanOf 22 = .ok (.iconst 1, 1) := by decide +kernel
theorem dX5_meanOf_23 : decode cX5_meanOf 23 = .ok (.if_icmp .ne 15, 3) := by decide +kernel
theorem dX5_meanOf_26 : decode cX5_meanOf 26 = .ok (.iload_n 2, 1) := by decide +kernel
theorem dX5_meanOf_27 : decode cX5_meanOf 27 = .ok (.aload_n 0, 1) := by decide +kernel
theorem dX5_meanOf_28 : decode cX5_meanOf 28 = .ok (.iload 4, 2) := by decide +kernel
theorem dX5_meanOf_30 : decode cX5_meanOf 30 = .ok (.invokevirtual 83, 3) := by decide +kernel
theorem dX5_meanOf_33 : decode cX5_meanOf 33 = .ok (.iadd, 1) := by decide +kernel
theorem dX5_meanOf_34 : decode cX5_meanOf 34 = .ok (.istore_n 2, 1) := by decide +kernel
theorem dX5_meanOf_35 : decode cX5_meanOf 35 = .ok (.iinc 3 1, 3) := by decide +kernel
theorem dX5_meanOf_38 : decode cX5_meanOf 38 = .ok (.iinc 4 1, 3) := by decide +kernel
theorem dX5_meanOf_41 : decode cX5_meanOf 41 = .ok (.goto (-34), 3) := by decide +kernel
theorem dX5_meanOf_44 : decode cX5_meanOf 44 = .ok (.iload_n 2, 1) := by decide +kernel
theorem dX5_meanOf_45 : decode cX5_meanOf 45 = .ok (.iload_n 3, 1) := by decide +kernel
theorem dX5_meanOf_46 : decode cX5_meanOf 46 = .ok (.idiv, 1) := by decide +kernel
theorem dX5_meanOf_47 : decode cX5_meanOf 47 = .ok (.ireturn, 1) := by decide +kernel
set_option maxRecDepth 20000 in
theorem ggX5_sampleError_X5_meanOf : GoodIn wsX5_sampleError wsX5_meanOf := goodIn_r _ [7, 1, 8, 9, 10, 6, 11, 12, 13, 14, 15, 16, 17, 18, 19, 20, 21, 22, 23, 24, 25, 26, 27, 28, 29, 30, 31, 32, 33, 34, 35, 36, 37, 38, 39, 40, 41] (by decide +kernel) (by decide +kernel)
set_option maxRecDepth 20000 in
theorem gX5_sampleError_X5_meanOf : GoodIn wsX5_sampleError (wsV RX5 93 RX5 yX5_meanOf wsX5_meanOf) := goodIn_app (goodIn_of _ (by decide +kernel)) ggX5_sampleError_X5_meanOf
theorem dX5_sampleError_0 : decode cX5_sampleError 0 = .ok (.iconst 1, 1) := by decide +kernel
theorem dX5_sampleError_1 : decode cX5_sampleError 1 = .ok (.aload_n 0, 1) := by decide +kernel
theorem dX5_sampleError_2 : decode cX5_sampleError 2 = .ok (.getfield 59, 3) := by decide +kernel
theorem dX5_sampleError_5 : decode cX5_sampleError 5 = .ok (.ishl, 1) := by decide +kernel
theorem dX5_sampleError_6 : decode cX5_sampleError 6 = .ok (.iconst 1, 1) := by decide +kernel
theorem dX5_sampleError_7 : decode cX5_sampleError 7 = .ok (.isub, 1) := by decide +kernel
theorem dX5_sampleError_8 : decode cX5_sampleError 8 = .ok (.istore_n 2, 1) := by decide +kernel
theorem dX5_sampleError_9 : decode cX5_sampleError 9 = .ok (.iload_n 1, 1) := by decide +kernel
theorem dX5_sampleError_10 : decode cX5_sampleError 10 = .ok (.ifCond .eq 11, 3) := by decide +kernel
theorem dX5_sampleError_13 : decode cX5_sampleError 13 = .ok (.iload_n 1, 1) := by decide +kernel
theorem dX5_sampleError_14 : decode cX5_sampleError 14 = .ok (.iload_n 2, 1) := by decide +kernel
theorem dX5_sampleError_15 : decode cX5_sampleError 15 = .ok (.iconst (-1), 1) := by decide +kernel
theorem dX5_sampleError_16 : decode cX5_sampleError 16 = .ok (.ixor, 1) := by decide +kernel
theorem dX5_sampleError_17 : decode cX5_sampleError 17 = .ok (.iand, 1) := by decide +kernel
theorem dX5_sampleError_18 : decode cX5_sampleError 18 = .ok (.ifCond .eq 6, 3) := by decide +kernel
theorem dX5_sampleError_21 : decode cX5_sampleError 21 = .ok (.ldc 66, 2) := by decide +kernel
theorem dX5_sampleError_23 : decode cX5_sampleError 23 = .ok (.ireturn, 1) := by decide +kernel
theorem dX5_sampleError_24 : decode cX5_sampleError 24 = .ok (.aload_n 0, 1) := by decide +kernel
theorem dX5_sampleError_25 : decode cX5_sampleError 25 = .ok (.iload_n 1, 1) := by decide +kernel
theorem dX5_sampleError_26 : decode cX5_sampleError 26 = .ok (.invokevirtual 93, 3) := by decide +kernel
theorem dX5_sampleError_29 : decode cX5_sampleError 29 = .ok (.aload_n 0, 1) := by decide +kernel
theorem dX5_sampleError_30 : decode cX5_sampleError 30 = .ok (.iload_n 2, 1) := by decide +kernel
theorem dX5_sampleError_31 : decode cX5_sampleError 31 = .ok (.invokevirtual 93, 3) := by decide +kernel
theorem dX5_sampleError_34 : decode cX5_sampleError 34 = .ok (.isub, 1) := by decide +kernel
theorem dX5_sampleError_35 : decode cX5_sampleError 35 = .ok (.ireturn, 1) := by decide +kernel
set_option maxRecDepth 20000 in
theorem ggX5_setDiffusion_X5_isBetween : GoodIn wsX5_setDiffusion wsX5_isBetween := goodIn_r _ [6] (by decide +kernel) (by decide +kernel)
set_option maxRecDepth 20000 in
theorem gX5_setDiffusion_X5_isBetween : GoodIn wsX5_setDiffusion (va_wsS RX5 62 yX5_isBetween wsX5_isBetween) := goodIn_app (goodIn_of _ (by decide +kernel)) ggX5_setDiffusion_X5_isBetween
theorem dX5_setDiffusion_0 : decode cX5_setDiffusion 0 = .ok (.iload_n 1, 1) := by decide +kernel
theorem dX5_setDiffusion_1 : decode cX5_setDiffusion 1 = .ok (.iconst 1, 1) := by decide +kernel
theorem dX5_setDiffusion_2 : decode cX5_setDiffusion 2 = .ok (.sipush 250, 3) := by decide +kernel
theorem dX5_setDiffusion_5 : decode cX5_setDiffusion 5 = .ok (.invokestatic 62, 3) := by decide +kernel
theorem dX5_setDiffusion_8 : decode cX5_setDiffusion 8 = .ok (.ifCond .ne 6, 3) := by decide +kernel
theorem dX5_setDiffusion_11 : decode cX5_setDiffusion 11 = .ok (.ldc 66, 2) := by decide +kernel
theorem dX5_setDiffusion_13 : decode cX5_setDiffusion 13 = .ok (.ireturn, 1) := by decide +kernel
theorem dX5_setDiffusion_14 : decode cX5_setDiffusion 14 = .ok (.aload_n 0, 1) := by decide +kernel
theorem dX5_setDiffusion_15 : decode cX5_setDiffusion 15 = .ok (.getfield 56, 3) := by decide +kernel
theorem dX5_setDiffusion_18 : decode cX5_setDiffusion 18 = .ok (.istore_n 2, 1) := by decide +kernel
theorem dX5_setDiffusion_19 : decode cX5_setDiffusion 19 = .ok (.aload_n 0, 1) := by decide +kernel
theorem dX5_setDiffusion_20 : decode cX5_setDiffusion 20 = .ok (.iload_n 1, 1) := by decide +kernel
theorem dX5_setDiffusion_21 : decode cX5_setDiffusion 21 = .ok (.putfield 56, 3) := by decide +kernel
theorem dX5_setDiffusion_24 : decode cX5_setDiffusion 24 = .ok (.iload_n 2, 1) := by decide +kernel
theorem dX5_setDiffusion_25 : decode cX5_setDiffusion 25 = .ok (.ireturn, 1) := by decide +kernel
set_option maxRecDepth 20000 in
theorem ggX5_setSurface_X5_isBetween : GoodIn wsX5_setSurface wsX5_isBetween := goodIn_r _ [6] (by decide +kernel) (by decide +kernel)
set_option maxRecDepth 20000 in
theorem gX5_setSurface_X5_isBetween : GoodIn wsX5_setSurface (va_wsS RX5 62 yX5_isBetween wsX5_isBetween) := goodIn_app (goodIn_of _ (by decide +kernel)) ggX5_setSurface_X5_isBetween
theorem dX5_setSurface_0 : decode cX5_setSurface 0 = .ok (.iload_n 1, 1) := by decide +kernel
theorem dX5_setSurface_1 : decode cX5_setSurface 1 = .ok (.iconst 1, 1) := by decide +kernel
theorem dX5_setSurface_2 : decode cX5_setSurface 2 = .ok (.sipush 500, 3) := by decide +kernel
theorem dX5_setSurface_5 : decode cX5_setSurface 5 = .ok (.invokestatic 62, 3) := by decide +kernel
theorem dX5_setSurface_8 : decode cX5_setSurface 8 = .ok (.ifCond .ne 6, 3) := by decide +kernel
theorem dX5_setSurface_11 : decode cX5_setSurface 11 = .ok (.ldc 66, 2) := by decide +kernel
theorem dX5_setSurface_13 : decode cX5_setSurface 13 = .ok (.ireturn, 1) := by decide +kernel
theorem dX5_setSurface_14 : decode cX5_setSurface 14 = .ok (.aload_n 0, 1) := by decide +kernel
theorem dX5_setSurface_15 : decode cX5_setSurface 15 = .ok (.getfield 22, 3) := by decide +kernel
theorem dX5_setSurface_18 : decode cX5_setSurface 18 = .ok (.istore_n 2, 1) := by decide +kernel
theorem dX5_setSurface_19 : decode cX5_setSurface 19 = .ok (.aload_n 0, 1) := by decide +kernel
theorem dX5_setSurface_20 : decode cX5_setSurface 20 = .ok (.iload_n 1, 1) := by decide +kernel
theorem dX5_setSurface_21 : decode cX5_setSurface 21 = .ok (.putfield 22, 3) := by decide +kernel
theorem dX5_setSurface_24 : decode cX5_setSurface 24 = .ok (.iload_n 2, 1) := by decide +kernel
theorem dX5_setSurface_25 : decode cX5_setSurface 25 = .ok (.ireturn, 1) := by decide +kernel
set_option maxRecDepth 20000 in
theorem ggX5_setCapacity_X5_isBetween : GoodIn wsX5_setCapacity wsX5_isBetween := goodIn_r _ [6] (by decide +kernel) (by decide +kernel)
set_option maxRecDepth 20000 in
theorem gX5_setCapacity_X5_isBetween : GoodIn wsX5_setCapacity (va_wsS RX5 62 yX5_isBetween wsX5_isBetween) := goodIn_app (goodIn_of _ (by decide +kernel)) ggX5_setCapacity_X5_isBetween
theorem dX5_setCapacity_0 : decode cX5_setCapacity 0 = .ok (.iload_n 1, 1) := by decide +kernel
theorem dX5_setCapacity_1 : decode cX5_setCapacity 1 = .ok (.iconst 1, 1) := by decide +kernel
theorem dX5_setCapacity_2 : decode cX5_setCapacity 2 = .ok (.sipush 10000, 3) := by decide +kernel
theorem dX5_setCapacity_5 : decode cX5_setCapacity 5 = .ok (.invokestatic 62, 3) := by decide +kernel
theorem dX5_setCapacity_8 : decode cX5_setCapacity 8 = .ok (.ifCond .ne 6, 3) := by decide +kernel
theorem dX5_setCapacity_11 : decode cX5_setCapacity 11 = .ok (.ldc 66, 2) := by decide +kernel
theorem dX5_setCapacity_13 : decode cX5_setCapacity 13 = .ok (.ireturn, 1) := by decide +kernel
theorem dX5_setCapacity_14 : decode cX5_setCapacity 14 = .ok (.aload_n 0, 1) := by decide +kernel
theorem dX5_setCapacity_15 : decode cX5_setCapacity 15 = .ok (.getfield 26, 3) := by decide +kernel
theorem dX5_setCapacity_18 : decode cX5_setCapacity 18 = .ok (.istore_n 2, 1) := by decide +kernel
theorem dX5_setCapacity_19 : decode cX5_setCapacity 19 = .ok (.aload_n 0, 1) := by decide +kernel
theorem dX5_setCapacity_20 : decode cX5_setCapacity 20 = .ok (.iload_n 1, 1) := by decide +kernel
theorem dX5_setCapacity_21 : decode cX5_setCapacity 21 = .ok (.putfield 26, 3) := by decide +kernel
theorem dX5_setCapacity_24 : decode cX5_setCapacity 24 = .ok (.iload_n 2, 1) := by decide +kernel
theorem dX5_setCapacity_25 : decode cX5_setCapacity 25 = .ok (.ireturn, 1) := by decide +kernel
set_option maxRecDepth 20000 in
theorem ggX5_setStrainLimit_X5_isBetween : GoodIn wsX5_setStrainLimit wsX5_isBetween := goodIn_r _ [6] (by decide +kernel) (by decide +kernel)
set_option maxRecDepth 20000 in
theorem gX5_setStrainLimit_X5_isBetween : GoodIn wsX5_setStrainLimit (va_wsS RX5 62 yX5_isBetween wsX5_isBetween) := goodIn_app (goodIn_of _ (by decide +kernel)) ggX5_setStrainLimit_X5_isBetween
theorem dX5_setStrainLimit_0 : decode cX5_setStrainLimit 0 = .ok (.iload_n 1, 1) := by decide +kernel
theorem dX5_setStrainLimit_1 : decode cX5_setStrainLimit 1 = .ok (.bipush 20, 2) := by decide +kernel
theorem dX5_setStrainLimit_3 : decode cX5_setStrainLimit 3 = .ok (.sipush 900, 3) := by decide +kernel
theorem dX5_setStrainLimit_6 : decode cX5_setStrainLimit 6 = .ok (.invokestatic 62, 3) := by decide +kernel
theorem dX5_setStrainLimit_9 : decode cX5_setStrainLimit 9 = .ok (.ifCond .ne 6, 3) := by decide +kernel
theorem dX5_setStrainLimit_12 : decode cX5_setStrainLimit 12 = .ok (.ldc 66, 2) := by decide +kernel
theorem dX5_setStrainLimit_14 : decode cX5_setStrainLimit 14 = .ok (.ireturn, 1) := by decide +kernel
theorem dX5_setStrainLimit_15 : decode cX5_setStrainLimit 15 = .ok (.aload_n 0, 1) := by decide +kernel
theorem dX5_setStrainLimit_16 : decode cX5_setStrainLimit 16 = .ok (.getfield 29, 3) := by decide +kernel
theorem dX5_setStrainLimit_19 : decode cX5_setStrainLimit 19 = .ok (.istore_n 2, 1) := by decide +kernel
theorem dX5_setStrainLimit_20 : decode cX5_setStrainLimit 20 = .ok (.aload_n 0, 1) := by decide +kernel
theorem dX5_setStrainLimit_21 : decode cX5_setStrainLimit 21 = .ok (.iload_n 1, 1) := by decide +kernel
theorem dX5_setStrainLimit_22 : decode cX5_setStrainLimit 22 = .ok (.putfield 29, 3) := by decide +kernel
theorem dX5_setStrainLimit_25 : decode cX5_setStrainLimit 25 = .ok (.iload_n 2, 1) := by decide +kernel
theorem dX5_setStrainLimit_26 : decode cX5_setStrainLimit 26 = .ok (.ireturn, 1) := by decide +kernel
set_option maxRecDepth 20000 in
theorem ggX5_setHumidity_X5_isBetween : GoodIn wsX5_setHumidity wsX5_isBetween := goodIn_r _ [6] (by decide +kernel) (by decide +kernel)
set_option maxRecDepth 20000 in
theorem gX5_setHumidity_X5_isBetween : GoodIn wsX5_setHumidity (va_wsS RX5 62 yX5_isBetween wsX5_isBetween) := goodIn_app (goodIn_of _ (by decide +kernel)) ggX5_setHumidity_X5_isBetween
theorem dX5_setHumidity_0 : decode cX5_setHumidity 0 = .ok (.iload_n 1, 1) := by decide +kernel
theorem dX5_setHumidity_1 : decode cX5_setHumidity 1 = .ok (.iconst 0, 1) := by decide +kernel
theorem dX5_setHumidity_2 : decode cX5_setHumidity 2 = .ok (.sipush 300, 3) := by decide +kernel
theorem dX5_setHumidity_5 : decode cX5_setHumidity 5 = .ok (.invokestatic 62, 3) := by decide +kernel
theorem dX5_setHumidity_8 : decode cX5_setHumidity 8 = .ok (.ifCond .ne 6, 3) := by decide +kernel
theorem dX5_setHumidity_11 : decode cX5_setHumidity 11 = .ok (.ldc 66, 2) := by decide +kernel
theorem dX5_setHumidity_13 : decode cX5_setHumidity 13 = .ok (.ireturn, 1) := by decide +kernel
theorem dX5_setHumidity_14 : decode cX5_setHumidity 14 = .ok (.aload_n 0, 1) := by decide +kernel
theorem dX5_setHumidity_15 : decode cX5_setHumidity 15 = .ok (.getfield 32, 3) := by decide +kernel
theorem dX5_setHumidity_18 : decode cX5_setHumidity 18 = .ok (.istore_n 2, 1) := by decide +kernel
theorem dX5_setHumidity_19 : decode cX5_setHumidity 19 = .ok (.aload_n 0, 1) := by decide +kernel
theorem dX5_setHumidity_20 : decode cX5_setHumidity 20 = .ok (.iload_n 1, 1) := by decide +kernel
theorem dX5_setHumidity_21 : decode cX5_setHumidity 21 = .ok (.putfield 32, 3) := by decide +kernel
theorem dX5_setHumidity_24 : decode cX5_setHumidity 24 = .ok (.iload_n 2, 1) := by decide +kernel
theorem dX5_setHumidity_25 : decode cX5_setHumidity 25 = .ok (.ireturn, 1) := by decide +kernel
theorem dX5_setFan_0 : decode cX5_setFan 0 = .ok (.aload_n 0, 1) := by decide +kernel
theorem dX5_setFan_1 : decode cX5_setFan 1 = .ok (.getfield 96, 3) := by decide +kernel
theorem dX5_setFan_4 : decode cX5_setFan 4 = .ok (.iload_n 1, 1) := by decide +kernel
theorem dX5_setFan_5 : decode cX5_setFan 5 = .ok (.if_icmp .ne 7, 3) := by decide +kernel
theorem dX5_setFan_8 : decode cX5_setFan 8 = .ok (.iconst 0, 1) := by decide +kernel
theorem dX5_setFan_9 : decode cX5_setFan 9 = .ok (.goto 4, 3) := by decide +kernel
theorem dX5_setFan_12 : decode cX5_setFan 12 = .ok (.iconst 1, 1) := by decide +kernel
theorem dX5_setFan_13 : decode cX5_setFan 13 = .ok (.istore_n 2, 1) := by decide +kernel
theorem dX5_setFan_14 : decode cX5_setFan 14 = .ok (.aload_n 0, 1) := by decide +kernel
theorem dX5_setFan_15 : decode cX5_setFan 15 = .ok (.iload_n 1, 1) := by decide +kernel
theorem dX5_setFan_16 : decode cX5_setFan 16 = .ok (.putfield 96, 3) := by decide +kernel
theorem dX5_setFan_19 : decode cX5_setFan 19 = .ok (.iload_n 2, 1) := by decide +kernel
theorem dX5_setFan_20 : decode cX5_setFan 20 = .ok (.ireturn, 1) := by decide +kernel
theorem dX5_isFanReversed_0 : decode cX5_isFanReversed 0 = .ok (.aload_n 0, 1) := by decide +kernel
theorem dX5_isFanReversed_1 : decode cX5_isFanReversed 1 = .ok (.getfield 96, 3) := by decide +kernel
theorem dX5_isFanReversed_4 : decode cX5_isFanReversed 4 = .ok (.ifCond .eq 7, 3) := by decide +kernel
theorem dX5_isFanReversed_7 : decode cX5_isFanReversed 7 = .ok (.iconst 1, 1) := by decide +kernel
theorem dX5_isFanReversed_8 : decode cX5_isFanReversed 8 = .ok (.goto 4, 3) := by decide +kernel
theorem dX5_isFanReversed_11 : decode cX5_isFanReversed 11 = .ok (.iconst 0, 1) := by decide +kernel
theorem dX5_isFanReversed_12 : decode cX5_isFanReversed 12 = .ok (.ireturn, 1) := by decide +kernel
set_option maxRecDepth 20000 in
theorem ggX5_setReversalPeriod_X5_isBetween : GoodIn wsX5_setReversalPeriod wsX5_isBetween := goodIn_r _ [6] (by decide +kernel) (by decide +kernel)
set_option maxRecDepth 20000 in
theorem gX5_setReversalPeriod_X5_isBetween : GoodIn wsX5_setReversalPeriod (va_wsS RX5 62 yX5_isBetween wsX5_isBetween) := goodIn_app (goodIn_of _ (by decide +kernel)) ggX5_setReversalPeriod_X5_isBetween
theorem dX5_setReversalPeriod_0 : decode cX5_setReversalPeriod 0 = .ok (.iload_n 1, 1) := by decide +kernel
theorem dX5_setReversalPeriod_1 : decode cX5_setReversalPeriod 1 = .ok (.iconst 0, 1) := by decide +kernel
theorem dX5_setReversalPeriod_2 : decode cX5_setReversalPeriod 2 = .ok (.bipush 48, 2) := by decide +kernel
theorem dX5_setReversalPeriod_4 : decode cX5_setReversalPeriod 4 = .ok (.invokestatic 62, 3) := by decide +kernel
theorem dX5_setReversalPeriod_7 : decode cX5_setReversalPeriod 7 = .ok (.ifCond .ne 6, 3) := by decide +kernel
theorem dX5_setReversalPeriod_10 : decode cX5_setReversalPeriod 10 = .ok (.ldc 66, 2) := by decide +kernel
theorem dX5_setReversalPeriod_12 : decode cX5_setReversalPeriod 12 = .ok (.ireturn, 1) := by decide +kernel
theorem dX5_setReversalPeriod_13 : decode cX5_setReversalPeriod 13 = .ok (.aload_n 0, 1) := by decide +kernel
theorem dX5_setReversalPeriod_14 : decode cX5_setReversalPeriod 14 = .ok (.getfield 100, 3) := by decide +kernel
theorem dX5_setReversalPeriod_17 : decode cX5_setReversalPeriod 17 = .ok (.istore_n 2, 1) := by decide +kernel
theorem dX5_setReversalPeriod_18 : decode cX5_setReversalPeriod 18 = .ok (.aload_n 0, 1) := by decide +kernel
theorem dX5_setReversalPeriod_19 : decode cX5_setReversalPeriod 19 = .ok (.iload_n 1, 1) := by decide +kernel
theorem dX5_setReversalPeriod_20 : decode cX5_setReversalPeriod 20 = .ok (.putfield 100, 3) := by decide +kernel
theorem dX5_setReversalPeriod_23 : decode cX5_setReversalPeriod 23 = .ok (.iload_n 2, 1) := by decide +kernel
theorem dX5_setReversalPeriod_24 : decode cX5_setReversalPeriod 24 = .ok (.ireturn, 1) := by decide +kernel
theorem dX5_move_0 : decode cX5_move 0 = .ok (.bipush 9, 2) := by decide +kernel
theorem dX5_move_2 : decode cX5_move 2 = .ok (.iload_n 1, 1) := by decide +kernel
theorem dX5_move_3 : decode cX5_move 3 = .ok (.imul, 1) := by decide +kernel
theorem dX5_move_4 : decode cX5_move 4 = .ok (.istore 4, 2) := by decide +kernel
theorem dX5_move_6 : decode cX5_move 6 = .ok (.aload_n 0, 1) := by decide +kernel
theorem dX5_move_7 : decode cX5_move 7 = .ok (.getfield 7, 3) := by decide +kernel
theorem dX5_move_10 : decode cX5_move 10 = .ok (.iload_n 1, 1) := by decide +kernel
theorem dX5_move_11 : decode cX5_move 11 = .ok (.iaload, 1) := by decide +kernel
theorem dX5_move_12 : decode cX5_move 12 = .ok (.istore 5, 2) := by decide +kernel
theorem dX5_move_14 : decode cX5_move 14 = .ok (.aload_n 0, 1) := by decide +kernel
theorem dX5_move_15 : decode cX5_move 15 = .ok (.getfield 35, 3) := by decide +kernel
theorem dX5_move_18 : decode cX5_move 18 = .ok (.iconst 0, 1) := by decide +kernel
theorem dX5_move_19 : decode cX5_move 19 = .ok (.iload_n 2, 1) := by decide +kernel
theorem dX5_move_20 : decode cX5_move 20 = .ok (.ifCond .eq 25, 3) := by decide +kernel
theorem dX5_move_23 : decode cX5_move 23 = .ok (.aload_n 0, 1) := by decide +kernel
theorem dX5_move_24 : decode cX5_move 24 = .ok (.getfield 13, 3) := by decide +kernel
theorem dX5_move_27 : decode cX5_move 27 = .ok (.iload 4, 2) := by decide +kernel
theorem dX5_move_29 : decode cX5_move 29 = .ok (.iaload, 1) := by decide +kernel
theorem dX5_move_30 : decode cX5_move 30 = .ok (.iload_n 3, 1) := by decide +kernel
theorem dX5_move_31 : decode cX5_move 31 = .ok (.isub, 1) := by decide +kernel
theorem dX5_move_32 : decode cX5_move 32 = .ok (.aload_n 0, 1) := by decide +kernel
theorem dX5_move_33 : decode cX5_move 33 = .ok (.getfield 22, 3) := by decide +kernel
theorem dX5_move_36 : decode cX5_move 36 = .ok (.imul, 1) := by decide +kernel
theorem dX5_move_37 : decode cX5_move 37 = .ok (.sipush 1000, 3) := by decide +kernel
theorem dX5_move_40 : decode cX5_move 40 = .ok (.idiv, 1) := by decide +kernel
theorem dX5_move_41 : decode cX5_move 41 = .ok (.ineg, 1) := by decide +kernel
theorem dX5_move_42 : decode cX5_move 42 = .ok (.goto 4, 3) := by decide +kernel
theorem dX5_move_45 : decode cX5_move 45 = .ok (.iconst 0, 1) := by decide +kernel
theorem dX5_move_46 : decode cX5_move 46 = .ok (.iastore, 1) := by decide +kernel
theorem dX5_move_47 : decode cX5_move 47 = .ok (.aload_n 0, 1) := by decide +kernel
theorem dX5_move_48 : decode cX5_move 48 = .ok (.getfield 35, 3) := by decide +kernel
theorem dX5_move_51 : decode cX5_move 51 = .ok (.iload 5, 2) := by decide +kernel
theorem dX5_move_53 : decode cX5_move 53 = .ok (.iload_n 2, 1) := by decide +kernel
theorem dX5_move_54 : decode cX5_move 54 = .ok (.ifCond .eq 29, 3) := by decide +kernel
theorem dX5_move_57 : decode cX5_move 57 = .ok (.aload_n 0, 1) := by decide +kernel
theorem dX5_move_58 : decode cX5_move 58 = .ok (.getfield 13, 3) := by decide +kernel
theorem dX5_move_61 : decode cX5_move 61 = .ok (.iload 4, 2) := by decide +kernel
theorem dX5_move_63 : decode cX5_move 63 = .ok (.iload 5, 2) := by decide +kernel
theorem dX5_move_65 : decode cX5_move 65 = .ok (.iadd, 1) := by decide +kernel
theorem dX5_move_66 : decode cX5_move 66 = .ok (.iconst 1, 1) := by decide +kernel
theorem dX5_move_67 : decode cX5_move 67 = .ok (.isub, 1) := by decide +kernel
theorem dX5_move_68 : decode cX5_move 68 = .ok (.iaload, 1) := by decide +kernel
theorem dX5_move_69 : decode cX5_move 69 = .ok (.iload_n 3, 1) := by decide +kernel
theorem dX5_move_70 : decode cX5_move 70 = .ok (.isub, 1) := by decide +kernel
theorem dX5_move_71 : decode cX5_move 71 = .ok (.aload_n 0, 1) := by decide +kernel
theorem dX5_move_72 : decode cX5_move 72 = .ok (.getfield 22, 3) := by decide +kernel
theorem dX5_move_75 : decode cX5_move 75 = .ok (.imul, 1) := by decide +kernel
theorem dX5_move_76 : decode cX5_move 76 = .ok (.sipush 1000, 3) := by decide +kernel
theorem dX5_move_79 : decode cX5_move 79 = .ok (.idiv, 1) := by decide +kernel
theorem dX5_move_80 : decode cX5_move 80 = .ok (.goto 4, 3) := by decide +kernel
theorem dX5_move_83 : decode cX5_move 83 = .ok (.iconst 0, 1) := by decide +kernel
theorem dX5_move_84 : decode cX5_move 84 = .ok (.iastore, 1) := by decide +kernel
theorem dX5_move_85 : decode cX5_move 85 = .ok (.iconst 1, 1) := by decide +kernel
theorem dX5_move_86 : decode cX5_move 86 = .ok (.istore 6, 2) := by decide +kernel
theorem dX5_move_88 : decode cX5_move 88 = .ok (.iload 6, 2) := by decide +kernel
theorem dX5_move_90 : decode cX5_move 90 = .ok (.iload 5, 2) := by decide +kernel
theorem dX5_move_92 : decode cX5_move 92 = .ok (.if_icmp .ge 48, 3) := by decide +kernel
theorem dX5_move_95 : decode cX5_move 95 = .ok (.aload_n 0, 1) := by decide +kernel
theorem dX5_move_96 : decode cX5_move 96 = .ok (.getfield 35, 3) := by decide +kernel
theorem dX5_move_99 : decode cX5_move 99 = .ok (.iload 6, 2) := by decide +kernel
theorem dX5_move_101 : decode cX5_move 101 = .ok (.aload_n 0, 1) := by decide +kernel
theorem dX5_move_102 : decode cX5_move 102 = .ok (.getfield 13, 3) := by decide +kernel
theorem dX5_move_105 : decode cX5_move 105 = .ok (.iload 4, 2) := by decide +kernel
theorem dX5_move_107 : decode cX5_move 107 = .ok (.iload 6, 2) := by decide +kernel
theorem dX5_move_109 : decode cX5_move 109 = .ok (.iadd, 1) := by decide +kernel
theorem dX5_move_110 : decode cX5_move 110 = .ok (.iconst 1, 1) := by decide +kernel
theorem dX5_move_111 : decode cX5_move 111 = .ok (.isub, 1) := by decide +kernel
theorem dX5_move_112 : decode cX5_move 112 = .ok (.iaload, 1) := by decide +kernel
theorem dX5_move_113 : decode cX5_move 113 = .ok (.aload_n 0, 1) := by decide +kernel
theorem dX5_move_114 : decode cX5_move 114 = .ok (.getfield 13, 3) := by decide +kernel
theorem dX5_move_117 : decode cX5_move 117 = .ok (.iload 4, 2) := by decide +kernel
theorem dX5_move_119 : decode cX5_move 119 = .ok (.iload 6, 2) := by decide +kernel
theorem dX5_move_121 : decode cX5_move 121 = .ok (.iadd, 1) := by decide +kernel
theorem dX5_move_122 : decode cX5_move 122 = .ok (.iaload, 1) := by decide +kernel
theorem dX5_move_123 : decode cX5_move 123 = .ok (.isub, 1) := by decide +kernel
theorem dX5_move_124 : decode cX5_move 124 = .ok (.aload_n 0, 1) := by decide +kernel
theorem dX5_move_125 : decode cX5_move 125 = .ok (.getfield 56, 3) := by decide +kernel
theorem dX5_move_128 : decode cX5_move 128 = .ok (.imul, 1) := by decide +kernel
theorem dX5_move_129 : decode cX5_move 129 = .ok (.sipush 1000, 3) := by decide +kernel
theorem dX5_move_132 : decode cX5_move 132 = .ok (.idiv, 1) := by decide +kernel
theorem dX5_move_133 : decode cX5_move 133 = .ok (.iastore, 1) := by decide +kernel
theorem dX5_move_134 : decode cX5_move 134 = .ok (.iinc 6 1, 3) := by decide +kernel
theorem dX5_move_137 : decode cX5_move 137 = .ok (.goto (-49), 3) := by decide +kernel
theorem dX5_move_140 : decode cX5_move 140 = .ok (.iconst 0, 1) := by decide +kernel
theorem dX5_move_141 : decode cX5_move 141 = .ok (.istore 6, 2) := by decide +kernel
theorem dX5_move_143 : decode cX5_move 143 = .ok (.iload 6, 2) := by decide +kernel
theorem dX5_move_145 : decode cX5_move 145 = .ok (.iload 5, 2) := by decide +kernel
theorem dX5_move_147 : decode cX5_move 147 = .ok (.if_icmp .ge 39, 3) := by decide +kernel
theorem dX5_move_150 : decode cX5_move 150 = .ok (.aload_n 0, 1) := by decide +kernel
theorem dX5_move_151 : decode cX5_move 151 = .ok (.getfield 13, 3) := by decide +kernel
theorem dX5_move_154 : decode cX5_move 154 = .ok (.iload 4, 2) := by decide +kernel
theorem dX5_move_156 : decode cX5_move 156 = .ok (.iload 6, 2) := by decide +kernel
theorem dX5_move_158 : decode cX5_move 158 = .ok (.iadd, 1) := by decide +kernel
theorem dX5_move_159 : decode cX5_move 159 = .ok (.dup2, 1) := by decide +kernel
theorem dX5_move_160 : decode cX5_move 160 = .ok (.iaload, 1) := by decide +kernel
theorem dX5_move_161 : decode cX5_move 161 = .ok (.aload_n 0, 1) := by decide +kernel
theorem dX5_move_162 : decode cX5_move 162 = .ok (.getfield 35, 3) := by decide +kernel
theorem dX5_move_165 : decode cX5_move 165 = .ok (.iload 6, 2) := by decide +kernel
theorem dX5_move_167 : decode cX5_move 167 = .ok (.iaload, 1) := by decide +kernel
theorem dX5_move_168 : decode cX5_move 168 = .ok (.aload_n 0, 1) := by decide +kernel
theorem dX5_move_169 : decode cX5_move 169 = .ok (.getfield 35, 3) := by decide +kernel
theorem dX5_move_172 : decode cX5_move 172 = .ok (.iload 6, 2) := by decide +kernel
theorem dX5_move_174 : decode cX5_move 174 = .ok (.iconst 1, 1) := by decide +kernel
theorem dX5_move_175 : decode cX5_move 175 = .ok (.iadd, 1) := by decide +kernel
theorem dX5_move_176 : decode cX5_move 176 = .ok (.iaload, 1) := by decide +kernel
theorem dX5_move_177 : decode cX5_move 177 = .ok (.isub, 1) := by decide +kernel
theorem dX5_move_178 : decode cX5_move 178 = .ok (.iadd, 1) := by decide +kernel
theorem dX5_move_179 : decode cX5_move 179 = .ok (.iastore, 1) := by decide +kernel
theorem dX5_move_180 : decode cX5_move 180 = .ok (.iinc 6 1, 3) := by decide +kernel
theorem dX5_move_183 : decode cX5_move 183 = .ok (.goto (-40), 3) := by decide +kernel
theorem dX5_move_186 : decode cX5_move 186 = .ok (.aload_n 0, 1) := by decide +kernel
theorem dX5_move_187 : decode cX5_move 187 = .ok (.getfield 35, 3) := by decide +kernel
theorem dX5_move_190 : decode cX5_move 190 = .ok (.iload 5, 2) := by decide +kernel
theorem dX5_move_192 : decode cX5_move 192 = .ok (.iaload, 1) := by decide +kernel
theorem dX5_move_193 : decode cX5_move 193 = .ok (.aload_n 0, 1) := by decide +kernel
theorem dX5_move_194 : decode cX5_move 194 = .ok (.getfield 35, 3) := by decide +kernel
theorem dX5_move_197 : decode cX5_move 197 = .ok (.iconst 0, 1) := by decide +kernel
theorem dX5_move_198 : decode cX5_move 198 = .ok (.iaload, 1) := by decide +kernel
theorem dX5_move_199 : decode cX5_move 199 = .ok (.isub, 1) := by decide +kernel
theorem dX5_move_200 : decode cX5_move 200 = .ok (.ireturn, 1) := by decide +kernel
set_option maxRecDepth 20000 in
theorem ggX5_blow_X5_move : GoodIn wsX5_blow wsX5_move := goodIn_r _ [9, 10, 11, 12, 13, 14, 15, 16, 17, 18, 19, 20, 21, 22, 23, 24, 25, 26, 27, 28, 29, 30, 31, 32, 33, 34, 35, 36, 37, 38] (by decide +kernel) (by decide +kernel)
set_option maxRecDepth 20000 in
theorem gX5_blow_X5_move : GoodIn wsX5_blow (wsV RX5 103 RX5 yX5_move wsX5_move) := goodIn_app (goodIn_of _ (by decide +kernel)) ggX5_blow_X5_move
theorem dX5_blow_0 : decode cX5_blow 0 = .ok (.iconst 0, 1) := by decide +kernel
theorem dX5_blow_1 : decode cX5_blow 1 = .ok (.istore_n 2, 1) := by decide +kernel
theorem dX5_blow_2 : decode cX5_blow 2 = .ok (.iconst 0, 1) := by decide +kernel
theorem dX5_blow_3 : decode cX5_blow 3 = .ok (.istore_n 3, 1) := by decide +kernel
theorem dX5_blow_4 : decode cX5_blow 4 = .ok (.iload_n 3, 1) := by decide +kernel
theorem dX5_blow_5 : decode cX5_blow 5 = .ok (.aload_n 0, 1) := by decide +kernel
theorem dX5_blow_6 : decode cX5_blow 6 = .ok (.getfield 59, 3) := by decide +kernel
theorem dX5_blow_9 : decode cX5_blow 9 = .ok (.if_icmp .ge 74, 3) := by decide +kernel
theorem dX5_blow_12 : decode cX5_blow 12 = .ok (.aload_n 0, 1) := by decide +kernel
theorem dX5_blow_13 : decode cX5_blow 13 = .ok (.getfield 96, 3) := by decide +kernel
theorem dX5_blow_16 : decode cX5_blow 16 = .ok (.ifCond .eq 14, 3) := by decide +kernel
theorem dX5_blow_19 : decode cX5_blow 19 = .ok (.aload_n 0, 1) := by decide +kernel
theorem dX5_blow_20 : decode cX5_blow 20 = .ok (.getfield 59, 3) := by decide +kernel
theorem dX5_blow_23 : decode cX5_blow 23 = .ok (.iconst 1, 1) := by decide +kernel
theorem dX5_blow_24 : decode cX5_blow 24 = .ok (.isub, 1) := by decide +kernel
theorem dX5_blow_25 : decode cX5_blow 25 = .ok (.iload_n 3, 1) := by decide +kernel
theorem dX5_blow_26 : decode cX5_blow 26 = .ok (.isub, 1) := by decide +kernel
theorem dX5_blow_27 : decode cX5_blow 27 = .ok (.goto 4, 3) := by decide +kernel
theorem dX5_blow_30 : decode cX5_blow 30 = .ok (.iload_n 3, 1) := by decide +kernel
theorem dX5_blow_31 : decode cX5_blow 31 = .ok (.istore 4, 2) := by decide +kernel
theorem dX5_blow_33 : decode cX5_blow 33 = .ok (.iload_n 1, 1) := by decide +kernel
theorem dX5_blow_34 : decode cX5_blow 34 = .ok (.iload_n 2, 1) := by decide +kernel
theorem dX5_blow_35 : decode cX5_blow 35 = .ok (.aload_n 0, 1) := by decide +kernel
theorem dX5_blow_36 : decode cX5_blow 36 = .ok (.getfield 26, 3) := by decide +kernel
theorem dX5_blow_39 : decode cX5_blow 39 = .ok (.idiv, 1) := by decide +kernel
theorem dX5_blow_40 : decode cX5_blow 40 = .ok (.iadd, 1) := by decide +kernel
theorem dX5_blow_41 : decode cX5_blow 41 = .ok (.istore 5, 2) := by decide +kernel
theorem dX5_blow_43 : decode cX5_blow 43 = .ok (.iload 5, 2) := by decide +kernel
theorem dX5_blow_45 : decode cX5_blow 45 = .ok (.ifCond .ge 7, 3) := by decide +kernel
theorem dX5_blow_48 : decode cX5_blow 48 = .ok (.iconst 0, 1) := by decide +kernel
theorem dX5_blow_49 : decode cX5_blow 49 = .ok (.goto 5, 3) := by decide +kernel
theorem dX5_blow_52 : decode cX5_blow 52 = .ok (.iload 5, 2) := by decide +kernel
theorem dX5_blow_54 : decode cX5_blow 54 = .ok (.istore 5, 2) := by decide +kernel
theorem dX5_blow_56 : decode cX5_blow 56 = .ok (.aload_n 0, 1) := by decide +kernel
theorem dX5_blow_57 : decode cX5_blow 57 = .ok (.getfield 19, 3) := by decide +kernel
theorem dX5_blow_60 : decode cX5_blow 60 = .ok (.iload 4, 2) := by decide +kernel
theorem dX5_blow_62 : decode cX5_blow 62 = .ok (.iload 5, 2) := by decide +kernel
theorem dX5_blow_64 : decode cX5_blow 64 = .ok (.iastore, 1) := by decide +kernel
theorem dX5_blow_65 : decode cX5_blow 65 = .ok (.iload_n 2, 1) := by decide +kernel
theorem dX5_blow_66 : decode cX5_blow 66 = .ok (.aload_n 0, 1) := by decide +kernel
theorem dX5_blow_67 : decode cX5_blow 67 = .ok (.iload 4, 2) := by decide +kernel
theorem dX5_blow_69 : decode cX5_blow 69 = .ok (.iconst 1, 1) := by decide +kernel
theorem dX5_blow_70 : decode cX5_blow 70 = .ok (.iload 5, 2) := by decide +kernel
theorem dX5_blow_72 : decode cX5_blow 72 = .ok (.invokevirtual 103, 3) := by decide +kernel
theorem dX5_blow_75 : decode cX5_blow 75 = .ok (.iadd, 1) := by decide +kernel
theorem dX5_blow_76 : decode cX5_blow 76 = .ok (.istore_n 2, 1) := by decide +kernel
theorem dX5_blow_77 : decode cX5_blow 77 = .ok (.iinc 3 1, 3) := by decide +kernel
theorem dX5_blow_80 : decode cX5_blow 80 = .ok (.goto (-76), 3) := by decide +kernel
theorem dX5_blow_83 : decode cX5_blow 83 = .ok (.iload_n 2, 1) := by decide +kernel
theorem dX5_blow_84 : decode cX5_blow 84 = .ok (.ireturn, 1) := by decide +kernel
set_option maxRecDepth 20000 in
theorem ggX5_restAll_X5_move : GoodIn wsX5_restAll wsX5_move := goodIn_r _ [6, 7, 8, 9, 10, 11, 12, 13, 14, 15, 16, 17, 18, 19, 20, 21, 22, 23, 24, 25, 26, 27, 28, 29, 30, 31, 32, 33, 34, 35] (by decide +kernel) (by decide +kernel)
set_option maxRecDepth 20000 in
theorem gX5_restAll_X5_move : GoodIn wsX5_restAll (wsV RX5 103 RX5 yX5_move wsX5_move) := goodIn_app (goodIn_of _ (by decide +kernel)) ggX5_restAll_X5_move
theorem dX5_restAll_0 : decode cX5_restAll 0 = .ok (.iconst 0, 1) := by decide +kernel
theorem dX5_restAll_1 : decode cX5_restAll 1 = .ok (.istore_n 1, 1) := by decide +kernel
theorem dX5_restAll_2 : decode cX5_restAll 2 = .ok (.iload_n 1, 1) := by decide +kernel
theorem dX5_restAll_3 : decode cX5_restAll 3 = .ok (.aload_n 0, 1) := by decide +kernel
theorem dX5_restAll_4 : decode cX5_restAll 4 = .ok (.getfield 59, 3) := by decide +kernel
theorem dX5_restAll_7 : decode cX5_restAll 7 = .ok (.if_icmp .ge 17, 3) := by decide +kernel
theorem dX5_restAll_10 : decode cX5_restAll 10 = .ok (.aload_n 0, 1) := by decide +kernel
theorem dX5_restAll_11 : decode cX5_restAll 11 = .ok (.iload_n 1, 1) := by decide +kernel
theorem dX5_restAll_12 : decode cX5_restAll 12 = .ok (.iconst 0, 1) := by decide +kernel
theorem dX5_restAll_13 : decode cX5_restAll 13 = .ok (.iconst 0, 1) := by decide +kernel
theorem dX5_restAll_14 : decode cX5_restAll 14 = .ok (.invokevirtual 103, 3) := by decide +kernel
theorem dX5_restAll_17 : decode cX5_restAll 17 = .ok (.pop, 1) := by decide +kernel
theorem dX5_restAll_18 : decode cX5_restAll 18 = .ok (.iinc 1 1, 3) := by decide +kernel
theorem dX5_restAll_21 : decode cX5_restAll 21 = .ok (.goto (-19), 3) := by decide +kernel
theorem dX5_restAll_24 : decode cX5_restAll 24 = .ok (.return_, 1) := by decide +kernel
set_option maxRecDepth 20000 in
theorem ggX5_endHour_X5_strainOf : GoodIn wsX5_endHour wsX5_strainOf := goodIn_r _ [10, 11, 12, 13, 14, 15, 16, 17, 18, 19, 20, 21, 22, 23, 24, 25, 26, 27, 28, 29, 30, 31, 32, 33, 34, 35, 36] (by decide +kernel) (by decide +kernel)
set_option maxRecDepth 20000 in
theorem gX5_endHour_X5_strainOf : GoodIn wsX5_endHour (wsV RX5 86 RX5 yX5_strainOf wsX5_strainOf) := goodIn_app (goodIn_of _ (by decide +kernel)) ggX5_endHour_X5_strainOf
theorem dX5_endHour_0 : decode cX5_endHour 0 = .ok (.aload_n 0, 1) := by decide +kernel
theorem dX5_endHour_1 : decode cX5_endHour 1 = .ok (.dup, 1) := by decide +kernel
theorem dX5_endHour_2 : decode cX5_endHour 2 = .ok (.getfield 107, 3) := by decide +kernel
theorem dX5_endHour_5 : decode cX5_endHour 5 = .ok (.iconst 1, 1) := by decide +kernel
theorem dX5_endHour_6 : decode cX5_endHour 6 = .ok (.iadd, 1) := by decide +kernel
theorem dX5_endHour_7 : decode cX5_endHour 7 = .ok (.putfield 107, 3) := by decide +kernel
theorem dX5_endHour_10 : decode cX5_endHour 10 = .ok (.iconst 0, 1) := by decide +kernel
theorem dX5_endHour_11 : decode cX5_endHour 11 = .ok (.istore_n 1, 1) := by decide +kernel
theorem dX5_endHour_12 : decode cX5_endHour 12 = .ok (.iconst 0, 1) := by decide +kernel
theorem dX5_endHour_13 : decode cX5_endHour 13 = .ok (.istore_n 2, 1) := by decide +kernel
theorem dX5_endHour_14 : decode cX5_endHour 14 = .ok (.iload_n 2, 1) := by decide +kernel
theorem dX5_endHour_15 : decode cX5_endHour 15 = .ok (.aload_n 0, 1) := by decide +kernel
theorem dX5_endHour_16 : decode cX5_endHour 16 = .ok (.getfield 59, 3) := by decide +kernel
theorem dX5_endHour_19 : decode cX5_endHour 19 = .ok (.if_icmp .ge 45, 3) := by decide +kernel
theorem dX5_endHour_22 : decode cX5_endHour 22 = .ok (.aload_n 0, 1) := by decide +kernel
theorem dX5_endHour_23 : decode cX5_endHour 23 = .ok (.iload_n 2, 1) := by decide +kernel
theorem dX5_endHour_24 : decode cX5_endHour 24 = .ok (.invokevirtual 86, 3) := by decide +kernel
theorem dX5_endHour_27 : decode cX5_endHour 27 = .ok (.aload_n 0, 1) := by decide +kernel
theorem dX5_endHour_28 : decode cX5_endHour 28 = .ok (.getfield 29, 3) := by decide +kernel
theorem dX5_endHour_31 : decode cX5_endHour 31 = .ok (.if_icmp .le 27, 3) := by decide +kernel
theorem dX5_endHour_34 : decode cX5_endHour 34 = .ok (.aload_n 0, 1) := by decide +kernel
theorem dX5_endHour_35 : decode cX5_endHour 35 = .ok (.getfield 16, 3) := by decide +kernel
theorem dX5_endHour_38 : decode cX5_endHour 38 = .ok (.iload_n 2, 1) := by decide +kernel
theorem dX5_endHour_39 : decode cX5_endHour 39 = .ok (.iaload, 1) := by decide +kernel
theorem dX5_endHour_40 : decode cX5_endHour 40 = .ok (.ldc 68, 2) := by decide +kernel
theorem dX5_endHour_42 : decode cX5_endHour 42 = .ok (.if_icmp .ne 16, 3) := by decide +kernel
theorem dX5_endHour_45 : decode cX5_endHour 45 = .ok (.aload_n 0, 1) := by decide +kernel
theorem dX5_endHour_46 : decode cX5_endHour 46 = .ok (.getfield 16, 3) := by decide +kernel
theorem dX5_endHour_49 : decode cX5_endHour 49 = .ok (.iload_n 2, 1) := by decide +kernel
theorem dX5_endHour_50 : decode cX5_endHour 50 = .ok (.aload_n 0, 1) := by decide +kernel
theorem dX5_endHour_51 : decode cX5_endHour 51 = .ok (.getfield 107, 3) := by decide +kernel
theorem dX5_endHour_54 : decode cX5_endHour 54 = .ok (.iastore, 1) := by decide +kernel
theorem dX5_endHour_55 : decode cX5_endHour 55 = .ok (.iinc 1 1, 3) := by decide +kernel
theorem dX5_endHour_58 : decode cX5_endHour 58 = .ok (.iinc 2 1, 3) := by decide +kernel
theorem dX5_endHour_61 : decode cX5_endHour 61 = .ok (.goto (-47), 3) := by decide +kernel
theorem dX5_endHour_64 : decode cX5_endHour 64 = .ok (.iload_n 1, 1) := by decide +kernel
theorem dX5_endHour_65 : decode cX5_endHour 65 = .ok (.ireturn, 1) := by decide +kernel
theorem dX5_endDrying_0 : decode cX5_endDrying 0 = .ok (.aload_n 0, 1) := by decide +kernel
theorem dX5_endDrying_1 : decode cX5_endDrying 1 = .ok (.dup, 1) := by decide +kernel
theorem dX5_endDrying_2 : decode cX5_endDrying 2 = .ok (.getfield 110, 3) := by decide +kernel
theorem dX5_endDrying_5 : decode cX5_endDrying 5 = .ok (.iconst 1, 1) := by decide +kernel
theorem dX5_endDrying_6 : decode cX5_endDrying 6 = .ok (.iadd, 1) := by decide +kernel
theorem dX5_endDrying_7 : decode cX5_endDrying 7 = .ok (.putfield 110, 3) := by decide +kernel
theorem dX5_endDrying_10 : decode cX5_endDrying 10 = .ok (.aload_n 0, 1) := by decide +kernel
theorem dX5_endDrying_11 : decode cX5_endDrying 11 = .ok (.getfield 100, 3) := by decide +kernel
theorem dX5_endDrying_14 : decode cX5_endDrying 14 = .ok (.ifCond .le 31, 3) := by decide +kernel
theorem dX5_endDrying_17 : decode cX5_endDrying 17 = .ok (.aload_n 0, 1) := by decide +kernel
theorem dX5_endDrying_18 : decode cX5_endDrying 18 = .ok (.getfield 110, 3) := by decide +kernel
theorem dX5_endDrying_21 : decode cX5_endDrying 21 = .ok (.aload_n 0, 1) := by decide +kernel
theorem dX5_endDrying_22 : decode cX5_endDrying 22 = .ok (.getfield 100, 3) := by decide +kernel
theorem dX5_endDrying_25 : decode cX5_endDrying 25 = .ok (.irem, 1) := by decide +kernel
theorem dX5_endDrying_26 : decode cX5_endDrying 26 = .ok (.ifCond .ne 19, 3) := by decide +kernel
theorem dX5_endDrying_29 : decode cX5_endDrying 29 = .ok (.aload_n 0, 1) := by decide +kernel
theorem dX5_endDrying_30 : decode cX5_endDrying 30 = .ok (.aload_n 0, 1) := by decide +kernel
theorem dX5_endDrying_31 : decode cX5_endDrying 31 = .ok (.getfield 96, 3) := by decide +kernel
theorem dX5_endDrying_34 : decode cX5_endDrying 34 = .ok (.ifCond .ne 7, 3) := by decide +kernel
theorem dX5_endDrying_37 : decode cX5_endDrying 37 = .ok (.iconst 1, 1) := by decide +kernel
theorem dX5_endDrying_38 : decode cX5_endDrying 38 = .ok (.goto 4, 3) := by decide +kernel
theorem dX5_endDrying_41 : decode cX5_endDrying 41 = .ok (.iconst 0, 1) := by decide +kernel
theorem dX5_endDrying_42 : decode cX5_endDrying 42 = .ok (.putfield 96, 3) := by decide +kernel
theorem dX5_endDrying_45 : decode cX5_endDrying 45 = .ok (.return_, 1) := by decide +kernel
set_option maxRecDepth 20000 in
theorem ggX5_dryHour_X5_blow : GoodIn wsX5_dryHour wsX5_blow := goodIn_r _ [6, 7, 8, 9, 10, 11, 12, 13, 5, 14, 15, 16, 17, 18, 19, 38, 39, 40, 41, 42, 43, 44, 45, 46, 47, 48, 49, 50, 51, 52, 53, 54, 55, 56, 57, 58, 59, 60, 61] (by decide +kernel) (by decide +kernel)
set_option maxRecDepth 20000 in
theorem gX5_dryHour_X5_blow : GoodIn wsX5_dryHour (wsV RX5 113 RX5 yX5_blow wsX5_blow) := goodIn_app (goodIn_of _ (by decide +kernel)) ggX5_dryHour_X5_blow
set_option maxRecDepth 20000 in
theorem ggX5_dryHour_X5_endHour : GoodIn wsX5_dryHour wsX5_endHour := goodIn_r _ [23, 24, 7, 25, 26, 27, 28, 29, 30, 5, 31, 15, 17, 38, 39, 40, 41, 42, 43, 44, 45, 46, 47, 48, 49, 50, 51, 52, 53, 54, 55, 56, 57, 58, 59, 60, 61] (by decide +kernel) (by decide +kernel)
set_option maxRecDepth 20000 in
theorem gX5_dryHour_X5_endHour : GoodIn wsX5_dryHour (wsV RX5 119 RX5 yX5_endHour wsX5_endHour) := goodIn_app (goodIn_of _ (by decide +kernel)) ggX5_dryHour_X5_endHour
set_option maxRecDepth 20000 in
theorem ggX5_dryHour_X5_endDrying : GoodIn wsX5_dryHour wsX5_endDrying := goodIn_r _ [35, 36, 37, 8, 38, 39, 40, 41, 42, 43, 44, 45, 46, 47, 48, 49, 50, 51, 52, 53, 54, 55, 56, 57, 58, 59, 60, 61] (by decide +kernel) (by decide +kernel)
set_option maxRecDepth 20000 in
theorem gX5_dryHour_X5_endDrying : GoodIn wsX5_dryHour (wsV RX5 122 RX5 yX5_endDrying wsX5_endDrying) := goodIn_app (goodIn_of _ (by decide +kernel)) ggX5_dryHour_X5_endDrying
theorem dX5_dryHour_0 : decode cX5_dryHour 0 = .ok (.aload_n 0, 1) := by decide +kernel
theorem dX5_dryHour_1 : decode cX5_dryHour 1 = .ok (.iload_n 1, 1) := by decide +kernel
theorem dX5_dryHour_2 : decode cX5_dryHour 2 = .ok (.invokevirtual 113, 3) := by decide +kernel
theorem dX5_dryHour_5 : decode cX5_dryHour 5 = .ok (.istore_n 2, 1) := by decide +kernel
theorem dX5_dryHour_6 : decode cX5_dryHour 6 = .ok (.aload_n 0, 1) := by decide +kernel
theorem dX5_dryHour_7 : decode cX5_dryHour 7 = .ok (.dup, 1) := by decide +kernel
theorem dX5_dryHour_8 : decode cX5_dryHour 8 = .ok (.getfield 116, 3) := by decide +kernel
theorem dX5_dryHour_11 : decode cX5_dryHour 11 = .ok (.iload_n 2, 1) := by decide +kernel
theorem dX5_dryHour_12 : decode cX5_dryHour 12 = .ok (.iadd, 1) := by decide +kernel
theorem dX5_dryHour_13 : decode cX5_dryHour 13 = .ok (.putfield 116, 3) := by decide +kernel
theorem dX5_dryHour_16 : decode cX5_dryHour 16 = .ok (.aload_n 0, 1) := by decide +kernel
theorem dX5_dryHour_17 : decode cX5_dryHour 17 = .ok (.invokevirtual 119, 3) := by decide +kernel
theorem dX5_dryHour_20 : decode cX5_dryHour 20 = .ok (.pop, 1) := by decide +kernel
theorem dX5_dryHour_21 : decode cX5_dryHour 21 = .ok (.aload_n 0, 1) := by decide +kernel
theorem dX5_dryHour_22 : decode cX5_dryHour 22 = .ok (.invokevirtual 122, 3) := by decide +kernel
theorem dX5_dryHour_25 : decode cX5_dryHour 25 = .ok (.iload_n 2, 1) := by decide +kernel
theorem dX5_dryHour_26 : decode cX5_dryHour 26 = .ok (.ireturn, 1) := by decide +kernel
set_option maxRecDepth 20000 in
theorem ggX5_dry_X5_isBetween : GoodIn wsX5_dry wsX5_isBetween := goodIn_r _ [6] (by decide +kernel) (by decide +kernel)
set_option maxRecDepth 20000 in
theorem gX5_dry_X5_isBetween : GoodIn wsX5_dry (va_wsS RX5 62 yX5_isBetween wsX5_isBetween) := goodIn_app (goodIn_of _ (by decide +kernel)) ggX5_dry_X5_isBetween
set_option maxRecDepth 20000 in
theorem ggX5_dry_X5_dryHour : GoodIn wsX5_dry wsX5_dryHour := goodIn_r _ [10, 11, 12, 13, 14, 5, 15, 16, 17, 18, 19, 20, 21, 22, 23, 24, 25, 26, 27, 28, 29, 30, 31, 32, 33, 34, 35, 36, 37, 38, 39, 40, 41, 42, 43, 44, 45, 46, 47, 48, 49, 50, 51, 52, 53, 54, 55, 56, 57, 58, 59, 60, 61, 62, 63, 64, 65, 66, 67, 68, 69, 70] (by decide +kernel) (by decide +kernel)
set_option maxRecDepth 20000 in
theorem gX5_dry_X5_dryHour : GoodIn wsX5_dry (wsV RX5 125 RX5 yX5_dryHour wsX5_dryHour) := goodIn_app (goodIn_of _ (by decide +kernel)) ggX5_dry_X5_dryHour
theorem dX5_dry_0 : decode cX5_dry 0 = .ok (.iload_n 1, 1) := by decide +kernel
theorem dX5_dry_1 : decode cX5_dry 1 = .ok (.iconst 1, 1) := by decide +kernel
theorem dX5_dry_2 : decode cX5_dry 2 = .ok (.sipush 200, 3) := by decide +kernel
theorem dX5_dry_5 : decode cX5_dry 5 = .ok (.invokestatic 62, 3) := by decide +kernel
theorem dX5_dry_8 : decode cX5_dry 8 = .ok (.ifCond .ne 6, 3) := by decide +kernel
theorem dX5_dry_11 : decode cX5_dry 11 = .ok (.ldc 66, 2) := by decide +kernel
theorem dX5_dry_13 : decode cX5_dry 13 = .ok (.ireturn, 1) := by decide +kernel
theorem dX5_dry_14 : decode cX5_dry 14 = .ok (.iconst 0, 1) := by decide +kernel
theorem dX5_dry_15 : decode cX5_dry 15 = .ok (.istore_n 2, 1) := by decide +kernel
theorem dX5_dry_16 : decode cX5_dry 16 = .ok (.iconst 0, 1) := by decide +kernel
theorem dX5_dry_17 : decode cX5_dry 17 = .ok (.istore_n 3, 1) := by decide +kernel
theorem dX5_dry_18 : decode cX5_dry 18 = .ok (.iload_n 3, 1) := by decide +kernel
theorem dX5_dry_19 : decode cX5_dry 19 = .ok (.iload_n 1, 1) := by decide +kernel
theorem dX5_dry_20 : decode cX5_dry 20 = .ok (.if_icmp .ge 20, 3) := by decide +kernel
theorem dX5_dry_23 : decode cX5_dry 23 = .ok (.iload_n 2, 1) := by decide +kernel
theorem dX5_dry_24 : decode cX5_dry 24 = .ok (.aload_n 0, 1) := by decide +kernel
theorem dX5_dry_25 : decode cX5_dry 25 = .ok (.aload_n 0, 1) := by decide +kernel
theorem dX5_dry_26 : decode cX5_dry 26 = .ok (.getfield 32, 3) := by decide +kernel
theorem dX5_dry_29 : decode cX5_dry 29 = .ok (.invokevirtual 125, 3) := by decide +kernel
theorem dX5_dry_32 : decode cX5_dry 32 = .ok (.iadd, 1) := by decide +kernel
theorem dX5_dry_33 : decode cX5_dry 33 = .ok (.istore_n 2, 1) := by decide +kernel
theorem dX5_dry_34 : decode cX5_dry 34 = .ok (.iinc 3 1, 3) := by decide +kernel
theorem dX5_dry_37 : decode cX5_dry 37 = .ok (.goto (-19), 3) := by decide +kernel
theorem dX5_dry_40 : decode cX5_dry 40 = .ok (.iload_n 2, 1) := by decide +kernel
theorem dX5_dry_41 : decode cX5_dry 41 = .ok (.ireturn, 1) := by decide +kernel
set_option maxRecDepth 20000 in
theorem ggX5_rest_X5_isBetween : GoodIn wsX5_rest wsX5_isBetween := goodIn_r _ [5] (by decide +kernel) (by decide +kernel)
set_option maxRecDepth 20000 in
theorem gX5_rest_X5_isBetween : GoodIn wsX5_rest (va_wsS RX5 62 yX5_isBetween wsX5_isBetween) := goodIn_app (goodIn_of _ (by decide +kernel)) ggX5_rest_X5_isBetween
set_option maxRecDepth 20000 in
theorem ggX5_rest_X5_restAll : GoodIn wsX5_rest wsX5_restAll := goodIn_r _ [9, 10, 11, 12, 13, 4, 14, 15, 16, 17, 18, 19, 32, 33, 34, 35, 36, 37, 38, 39, 40, 41, 42, 43, 44, 45, 46, 47, 48, 49, 50, 51, 52, 53, 54, 55] (by decide +kernel) (by decide +kernel)
set_option maxRecDepth 20000 in
theorem gX5_rest_X5_restAll : GoodIn wsX5_rest (wsV RX5 128 RX5 yX5_restAll wsX5_restAll) := goodIn_app (goodIn_of _ (by decide +kernel)) ggX5_rest_X5_restAll
set_option maxRecDepth 20000 in
theorem ggX5_rest_X5_endHour : GoodIn wsX5_rest wsX5_endHour := goodIn_r _ [23, 24, 10, 25, 26, 27, 28, 29, 30, 4, 31, 15, 17, 32, 33, 34, 35, 36, 37, 38, 39, 40, 41, 42, 43, 44, 45, 46, 47, 48, 49, 50, 51, 52, 53, 54, 55] (by decide +kernel) (by decide +kernel)
set_option maxRecDepth 20000 in
theorem gX5_rest_X5_endHour : GoodIn wsX5_rest (wsV RX5 119 RX5 yX5_endHour wsX5_endHour) := goodIn_app (goodIn_of _ (by decide +kernel)) ggX5_rest_X5_endHour
theorem dX5_rest_0 : decode cX5_rest 0 = .ok (.iload_n 1, 1) := by decide +kernel
theorem dX5_rest_1 : decode cX5_rest 1 = .ok (.iconst 1, 1) := by decide +kernel
theorem dX5_rest_2 : decode cX5_rest 2 = .ok (.sipush 200, 3) := by decide +kernel
theorem dX5_rest_5 : decode cX5_rest 5 = .ok (.invokestatic 62, 3) := by decide +kernel
theorem dX5_rest_8 : decode cX5_rest 8 = .ok (.ifCond .ne 6, 3) := by decide +kernel
theorem dX5_rest_11 : decode cX5_rest 11 = .ok (.ldc 66, 2) := by decide +kernel
theorem dX5_rest_13 : decode cX5_rest 13 = .ok (.ireturn, 1) := by decide +kernel
theorem dX5_rest_14 : decode cX5_rest 14 = .ok (.iconst 0, 1) := by decide +kernel
theorem dX5_rest_15 : decode cX5_rest 15 = .ok (.istore_n 2, 1) := by decide +kernel
theorem dX5_rest_16 : decode cX5_rest 16 = .ok (.iconst 0, 1) := by decide +kernel
theorem dX5_rest_17 : decode cX5_rest 17 = .ok (.istore_n 3, 1) := by decide +kernel
theorem dX5_rest_18 : decode cX5_rest 18 = .ok (.iload_n 3, 1) := by decide +kernel
theorem dX5_rest_19 : decode cX5_rest 19 = .ok (.iload_n 1, 1) := by decide +kernel
theorem dX5_rest_20 : decode cX5_rest 20 = .ok (.if_icmp .ge 20, 3) := by decide +kernel
theorem dX5_rest_23 : decode cX5_rest 23 = .ok (.aload_n 0, 1) := by decide +kernel
theorem dX5_rest_24 : decode cX5_rest 24 = .ok (.invokevirtual 128, 3) := by decide +kernel
theorem dX5_rest_27 : decode cX5_rest 27 = .ok (.iload_n 2, 1) := by decide +kernel
theorem dX5_rest_28 : decode cX5_rest 28 = .ok (.aload_n 0, 1) := by decide +kernel
theorem dX5_rest_29 : decode cX5_rest 29 = .ok (.invokevirtual 119, 3) := by decide +kernel
theorem dX5_rest_32 : decode cX5_rest 32 = .ok (.iadd, 1) := by decide +kernel
theorem dX5_rest_33 : decode cX5_rest 33 = .ok (.istore_n 2, 1) := by decide +kernel
theorem dX5_rest_34 : decode cX5_rest 34 = .ok (.iinc 3 1, 3) := by decide +kernel
theorem dX5_rest_37 : decode cX5_rest 37 = .ok (.goto (-19), 3) := by decide +kernel
theorem dX5_rest_40 : decode cX5_rest 40 = .ok (.iload_n 2, 1) := by decide +kernel
theorem dX5_rest_41 : decode cX5_rest 41 = .ok (.ireturn, 1) := by decide +kernel
theorem dX5_hour_0 : decode cX5_hour 0 = .ok (.aload_n 0, 1) := by decide +kernel
theorem dX5_hour_1 : decode cX5_hour 1 = .ok (.getfield 107, 3) := by decide +kernel
theorem dX5_hour_4 : decode cX5_hour 4 = .ok (.ireturn, 1) := by decide +kernel
theorem dX5_evaporated_0 : decode cX5_evaporated 0 = .ok (.aload_n 0, 1) := by decide +kernel
theorem dX5_evaporated_1 : decode cX5_evaporated 1 = .ok (.getfield 116, 3) := by decide +kernel
theorem dX5_evaporated_4 : decode cX5_evaporated 4 = .ok (.ireturn, 1) := by decide +kernel
set_option maxRecDepth 20000 in
theorem ggX5_airMoisture_X5_isBoard : GoodIn wsX5_airMoisture wsX5_isBoard := goodIn_r _ [7, 8, 9, 10, 6, 11, 12, 13, 14, 15, 16, 17, 18, 19, 20, 21, 22, 23, 24, 25, 26, 27, 28, 29, 30, 31, 32, 33, 34, 35] (by decide +kernel) (by decide +kernel)
set_option maxRecDepth 20000 in
theorem gX5_airMoisture_X5_isBoard : GoodIn wsX5_airMoisture (wsV RX5 69 RX5 yX5_isBoard wsX5_isBoard) := goodIn_app (goodIn_of _ (by decide +kernel)) ggX5_airMoisture_X5_isBoard
theorem dX5_airMoisture_0 : decode cX5_airMoisture 0 = .ok (.aload_n 0, 1) := by decide +kernel
theorem dX5_airMoisture_1 : decode cX5_airMoisture 1 = .ok (.iload_n 1, 1) := by decide +kernel
theorem dX5_airMoisture_2 : decode cX5_airMoisture 2 = .ok (.invokevirtual 69, 3) := by decide +kernel
theorem dX5_airMoisture_5 : decode cX5_airMoisture 5 = .ok (.ifCond .eq 12, 3) := by decide +kernel
theorem dX5_airMoisture_8 : decode cX5_airMoisture 8 = .ok (.aload_n 0, 1) := by decide +kernel
theorem dX5_airMoisture_9 : decode cX5_airMoisture 9 = .ok (.getfield 19, 3) := by decide +kernel
theorem dX5_airMoisture_12 : decode cX5_airMoisture 12 = .ok (.iload_n 1, 1) := by decide +kernel
theorem dX5_airMoisture_13 : decode cX5_airMoisture 13 = .ok (.iaload, 1) := by decide +kernel
theorem dX5_airMoisture_14 : decode cX5_airMoisture 14 = .ok (.goto 5, 3) := by decide +kernel
theorem dX5_airMoisture_17 : decode cX5_airMoisture 17 = .ok (.ldc 73, 2) := by decide +kernel
theorem dX5_airMoisture_19 : decode cX5_airMoisture 19 = .ok (.ireturn, 1) := by decide +kernel
set_option maxRecDepth 20000 in
theorem ggX5_addStage_X5_isBetween : GoodIn wsX5_addStage wsX5_isBetween := goodIn_r _ [9] (by decide +kernel) (by decide +kernel)
set_option maxRecDepth 20000 in
theorem gX5_addStage_X5_isBetween : GoodIn wsX5_addStage (va_wsS RX5 62 yX5_isBetween wsX5_isBetween) := goodIn_app (goodIn_of _ (by decide +kernel)) ggX5_addStage_X5_isBetween
theorem dX5_addStage_0 : decode cX5_addStage 0 = .ok (.iload_n 1, 1) := by decide +kernel
theorem dX5_addStage_1 : decode cX5_addStage 1 = .ok (.iconst 0, 1) := by decide +kernel
theorem dX5_addStage_2 : decode cX5_addStage 2 = .ok (.sipush 2000, 3) := by decide +kernel
theorem dX5_addStage_5 : decode cX5_addStage 5 = .ok (.invokestatic 62, 3) := by decide +kernel
theorem dX5_addStage_8 : decode cX5_addStage 8 = .ok (.ifCond .eq 36, 3) := by decide +kernel
theorem dX5_addStage_11 : decode cX5_addStage 11 = .ok (.aload_n 0, 1) := by decide +kernel
theorem dX5_addStage_12 : decode cX5_addStage 12 = .ok (.getfield 131, 3) := by decide +kernel
theorem dX5_addStage_15 : decode cX5_addStage 15 = .ok (.ifCond .le 18, 3) := by decide +kernel
theorem dX5_addStage_18 : decode cX5_addStage 18 = .ok (.iload_n 1, 1) := by decide +kernel
theorem dX5_addStage_19 : decode cX5_addStage 19 = .ok (.aload_n 0, 1) := by decide +kernel
theorem dX5_addStage_20 : decode cX5_addStage 20 = .ok (.getfield 38, 3) := by decide +kernel
theorem dX5_addStage_23 : decode cX5_addStage 23 = .ok (.aload_n 0, 1) := by decide +kernel
theorem dX5_addStage_24 : decode cX5_addStage 24 = .ok (.getfield 131, 3) := by decide +kernel
theorem dX5_addStage_27 : decode cX5_addStage 27 = .ok (.iconst 1, 1) := by decide +kernel
theorem dX5_addStage_28 : decode cX5_addStage 28 = .ok (.isub, 1) := by decide +kernel
theorem dX5_addStage_29 : decode cX5_addStage 29 = .ok (.iaload, 1) := by decide +kernel
theorem dX5_addStage_30 : decode cX5_addStage 30 = .ok (.if_icmp .ge 14, 3) := by decide +kernel
theorem dX5_addStage_33 : decode cX5_addStage 33 = .ok (.iload_n 2, 1) := by decide +kernel
theorem dX5_addStage_34 : decode cX5_addStage 34 = .ok (.iconst 0, 1) := by decide +kernel
theorem dX5_addStage_35 : decode cX5_addStage 35 = .ok (.sipush 300, 3) := by decide +kernel
theorem dX5_addStage_38 : decode cX5_addStage 38 = .ok (.invokestatic 62, 3) := by decide +kernel
theorem dX5_addStage_41 : decode cX5_addStage 41 = .ok (.ifCond .ne 6, 3) := by decide +kernel
theorem dX5_addStage_44 : decode cX5_addStage 44 = .ok (.ldc 66, 2) := by decide +kernel
theorem dX5_addStage_46 : decode cX5_addStage 46 = .ok (.ireturn, 1) := by decide +kernel
theorem dX5_addStage_47 : decode cX5_addStage 47 = .ok (.aload_n 0, 1) := by decide +kernel
theorem dX5_addStage_48 : decode cX5_addStage 48 = .ok (.getfield 131, 3) := by decide +kernel
theorem dX5_addStage_51 : decode cX5_addStage 51 = .ok (.bipush 8, 2) := by decide +kernel
theorem dX5_addStage_53 : decode cX5_addStage 53 = .ok (.if_icmp .ne 6, 3) := by decide +kernel
theorem dX5_addStage_56 : decode cX5_addStage 56 = .ok (.ldc 67, 2) := by decide +kernel
theorem dX5_addStage_58 : decode cX5_addStage 58 = .ok (.ireturn, 1) := by decide +kernel
theorem dX5_addStage_59 : decode cX5_addStage 59 = .ok (.aload_n 0, 1) := by decide +kernel
theorem dX5_addStage_60 : decode cX5_addStage 60 = .ok (.getfield 38, 3) := by decide +kernel
theorem dX5_addStage_63 : decode cX5_addStage 63 = .ok (.aload_n 0, 1) := by decide +kernel
theorem dX5_addStage_64 : decode cX5_addStage 64 = .ok (.getfield 131, 3) := by decide +kernel
theorem dX5_addStage_67 : decode cX5_addStage 67 = .ok (.iload_n 1, 1) := by decide +kernel
theorem dX5_addStage_68 : decode cX5_addStage 68 = .ok (.iastore, 1) := by decide +kernel
theorem dX5_addStage_69 : decode cX5_addStage 69 = .ok (.aload_n 0, 1) := by decide +kernel
theorem dX5_addStage_70 : decode cX5_addStage 70 = .ok (.getfield 41, 3) := by decide +kernel
theorem dX5_addStage_73 : decode cX5_addStage 73 = .ok (.aload_n 0, 1) := by decide +kernel
theorem dX5_addStage_74 : decode cX5_addStage 74 = .ok (.getfield 131, 3) := by decide +kernel
theorem dX5_addStage_77 : decode cX5_addStage 77 = .ok (.iload_n 2, 1) := by decide +kernel
theorem dX5_addStage_78 : decode cX5_addStage 78 = .ok (.iastore, 1) := by decide +kernel
theorem dX5_addStage_79 : decode cX5_addStage 79 = .ok (.aload_n 0, 1) := by decide +kernel
theorem dX5_addStage_80 : decode cX5_addStage 80 = .ok (.dup, 1) := by decide +kernel
theorem dX5_addStage_81 : decode cX5_addStage 81 = .ok (.getfield 131, 3) := by decide +kernel
theorem dX5_addStage_84 : decode cX5_addStage 84 = .ok (.iconst 1, 1) := by decide +kernel
theorem dX5_addStage_85 : decode cX5_addStage 85 = .ok (.iadd, 1) := by decide +kernel
theorem dX5_addStage_86 : decode cX5_addStage 86 = .ok (.putfield 131, 3) := by decide +kernel
theorem dX5_addStage_89 : decode cX5_addStage 89 = .ok (.aload_n 0, 1) := by decide +kernel
theorem dX5_addStage_90 : decode cX5_addStage 90 = .ok (.getfield 131, 3) := by decide +kernel
theorem dX5_addStage_93 : decode cX5_addStage 93 = .ok (.iconst 1, 1) := by decide +kernel
theorem dX5_addStage_94 : decode cX5_addStage 94 = .ok (.isub, 1) := by decide +kernel
theorem dX5_addStage_95 : decode cX5_addStage 95 = .ok (.ireturn, 1) := by decide +kernel
theorem dX5_clearStages_0 : decode cX5_clearStages 0 = .ok (.aload_n 0, 1) := by decide +kernel
theorem dX5_clearStages_1 : decode cX5_clearStages 1 = .ok (.getfield 131, 3) := by decide +kernel
theorem dX5_clearStages_4 : decode cX5_clearStages 4 = .ok (.istore_n 1, 1) := by decide +kernel
theorem dX5_clearStages_5 : decode cX5_clearStages 5 = .ok (.aload_n 0, 1) := by decide +kernel
theorem dX5_clearStages_6 : decode cX5_clearStages 6 = .ok (.iconst 0, 1) := by decide +kernel
theorem dX5_clearStages_7 : decode cX5_clearStages 7 = .ok (.putfield 131, 3) := by decide +kernel
theorem dX5_clearStages_10 : decode cX5_clearStages 10 = .ok (.iload_n 1, 1) := by decide +kernel
theorem dX5_clearStages_11 : decode cX5_clearStages 11 = .ok (.ireturn, 1) := by decide +kernel
set_option maxRecDepth 20000 in
theorem ggX5_stageNow_X5_wettest : GoodIn wsX5_stageNow wsX5_wettest := goodIn_r _ [8, 1, 9, 10, 11, 12, 7, 13, 14, 15, 16, 17, 18, 19, 20, 21, 22, 23, 24, 25, 26, 27, 28, 29, 30, 31, 32, 33, 34, 35, 36, 37, 38, 39, 40, 41, 42, 43] (by decide +kernel) (by decide +kernel)
set_option maxRecDepth 20000 in
theorem gX5_stageNow_X5_wettest : GoodIn wsX5_stageNow (wsV RX5 89 RX5 yX5_wettest wsX5_wettest) := goodIn_app (goodIn_of _ (by decide +kernel)) ggX5_stageNow_X5_wettest
set_option maxRecDepth 20000 in
theorem ggX5_stageNow_X5_averageOf : GoodIn wsX5_stageNow wsX5_averageOf := goodIn_r _ [13, 14, 15, 16, 17, 7, 18, 19, 20, 21, 22, 23, 24, 25, 26, 27, 28, 29, 30, 31, 32, 33, 34, 35, 36, 37, 38, 39, 40, 41, 42, 43] (by decide +kernel) (by decide +kernel)
set_option maxRecDepth 20000 in
theorem gX5_stageNow_X5_averageOf : GoodIn wsX5_stageNow (wsV RX5 83 RX5 yX5_averageOf wsX5_averageOf) := goodIn_app (goodIn_of _ (by decide +kernel)) ggX5_stageNow_X5_averageOf
theorem dX5_stageNow_0 : decode cX5_stageNow 0 = .ok (.aload_n 0, 1) := by decide +kernel
theorem dX5_stageNow_1 : decode cX5_stageNow 1 = .ok (.invokevirtual 89, 3) := by decide +kernel
theorem dX5_stageNow_4 : decode cX5_stageNow 4 = .ok (.istore_n 1, 1) := by decide +kernel
theorem dX5_stageNow_5 : decode cX5_stageNow 5 = .ok (.ldc 68, 2) := by decide +kernel
theorem dX5_stageNow_7 : decode cX5_stageNow 7 = .ok (.istore_n 2, 1) := by decide +kernel
theorem dX5_stageNow_8 : decode cX5_stageNow 8 = .ok (.iconst 0, 1) := by decide +kernel
theorem dX5_stageNow_9 : decode cX5_stageNow 9 = .ok (.istore_n 3, 1) := by decide +kernel
theorem dX5_stageNow_10 : decode cX5_stageNow 10 = .ok (.iload_n 3, 1) := by decide +kernel
theorem dX5_stageNow_11 : decode cX5_stageNow 11 = .ok (.aload_n 0, 1) := by decide +kernel
theorem dX5_stageNow_12 : decode cX5_stageNow 12 = .ok (.getfield 131, 3) := by decide +kernel
theorem dX5_stageNow_15 : decode cX5_stageNow 15 = .ok (.if_icmp .ge 35, 3) := by decide +kernel
theorem dX5_stageNow_18 : decode cX5_stageNow 18 = .ok (.iload_n 1, 1) := by decide +kernel
theorem dX5_stageNow_19 : decode cX5_stageNow 19 = .ok (.ldc 68, 2) := by decide +kernel
theorem dX5_stageNow_21 : decode cX5_stageNow 21 = .ok (.if_icmp .eq 29, 3) := by decide +kernel
theorem dX5_stageNow_24 : decode cX5_stageNow 24 = .ok (.aload_n 0, 1) := by decide +kernel
theorem dX5_stageNow_25 : decode cX5_stageNow 25 = .ok (.getfield 38, 3) := by decide +kernel
theorem dX5_stageNow_28 : decode cX5_stageNow 28 = .ok (.iload_n 3, 1) := by decide +kernel
theorem dX5_stageNow_29 : decode cX5_stageNow 29 = .ok (.iaload, 1) := by decide +kernel
theorem dX5_stageNow_30 : decode cX5_stageNow 30 = .ok (.aload_n 0, 1) := by decide +kernel
theorem dX5_stageNow_31 : decode cX5_stageNow 31 = .ok (.iload_n 1, 1) := by decide +kernel
theorem dX5_stageNow_32 : decode cX5_stageNow 32 = .ok (.invokevirtual 83, 3) := by decide +kernel
theorem dX5_stageNow_35 : decode cX5_stageNow 35 = .ok (.if_icmp .lt 7, 3) := by decide +kernel
theorem dX5_stageNow_38 : decode cX5_stageNow 38 = .ok (.iload_n 3, 1) := by decide +kernel
theorem dX5_stageNow_39 : decode cX5_stageNow 39 = .ok (.goto 4, 3) := by decide +kernel
theorem dX5_stageNow_42 : decode cX5_stageNow 42 = .ok (.iload_n 2, 1) := by decide +kernel
theorem dX5_stageNow_43 : decode cX5_stageNow 43 = .ok (.istore_n 2, 1) := by decide +kernel
theorem dX5_stageNow_44 : decode cX5_stageNow 44 = .ok (.iinc 3 1, 3) := by decide +kernel
theorem dX5_stageNow_47 : decode cX5_stageNow 47 = .ok (.goto (-37), 3) := by decide +kernel
theorem dX5_stageNow_50 : decode cX5_stageNow 50 = .ok (.iload_n 2, 1) := by decide +kernel
theorem dX5_stageNow_51 : decode cX5_stageNow 51 = .ok (.ireturn, 1) := by decide +kernel
set_option maxRecDepth 20000 in
theorem ggX5_currentStage_X5_stageNow : GoodIn wsX5_currentStage wsX5_stageNow := goodIn_r _ [5, 6, 7, 8, 9, 10, 11, 4, 12, 13, 14, 15, 16, 17, 18, 19, 20, 21, 22, 23, 24, 25, 26, 27, 28, 29, 30, 31, 32, 33, 34, 35, 36, 37, 38, 39, 40, 41, 42, 43, 44, 45, 46, 47] (by decide +kernel) (by decide +kernel)
set_option maxRecDepth 20000 in
theorem gX5_currentStage_X5_stageNow : GoodIn wsX5_currentStage (wsV RX5 134 RX5 yX5_stageNow wsX5_stageNow) := goodIn_app (goodIn_of _ (by decide +kernel)) ggX5_currentStage_X5_stageNow
theorem dX5_currentStage_0 : decode cX5_currentStage 0 = .ok (.aload_n 0, 1) := by decide +kernel
theorem dX5_currentStage_1 : decode cX5_currentStage 1 = .ok (.invokevirtual 134, 3) := by decide +kernel
theorem dX5_currentStage_4 : decode cX5_currentStage 4 = .ok (.ireturn, 1) := by decide +kernel
set_option maxRecDepth 20000 in
theorem ggX5_isWet_X5_wettest : GoodIn wsX5_isWet wsX5_wettest := goodIn_r _ [6, 1, 7, 8, 9, 10, 5, 11, 12, 13, 14, 15, 16, 17, 18, 19, 20, 21, 22, 23, 24, 25, 26, 27, 28, 29, 30, 31, 32, 33, 34, 35, 36, 37, 38, 39, 40, 41] (by decide +kernel) (by decide +kernel)
set_option maxRecDepth 20000 in
theorem gX5_isWet_X5_wettest : GoodIn wsX5_isWet (wsV RX5 89 RX5 yX5_wettest wsX5_wettest) := goodIn_app (goodIn_of _ (by decide +kernel)) ggX5_isWet_X5_wettest
set_option maxRecDepth 20000 in
theorem ggX5_isWet_X5_averageOf : GoodIn wsX5_isWet wsX5_averageOf := goodIn_r _ [11, 12, 13, 14, 15, 5, 16, 17, 18, 19, 20, 21, 22, 23, 24, 25, 26, 27, 28, 29, 30, 31, 32, 33, 34, 35, 36, 37, 38, 39, 40, 41] (by decide +kernel) (by decide +kernel)
set_option maxRecDepth 20000 in
theorem gX5_isWet_X5_averageOf : GoodIn wsX5_isWet (wsV RX5 83 RX5 yX5_averageOf wsX5_averageOf) := goodIn_app (goodIn_of _ (by decide +kernel)) ggX5_isWet_X5_averageOf
theorem dX5_isWet_0 : decode cX5_isWet 0 = .ok (.aload_n 0, 1) := by decide +kernel
theorem dX5_isWet_1 : decode cX5_isWet 1 = .ok (.invokevirtual 89, 3) := by decide +kernel
theorem dX5_isWet_4 : decode cX5_isWet 4 = .ok (.istore_n 2, 1) := by decide +kernel
theorem dX5_isWet_5 : decode cX5_isWet 5 = .ok (.iload_n 2, 1) := by decide +kernel
theorem dX5_isWet_6 : decode cX5_isWet 6 = .ok (.ldc 68, 2) := by decide +kernel
theorem dX5_isWet_8 : decode cX5_isWet 8 = .ok (.if_icmp .eq 16, 3) := by decide +kernel
theorem dX5_isWet_11 : decode cX5_isWet 11 = .ok (.aload_n 0, 1) := by decide +kernel
theorem dX5_isWet_12 : decode cX5_isWet 12 = .ok (.iload_n 2, 1) := by decide +kernel
theorem dX5_isWet_13 : decode cX5_isWet 13 = .ok (.invokevirtual 83, 3) := by decide +kernel
theorem dX5_isWet_16 : decode cX5_isWet 16 = .ok (.iload_n 1, 1) := by decide +kernel
theorem dX5_isWet_17 : decode cX5_isWet 17 = .ok (.if_icmp .le 7, 3) := by decide +kernel
theorem dX5_isWet_20 : decode cX5_isWet 20 = .ok (.iconst 1, 1) := by decide +kernel
theorem dX5_isWet_21 : decode cX5_isWet 21 = .ok (.goto 4, 3) := by decide +kernel
theorem dX5_isWet_24 : decode cX5_isWet 24 = .ok (.iconst 0, 1) := by decide +kernel
theorem dX5_isWet_25 : decode cX5_isWet 25 = .ok (.ireturn, 1) := by decide +kernel
set_option maxRecDepth 20000 in
theorem ggX5_runSchedule_X5_isBetween : GoodIn wsX5_runSchedule wsX5_isBetween := goodIn_r _ [8] (by decide +kernel) (by decide +kernel)
set_option maxRecDepth 20000 in
theorem gX5_runSchedule_X5_isBetween : GoodIn wsX5_runSchedule (va_wsS RX5 62 yX5_isBetween wsX5_isBetween) := goodIn_app (goodIn_of _ (by decide +kernel)) ggX5_runSchedule_X5_isBetween
set_option maxRecDepth 20000 in
theorem ggX5_runSchedule_X5_isWet : GoodIn wsX5_runSchedule wsX5_isWet := goodIn_r _ [12, 2, 13, 14, 15, 7, 16, 17, 18, 19, 20, 21, 22, 23, 24, 25, 26, 27, 70, 71, 72, 73, 74, 75, 76, 77, 78, 79, 80, 81, 82, 83, 84, 85, 86, 87, 88, 89, 90, 91, 92, 93] (by decide +kernel) (by decide +kernel)
set_option maxRecDepth 20000 in
theorem gX5_runSchedule_X5_isWet : GoodIn wsX5_runSchedule (wsV RX5 137 RX5 yX5_isWet wsX5_isWet) := goodIn_app (goodIn_of _ (by decide +kernel)) ggX5_runSchedule_X5_isWet
set_option maxRecDepth 20000 in
theorem ggX5_runSchedule_X5_stageNow : GoodIn wsX5_runSchedule wsX5_stageNow := goodIn_r _ [31, 2, 32, 33, 13, 14, 15, 7, 16, 17, 18, 19, 20, 21, 22, 23, 24, 25, 26, 27, 70, 71, 72, 73, 74, 75, 76, 77, 78, 79, 80, 81, 82, 83, 84, 85, 86, 87, 88, 89, 90, 91, 92, 93] (by decide +kernel) (by decide +kernel)
set_option maxRecDepth 20000 in
theorem gX5_runSchedule_X5_stageNow : GoodIn wsX5_runSchedule (wsV RX5 134 RX5 yX5_stageNow wsX5_stageNow) := goodIn_app (goodIn_of _ (by decide +kernel)) ggX5_runSchedule_X5_stageNow
set_option maxRecDepth 20000 in
theorem ggX5_runSchedule_X5_dryHour : GoodIn wsX5_runSchedule wsX5_dryHour := goodIn_r _ [37, 38, 39, 40, 41, 7, 42, 17, 43, 44, 45, 46, 47, 48, 49, 22, 50, 27, 51, 52, 53, 54, 55, 56, 57, 58, 59, 2, 60, 61, 62, 63, 64, 65, 66, 67, 68, 69, 70, 71, 72, 73, 74, 75, 76, 77, 78, 79, 80, 81, 82, 83, 84, 85, 86, 87, 88, 89, 90, 91, 92, 93] (by decide +kernel) (by decide +kernel)
set_option maxRecDepth 20000 in
theorem gX5_runSchedule_X5_dryHour : GoodIn wsX5_runSchedule (wsV RX5 125 RX5 yX5_dryHour wsX5_dryHour) := goodIn_app (goodIn_of _ (by decide +kernel)) ggX5_runSchedule_X5_dryHour
theorem dX5_runSchedule_0 : decode cX5_runSchedule 0 = .ok (.iload_n 1, 1) := by decide +kernel
theorem dX5_runSchedule_1 : decode cX5_runSchedule 1 = .ok (.iconst 0, 1) := by decide +kernel
theorem dX5_runSchedule_2 : decode cX5_runSchedule 2 = .ok (.sipush 2000, 3) := by decide +kernel
theorem dX5_runSchedule_5 : decode cX5_runSchedule 5 = .ok (.invokestatic 62, 3) := by decide +kernel
theorem dX5_runSchedule_8 : decode cX5_runSchedule 8 = .ok (.ifCond .eq 14, 3) := by decide +kernel
theorem dX5_runSchedule_11 : decode cX5_runSchedule 11 = .ok (.iload_n 2, 1) := by decide +kernel
theorem dX5_runSchedule_12 : decode cX5_runSchedule 12 = .ok (.iconst 1, 1) := by decide +kernel
theorem dX5_runSchedule_13 : decode cX5_runSchedule 13 = .ok (.sipush 200, 3) := by decide +kernel
theorem dX5_runSchedule_16 : decode cX5_runSchedule 16 = .ok (.invokestatic 62, 3) := by decide +kernel
theorem dX5_runSchedule_19 : decode cX5_runSchedule 19 = .ok (.ifCond .ne 6, 3) := by decide +kernel
theorem dX5_runSchedule_22 : decode cX5_runSchedule 22 = .ok (.ldc 66, 2) := by decide +kernel
theorem dX5_runSchedule_24 : decode cX5_runSchedule 24 = .ok (.ireturn, 1) := by decide +kernel
theorem dX5_runSchedule_25 : decode cX5_runSchedule 25 = .ok (.iconst 0, 1) := by decide +kernel
theorem dX5_runSchedule_26 : decode cX5_runSchedule 26 = .ok (.istore_n 3, 1) := by decide +kernel
theorem dX5_runSchedule_27 : decode cX5_runSchedule 27 = .ok (.iload_n 3, 1) := by decide +kernel
theorem dX5_runSchedule_28 : decode cX5_runSchedule 28 = .ok (.iload_n 2, 1) := by decide +kernel
theorem dX5_runSchedule_29 : decode cX5_runSchedule 29 = .ok (.if_icmp .ge 49, 3) := by decide +kernel
theorem dX5_runSchedule_32 : decode cX5_runSchedule 32 = .ok (.aload_n 0, 1) := by decide +kernel
theorem dX5_runSchedule_33 : decode cX5_runSchedule 33 = .ok (.iload_n 1, 1) := by decide +kernel
theorem dX5_runSchedule_34 : decode cX5_runSchedule 34 = .ok (.invokevirtual 137, 3) := by decide +kernel
theorem dX5_runSchedule_37 : decode cX5_runSchedule 37 = .ok (.ifCond .eq 41, 3) := by decide +kernel
theorem dX5_runSchedule_40 : decode cX5_runSchedule 40 = .ok (.aload_n 0, 1) := by decide +kernel
theorem dX5_runSchedule_41 : decode cX5_runSchedule 41 = .ok (.invokevirtual 134, 3) := by decide +kernel
theorem dX5_runSchedule_44 : decode cX5_runSchedule 44 = .ok (.istore 4, 2) := by decide +kernel
theorem dX5_runSchedule_46 : decode cX5_runSchedule 46 = .ok (.aload_n 0, 1) := by decide +kernel
theorem dX5_runSchedule_47 : decode cX5_runSchedule 47 = .ok (.iload 4, 2) := by decide +kernel
theorem dX5_runSchedule_49 : decode cX5_runSchedule 49 = .ok (.ldc 68, 2) := by decide +kernel
theorem dX5_runSchedule_51 : decode cX5_runSchedule 51 = .ok (.if_icmp .ne 10, 3) := by decide +kernel
theorem dX5_runSchedule_54 : decode cX5_runSchedule 54 = .ok (.aload_n 0, 1) := by decide +kernel
theorem dX5_runSchedule_55 : decode cX5_runSchedule 55 = .ok (.getfield 32, 3) := by decide +kernel
theorem dX5_runSchedule_58 : decode cX5_runSchedule 58 = .ok (.goto 10, 3) := by decide +kernel
theorem dX5_runSchedule_61 : decode cX5_runSchedule 61 = .ok (.aload_n 0, 1) := by decide +kernel
theorem dX5_runSchedule_62 : decode cX5_runSchedule 62 = .ok (.getfield 41, 3) := by decide +kernel
theorem dX5_runSchedule_65 : decode cX5_runSchedule 65 = .ok (.iload 4, 2) := by decide +kernel
theorem dX5_runSchedule_67 : decode cX5_runSchedule 67 = .ok (.iaload, 1) := by decide +kernel
theorem dX5_runSchedule_68 : decode cX5_runSchedule 68 = .ok (.invokevirtual 125, 3) := by decide +kernel
theorem dX5_runSchedule_71 : decode cX5_runSchedule 71 = .ok (.pop, 1) := by decide +kernel
theorem dX5_runSchedule_72 : decode cX5_runSchedule 72 = .ok (.iinc 3 1, 3) := by decide +kernel
theorem dX5_runSchedule_75 : decode cX5_runSchedule 75 = .ok (.goto (-48), 3) := by decide +kernel
theorem dX5_runSchedule_78 : decode cX5_runSchedule 78 = .ok (.iload_n 3, 1) := by decide +kernel
theorem dX5_runSchedule_79 : decode cX5_runSchedule 79 = .ok (.ireturn, 1) := by decide +kernel
theorem dX5_copy_0 : decode cX5_copy 0 = .ok (.iconst 0, 1) := by decide +kernel
theorem dX5_copy_1 : decode cX5_copy 1 = .ok (.istore_n 3, 1) := by decide +kernel
theorem dX5_copy_2 : decode cX5_copy 2 = .ok (.iload_n 3, 1) := by decide +kernel
theorem dX5_copy_3 : decode cX5_copy 3 = .ok (.iload_n 2, 1) := by decide +kernel
theorem dX5_copy_4 : decode cX5_copy 4 = .ok (.if_icmp .ge 15, 3) := by decide +kernel
theorem dX5_copy_7 : decode cX5_copy 7 = .ok (.aload_n 1, 1) := by decide +kernel
theorem dX5_copy_8 : decode cX5_copy 8 = .ok (.iload_n 3, 1) := by decide +kernel
theorem dX5_copy_9 : decode cX5_copy 9 = .ok (.aload_n 0, 1) := by decide +kernel
theorem dX5_copy_10 : decode cX5_copy 10 = .ok (.iload_n 3, 1) := by decide +kernel
theorem dX5_copy_11 : decode cX5_copy 11 = .ok (.iaload, 1) := by decide +kernel
theorem dX5_copy_12 : decode cX5_copy 12 = .ok (.iastore, 1) := by decide +kernel
theorem dX5_copy_13 : decode cX5_copy 13 = .ok (.iinc 3 1, 3) := by decide +kernel
theorem dX5_copy_16 : decode cX5_copy 16 = .ok (.goto (-14), 3) := by decide +kernel
theorem dX5_copy_19 : decode cX5_copy 19 = .ok (.return_, 1) := by decide +kernel
set_option maxRecDepth 20000 in
theorem ggX5_isStrained_X5_strainOf : GoodIn wsX5_isStrained wsX5_strainOf := goodIn_r _ [7, 8, 9, 10, 11, 12, 13, 14, 15, 16, 17, 18, 19, 20, 21, 22, 23, 24, 25, 26, 27, 28, 29, 30, 31, 32, 33] (by decide +kernel) (by decide +kernel)
set_option maxRecDepth 20000 in
theorem gX5_isStrained_X5_strainOf : GoodIn wsX5_isStrained (wsV RX5 86 RX5 yX5_strainOf wsX5_strainOf) := goodIn_app (goodIn_of _ (by decide +kernel)) ggX5_isStrained_X5_strainOf
theorem dX5_isStrained_0 : decode cX5_isStrained 0 = .ok (.iconst 0, 1) := by decide +kernel
theorem dX5_isStrained_1 : decode cX5_isStrained 1 = .ok (.istore_n 1, 1) := by decide +kernel
theorem dX5_isStrained_2 : decode cX5_isStrained 2 = .ok (.iload_n 1, 1) := by decide +kernel
theorem dX5_isStrained_3 : decode cX5_isStrained 3 = .ok (.aload_n 0, 1) := by decide +kernel
theorem dX5_isStrained_4 : decode cX5_isStrained 4 = .ok (.getfield 59, 3) := by decide +kernel
theorem dX5_isStrained_7 : decode cX5_isStrained 7 = .ok (.if_icmp .ge 23, 3) := by decide +kernel
theorem dX5_isStrained_10 : decode cX5_isStrained 10 = .ok (.aload_n 0, 1) := by decide +kernel
theorem dX5_isStrained_11 : decode cX5_isStrained 11 = .ok (.iload_n 1, 1) := by decide +kernel
theorem dX5_isStrained_12 : decode cX5_isStrained 12 = .ok (.invokevirtual 86, 3) := by decide +kernel
theorem dX5_isStrained_15 : decode cX5_isStrained 15 = .ok (.aload_n 0, 1) := by decide +kernel
theorem dX5_isStrained_16 : decode cX5_isStrained 16 = .ok (.getfield 29, 3) := by decide +kernel
theorem dX5_isStrained_19 : decode cX5_isStrained 19 = .ok (.if_icmp .le 5, 3) := by decide +kernel
theorem dX5_isStrained_22 : decode cX5_isStrained 22 = .ok (.iconst 1, 1) := by decide +kernel
theorem dX5_isStrained_23 : decode cX5_isStrained 23 = .ok (.ireturn, 1) := by decide +kernel
theorem dX5_isStrained_24 : decode cX5_isStrained 24 = .ok (.iinc 1 1, 3) := by decide +kernel
theorem dX5_isStrained_27 : decode cX5_isStrained 27 = .ok (.goto (-25), 3) := by decide +kernel
theorem dX5_isStrained_30 : decode cX5_isStrained 30 = .ok (.iconst 0, 1) := by decide +kernel
theorem dX5_isStrained_31 : decode cX5_isStrained 31 = .ok (.ireturn, 1) := by decide +kernel
set_option maxRecDepth 20000 in
theorem ggX5_planHour_X5_copy : GoodIn wsX5_planHour wsX5_copy := goodIn_r _ [7] (by decide +kernel) (by decide +kernel)
set_option maxRecDepth 20000 in
theorem gX5_planHour_X5_copy : GoodIn wsX5_planHour (va_wsS RX5 140 yX5_copy wsX5_copy) := goodIn_app (goodIn_of _ (by decide +kernel)) ggX5_planHour_X5_copy
set_option maxRecDepth 20000 in
theorem ggX5_planHour_X5_blow : GoodIn wsX5_planHour wsX5_blow := goodIn_r _ [11, 12, 13, 14, 15, 16, 17, 18, 6, 19, 20, 21, 1, 22, 23, 43, 44, 45, 46, 47, 48, 49, 50, 51, 52, 53, 54, 55, 56, 57, 58, 59, 60, 61, 62, 63, 64, 65, 66] (by decide +kernel) (by decide +kernel)
set_option maxRecDepth 20000 in
theorem gX5_planHour_X5_blow : GoodIn wsX5_planHour (wsV RX5 113 RX5 yX5_blow wsX5_blow) := goodIn_app (goodIn_of _ (by decide +kernel)) ggX5_planHour_X5_blow
set_option maxRecDepth 20000 in
theorem ggX5_planHour_X5_isStrained : GoodIn wsX5_planHour wsX5_isStrained := goodIn_r _ [27, 12, 28, 29, 30, 31, 6, 32, 20, 1, 43, 44, 45, 46, 47, 48, 49, 50, 51, 52, 53, 54, 55, 56, 57, 58, 59, 60, 61, 62, 63, 64, 65, 66] (by decide +kernel) (by decide +kernel)
set_option maxRecDepth 20000 in
theorem gX5_planHour_X5_isStrained : GoodIn wsX5_planHour (wsV RX5 144 RX5 yX5_isStrained wsX5_isStrained) := goodIn_app (goodIn_of _ (by decide +kernel)) ggX5_planHour_X5_isStrained
set_option maxRecDepth 20000 in
theorem ggX5_planHour_X5_endDrying : GoodIn wsX5_planHour wsX5_endDrying := goodIn_r _ [36, 37, 38, 13, 43, 44, 45, 46, 47, 48, 49, 50, 51, 52, 53, 54, 55, 56, 57, 58, 59, 60, 61, 62, 63, 64, 65, 66] (by decide +kernel) (by decide +kernel)
set_option maxRecDepth 20000 in
theorem gX5_planHour_X5_endDrying : GoodIn wsX5_planHour (wsV RX5 122 RX5 yX5_endDrying wsX5_endDrying) := goodIn_app (goodIn_of _ (by decide +kernel)) ggX5_planHour_X5_endDrying
set_option maxRecDepth 20000 in
theorem ggX5_planHour_X5_restAll : GoodIn wsX5_planHour wsX5_restAll := goodIn_r _ [42, 12, 16, 17, 18, 6, 19, 20, 21, 1, 22, 23, 43, 44, 45, 46, 47, 48, 49, 50, 51, 52, 53, 54, 55, 56, 57, 58, 59, 60, 61, 62, 63, 64, 65, 66] (by decide +kernel) (by decide +kernel)
set_option maxRecDepth 20000 in
theorem gX5_planHour_X5_restAll : GoodIn wsX5_planHour (wsV RX5 128 RX5 yX5_restAll wsX5_restAll) := goodIn_app (goodIn_of _ (by decide +kernel)) ggX5_planHour_X5_restAll
theorem dX5_planHour_0 : decode cX5_planHour 0 = .ok (.aload_n 0, 1) := by decide +kernel
theorem dX5_planHour_1 : decode cX5_planHour 1 = .ok (.getfield 13, 3) := by decide +kernel
theorem dX5_planHour_4 : decode cX5_planHour 4 = .ok (.aload_n 0, 1) := by decide +kernel
theorem dX5_planHour_5 : decode cX5_planHour 5 = .ok (.getfield 50, 3) := by decide +kernel
theorem dX5_planHour_8 : decode cX5_planHour 8 = .ok (.bipush 54, 2) := by decide +kernel
theorem dX5_planHour_10 : decode cX5_planHour 10 = .ok (.invokestatic 140, 3) := by decide +kernel
theorem dX5_planHour_13 : decode cX5_planHour 13 = .ok (.iconst 0, 1) := by decide +kernel
theorem dX5_planHour_14 : decode cX5_planHour 14 = .ok (.istore_n 1, 1) := by decide +kernel
theorem dX5_planHour_15 : decode cX5_planHour 15 = .ok (.iload_n 1, 1) := by decide +kernel
theorem dX5_planHour_16 : decode cX5_planHour 16 = .ok (.sipush 300, 3) := by decide +kernel
theorem dX5_planHour_19 : decode cX5_planHour 19 = .ok (.if_icmp .gt 41, 3) := by decide +kernel
theorem dX5_planHour_22 : decode cX5_planHour 22 = .ok (.aload_n 0, 1) := by decide +kernel
theorem dX5_planHour_23 : decode cX5_planHour 23 = .ok (.iload_n 1, 1) := by decide +kernel
theorem dX5_planHour_24 : decode cX5_planHour 24 = .ok (.invokevirtual 113, 3) := by decide +kernel
theorem dX5_planHour_27 : decode cX5_planHour 27 = .ok (.pop, 1) := by decide +kernel
theorem dX5_planHour_28 : decode cX5_planHour 28 = .ok (.aload_n 0, 1) := by decide +kernel
theorem dX5_planHour_29 : decode cX5_planHour 29 = .ok (.invokevirtual 144, 3) := by decide +kernel
theorem dX5_planHour_32 : decode cX5_planHour 32 = .ok (.ifCond .ne 9, 3) := by decide +kernel
theorem dX5_planHour_35 : decode cX5_planHour 35 = .ok (.aload_n 0, 1) := by decide +kernel
theorem dX5_planHour_36 : decode cX5_planHour 36 = .ok (.invokevirtual 122, 3) := by decide +kernel
theorem dX5_planHour_39 : decode cX5_planHour 39 = .ok (.iload_n 1, 1) := by decide +kernel
theorem dX5_planHour_40 : decode cX5_planHour 40 = .ok (.ireturn, 1) := by decide +kernel
theorem dX5_planHour_41 : decode cX5_planHour 41 = .ok (.aload_n 0, 1) := by decide +kernel
theorem dX5_planHour_42 : decode cX5_planHour 42 = .ok (.getfield 50, 3) := by decide +kernel
theorem dX5_planHour_45 : decode cX5_planHour 45 = .ok (.aload_n 0, 1) := by decide +kernel
theorem dX5_planHour_46 : decode cX5_planHour 46 = .ok (.getfield 13, 3) := by decide +kernel
theorem dX5_planHour_49 : decode cX5_planHour 49 = .ok (.bipush 54, 2) := by decide +kernel
theorem dX5_planHour_51 : decode cX5_planHour 51 = .ok (.invokestatic 140, 3) := by decide +kernel
theorem dX5_planHour_54 : decode cX5_planHour 54 = .ok (.iinc 1 10, 3) := by decide +kernel
theorem dX5_planHour_57 : decode cX5_planHour 57 = .ok (.goto (-42), 3) := by decide +kernel
theorem dX5_planHour_60 : decode cX5_planHour 60 = .ok (.aload_n 0, 1) := by decide +kernel
theorem dX5_planHour_61 : decode cX5_planHour 61 = .ok (.invokevirtual 128, 3) := by decide +kernel
theorem dX5_planHour_64 : decode cX5_planHour 64 = .ok (.ldc 148, 2) := by decide +kernel
theorem dX5_planHour_66 : decode cX5_planHour 66 = .ok (.ireturn, 1) := by decide +kernel
set_option maxRecDepth 20000 in
theorem ggX5_findPlan_X5_copy : GoodIn wsX5_findPlan wsX5_copy := goodIn_r _ [12] (by decide +kernel) (by decide +kernel)
set_option maxRecDepth 20000 in
theorem gX5_findPlan_X5_copy : GoodIn wsX5_findPlan (va_wsS RX5 140 yX5_copy wsX5_copy) := goodIn_app (goodIn_of _ (by decide +kernel)) ggX5_findPlan_X5_copy
set_option maxRecDepth 20000 in
theorem ggX5_findPlan_X5_isWet : GoodIn wsX5_findPlan wsX5_isWet := goodIn_r _ [16, 17, 18, 19, 20, 11, 21, 22, 23, 24, 25, 26, 27, 28, 29, 30, 31, 3, 68, 69, 70, 71, 72, 73, 74, 75, 76, 77, 78, 79, 80, 81, 82, 83, 84, 85, 86, 87, 88, 89, 90, 91] (by decide +kernel) (by decide +kernel)
set_option maxRecDepth 20000 in
theorem gX5_findPlan_X5_isWet : GoodIn wsX5_findPlan (wsV RX5 137 RX5 yX5_isWet wsX5_isWet) := goodIn_app (goodIn_of _ (by decide +kernel)) ggX5_findPlan_X5_isWet
set_option maxRecDepth 20000 in
theorem ggX5_findPlan_X5_planHour : GoodIn wsX5_findPlan wsX5_planHour := goodIn_r _ [35, 3, 36, 37, 9, 10, 11, 12, 38, 39, 40, 41, 22, 1, 42, 5, 43, 44, 45, 46, 27, 47, 48, 49, 50, 51, 52, 53, 54, 55, 56, 57, 58, 59, 60, 61, 62, 2, 63, 64, 65, 66, 67, 68, 69, 70, 71, 72, 73, 74, 75, 76, 77, 78, 79, 80, 81, 82, 83, 84, 85, 86, 87, 88, 89, 90, 91] (by decide +kernel) (by decide +kernel)
set_option maxRecDepth 20000 in
theorem gX5_findPlan_X5_planHour : GoodIn wsX5_findPlan (wsV RX5 152 RX5 yX5_planHour wsX5_planHour) := goodIn_app (goodIn_of _ (by decide +kernel)) ggX5_findPlan_X5_planHour
theorem dX5_findPlan_0 : decode cX5_findPlan 0 = .ok (.aload_n 0, 1) := by decide +kernel
theorem dX5_findPlan_1 : decode cX5_findPlan 1 = .ok (.getfield 96, 3) := by decide +kernel
theorem dX5_findPlan_4 : decode cX5_findPlan 4 = .ok (.istore_n 2, 1) := by decide +kernel
theorem dX5_findPlan_5 : decode cX5_findPlan 5 = .ok (.aload_n 0, 1) := by decide +kernel
theorem dX5_findPlan_6 : decode cX5_findPlan 6 = .ok (.getfield 110, 3) := by decide +kernel
theorem dX5_findPlan_9 : decode cX5_findPlan 9 = .ok (.istore_n 3, 1) := by decide +kernel
theorem dX5_findPlan_10 : decode cX5_findPlan 10 = .ok (.aload_n 0, 1) := by decide +kernel
theorem dX5_findPlan_11 : decode cX5_findPlan 11 = .ok (.getfield 13, 3) := by decide +kernel
theorem dX5_findPlan_14 : decode cX5_findPlan 14 = .ok (.aload_n 0, 1) := by decide +kernel
theorem dX5_findPlan_15 : decode cX5_findPlan 15 = .ok (.getfield 44, 3) := by decide +kernel
theorem dX5_findPlan_18 : decode cX5_findPlan 18 = .ok (.bipush 54, 2) := by decide +kernel
theorem dX5_findPlan_20 : decode cX5_findPlan 20 = .ok (.invokestatic 140, 3) := by decide +kernel
theorem dX5_findPlan_23 : decode cX5_findPlan 23 = .ok (.aload_n 0, 1) := by decide +kernel
theorem dX5_findPlan_24 : decode cX5_findPlan 24 = .ok (.getfield 19, 3) := by decide +kernel
theorem dX5_findPlan_27 : decode cX5_findPlan 27 = .ok (.aload_n 0, 1) := by decide +kernel
theorem dX5_findPlan_28 : decode cX5_findPlan 28 = .ok (.getfield 47, 3) := by decide +kernel
theorem dX5_findPlan_31 : decode cX5_findPlan 31 = .ok (.bipush 6, 2) := by decide +kernel
theorem dX5_findPlan_33 : decode cX5_findPlan 33 = .ok (.invokestatic 140, 3) := by decide +kernel
theorem dX5_findPlan_36 : decode cX5_findPlan 36 = .ok (.aload_n 0, 1) := by decide +kernel
theorem dX5_findPlan_37 : decode cX5_findPlan 37 = .ok (.iconst 0, 1) := by decide +kernel
theorem dX5_findPlan_38 : decode cX5_findPlan 38 = .ok (.putfield 149, 3) := by decide +kernel
theorem dX5_findPlan_41 : decode cX5_findPlan 41 = .ok (.aload_n 0, 1) := by decide +kernel
theorem dX5_findPlan_42 : decode cX5_findPlan 42 = .ok (.getfield 149, 3) := by decide +kernel
theorem dX5_findPlan_45 : decode cX5_findPlan 45 = .ok (.sipush 300, 3) := by decide +kernel
theorem dX5_findPlan_48 : decode cX5_findPlan 48 = .ok (.if_icmp .ge 37, 3) := by decide +kernel
theorem dX5_findPlan_51 : decode cX5_findPlan 51 = .ok (.aload_n 0, 1) := by decide +kernel
theorem dX5_findPlan_52 : decode cX5_findPlan 52 = .ok (.iload_n 1, 1) := by decide +kernel
theorem dX5_findPlan_53 : decode cX5_findPlan 53 = .ok (.invokevirtual 137, 3) := by decide +kernel
theorem dX5_findPlan_56 : decode cX5_findPlan 56 = .ok (.ifCond .eq 29, 3) := by decide +kernel
theorem dX5_findPlan_59 : decode cX5_findPlan 59 = .ok (.aload_n 0, 1) := by decide +kernel
theorem dX5_findPlan_60 : decode cX5_findPlan 60 = .ok (.getfield 53, 3) := by decide +kernel
theorem dX5_findPlan_63 : decode cX5_findPlan 63 = .ok (.aload_n 0, 1) := by decide +kernel
theorem dX5_findPlan_64 : decode cX5_findPlan 64 = .ok (.getfield 149, 3) := by decide +kernel
theorem dX5_findPlan_67 : decode cX5_findPlan 67 = .ok (.aload_n 0, 1) := by decide +kernel
theorem dX5_findPlan_68 : decode cX5_findPlan 68 = .ok (.invokevirtual 152, 3) := by decide +kernel
theorem dX5_findPlan_71 : decode cX5_findPlan 71 = .ok (.iastore, 1) := by decide +kernel
theorem dX5_findPlan_72 : decode cX5_findPlan 72 = .ok (.aload_n 0, 1) := by decide +kernel
theorem dX5_findPlan_73 : decode cX5_findPlan 73 = .ok (.dup, 1) := by decide +kernel
theorem dX5_findPlan_74 : decode cX5_findPlan 74 = .ok (.getfield 149, 3) := by decide +kernel
theorem dX5_findPlan_77 : decode cX5_findPlan 77 = .ok (.iconst 1, 1) := by decide +kernel
theorem dX5_findPlan_78 : decode cX5_findPlan 78 = .ok (.iadd, 1) := by decide +kernel
theorem dX5_findPlan_79 : decode cX5_findPlan 79 = .ok (.putfield 149, 3) := by decide +kernel
theorem dX5_findPlan_82 : decode cX5_findPlan 82 = .ok (.goto (-41), 3) := by decide +kernel
theorem dX5_findPlan_85 : decode cX5_findPlan 85 = .ok (.aload_n 0, 1) := by decide +kernel
theorem dX5_findPlan_86 : decode cX5_findPlan 86 = .ok (.iload_n 1, 1) := by decide +kernel
theorem dX5_findPlan_87 : decode cX5_findPlan 87 = .ok (.invokevirtual 137, 3) := by decide +kernel
theorem dX5_findPlan_90 : decode cX5_findPlan 90 = .ok (.ifCond .ne 7, 3) := by decide +kernel
theorem dX5_findPlan_93 : decode cX5_findPlan 93 = .ok (.iconst 1, 1) := by decide +kernel
theorem dX5_findPlan_94 : decode cX5_findPlan 94 = .ok (.goto 4, 3) := by decide +kernel
theorem dX5_findPlan_97 : decode cX5_findPlan 97 = .ok (.iconst 0, 1) := by decide +kernel
theorem dX5_findPlan_98 : decode cX5_findPlan 98 = .ok (.istore 4, 2) := by decide +kernel
theorem dX5_findPlan_100 : decode cX5_findPlan 100 = .ok (.aload_n 0, 1) := by decide +kernel
theorem dX5_findPlan_101 : decode cX5_findPlan 101 = .ok (.getfield 44, 3) := by decide +kernel
theorem dX5_findPlan_104 : decode cX5_findPlan 104 = .ok (.aload_n 0, 1) := by decide +kernel
theorem dX5_findPlan_105 : decode cX5_findPlan 105 = .ok (.getfield 13, 3) := by decide +kernel
theorem dX5_findPlan_108 : decode cX5_findPlan 108 = .ok (.bipush 54, 2) := by decide +kernel
theorem dX5_findPlan_110 : decode cX5_findPlan 110 = .ok (.invokestatic 140, 3) := by decide +kernel
theorem dX5_findPlan_113 : decode cX5_findPlan 113 = .ok (.aload_n 0, 1) := by decide +kernel
theorem dX5_findPlan_114 : decode cX5_findPlan 114 = .ok (.getfield 47, 3) := by decide +kernel
theorem dX5_findPlan_117 : decode cX5_findPlan 117 = .ok (.aload_n 0, 1) := by decide +kernel
theorem dX5_findPlan_118 : decode cX5_findPlan 118 = .ok (.getfield 19, 3) := by decide +kernel
theorem dX5_findPlan_121 : decode cX5_findPlan 121 = .ok (.bipush 6, 2) := by decide +kernel
theorem dX5_findPlan_123 : decode cX5_findPlan 123 = .ok (.invokestatic 140, 3) := by decide +kernel
theorem dX5_findPlan_126 : decode cX5_findPlan 126 = .ok (.aload_n 0, 1) := by decide +kernel
theorem dX5_findPlan_127 : decode cX5_findPlan 127 = .ok (.iload_n 2, 1) := by decide +kernel
theorem dX5_findPlan_128 : decode cX5_findPlan 128 = .ok (.putfield 96, 3) := by decide +kernel
theorem dX5_findPlan_131 : decode cX5_findPlan 131 = .ok (.aload_n 0, 1) := by decide +kernel
theorem dX5_findPlan_132 : decode cX5_findPlan 132 = .ok (.iload_n 3, 1) := by decide +kernel
theorem dX5_findPlan_133 : decode cX5_findPlan 133 = .ok (.putfield 110, 3) := by decide +kernel
theorem dX5_findPlan_136 : decode cX5_findPlan 136 = .ok (.iload 4, 2) := by decide +kernel
theorem dX5_findPlan_138 : decode cX5_findPlan 138 = .ok (.ireturn, 1) := by decide +kernel
set_option maxRecDepth 20000 in
theorem ggX5_plannedHours_X5_isBetween : GoodIn wsX5_plannedHours wsX5_isBetween := goodIn_r _ [7] (by decide +kernel) (by decide +kernel)
set_option maxRecDepth 20000 in
theorem gX5_plannedHours_X5_isBetween : GoodIn wsX5_plannedHours (va_wsS RX5 62 yX5_isBetween wsX5_isBetween) := goodIn_app (goodIn_of _ (by decide +kernel)) ggX5_plannedHours_X5_isBetween
set_option maxRecDepth 20000 in
theorem ggX5_plannedHours_X5_findPlan : GoodIn wsX5_plannedHours wsX5_findPlan := goodIn_r _ [11, 12, 13, 14, 15, 16, 17, 2, 18, 19, 20, 6, 21, 22, 23, 24, 25, 3, 26, 27, 28, 29, 30, 31, 32, 33, 34, 35, 36, 37, 38, 39, 40, 41, 42, 43, 44, 45, 46, 47, 48, 49, 50, 51, 52, 53, 54, 55, 56, 57, 58, 59, 60, 61, 62, 63, 64, 65, 66, 67, 68, 69, 70, 71, 72, 73, 74, 75, 76, 77, 78, 79, 80, 81, 82, 83, 84, 85, 86, 87, 88, 89, 90, 91, 92, 93, 94, 95, 96, 97, 98, 99] (by decide +kernel) (by decide +kernel)
set_option maxRecDepth 20000 in
theorem gX5_plannedHours_X5_findPlan : GoodIn wsX5_plannedHours (wsV RX5 155 RX5 yX5_findPlan wsX5_findPlan) := goodIn_app (goodIn_of _ (by decide +kernel)) ggX5_plannedHours_X5_findPlan
theorem dX5_plannedHours_0 : decode cX5_plannedHours 0 = .ok (.iload_n 1, 1) := by decide +kernel
theorem dX5_plannedHours_1 : decode cX5_plannedHours 1 = .ok (.iconst 0, 1) := by decide +kernel
theorem dX5_plannedHours_2 : decode cX5_plannedHours 2 = .ok (.sipush 2000, 3) := by decide +kernel
theorem dX5_plannedHours_5 : decode cX5_plannedHours 5 = .ok (.invokestatic 62, 3) := by decide +kernel
theorem dX5_plannedHours_8 : decode cX5_plannedHours 8 = .ok (.ifCond .ne 6, 3) := by decide +kernel
theorem dX5_plannedHours_11 : decode cX5_plannedHours 11 = .ok (.ldc 66, 2) := by decide +kernel
theorem dX5_plannedHours_13 : decode cX5_plannedHours 13 = .ok (.ireturn, 1) := by decide +kernel
theorem dX5_plannedHours_14 : decode cX5_plannedHours 14 = .ok (.aload_n 0, 1) := by decide +kernel
theorem dX5_plannedHours_15 : decode cX5_plannedHours 15 = .ok (.iload_n 1, 1) := by decide +kernel
theorem dX5_plannedHours_16 : decode cX5_plannedHours 16 = .ok (.invokevirtual 155, 3) := by decide +kernel
theorem dX5_plannedHours_19 : decode cX5_plannedHours 19 = .ok (.ifCond .eq 10, 3) := by decide +kernel
theorem dX5_plannedHours_22 : decode cX5_plannedHours 22 = .ok (.aload_n 0, 1) := by decide +kernel
theorem dX5_plannedHours_23 : decode cX5_plannedHours 23 = .ok (.getfield 149, 3) := by decide +kernel
theorem dX5_plannedHours_26 : decode cX5_plannedHours 26 = .ok (.goto 5, 3) := by decide +kernel
theorem dX5_plannedHours_29 : decode cX5_plannedHours 29 = .ok (.ldc 68, 2) := by decide +kernel
theorem dX5_plannedHours_31 : decode cX5_plannedHours 31 = .ok (.ireturn, 1) := by decide +kernel
set_option maxRecDepth 20000 in
theorem ggX5_plannedInlet_X5_isBetween : GoodIn wsX5_plannedInlet wsX5_isBetween := goodIn_r _ [8] (by decide +kernel) (by decide +kernel)
set_option maxRecDepth 20000 in
theorem gX5_plannedInlet_X5_isBetween : GoodIn wsX5_plannedInlet (va_wsS RX5 62 yX5_isBetween wsX5_isBetween) := goodIn_app (goodIn_of _ (by decide +kernel)) ggX5_plannedInlet_X5_isBetween
set_option maxRecDepth 20000 in
theorem ggX5_plannedInlet_X5_findPlan : GoodIn wsX5_plannedInlet wsX5_findPlan := goodIn_r _ [12, 13, 14, 15, 16, 17, 18, 2, 3, 19, 20, 7, 21, 22, 23, 24, 25, 4, 26, 27, 28, 29, 30, 31, 32, 33, 34, 35, 36, 37, 38, 39, 40, 41, 42, 43, 44, 45, 46, 47, 48, 49, 50, 51, 52, 53, 54, 55, 56, 57, 58, 59, 60, 61, 62, 63, 64, 65, 66, 67, 68, 69, 70, 71, 72, 73, 74, 75, 76, 77, 78, 79, 80, 81, 82, 83, 84, 85, 86, 87, 88, 89, 90, 91, 92, 93, 94, 95, 96, 97, 98, 99] (by decide +kernel) (by decide +kernel)
set_option maxRecDepth 20000 in
theorem gX5_plannedInlet_X5_findPlan : GoodIn wsX5_plannedInlet (wsV RX5 155 RX5 yX5_findPlan wsX5_findPlan) := goodIn_app (goodIn_of _ (by decide +kernel)) ggX5_plannedInlet_X5_findPlan
theorem dX5_plannedInlet_0 : decode cX5_plannedInlet 0 = .ok (.iload_n 1, 1) := by decide +kernel
theorem dX5_plannedInlet_1 : decode cX5_plannedInlet 1 = .ok (.iconst 0, 1) := by decide +kernel
theorem dX5_plannedInlet_2 : decode cX5_plannedInlet 2 = .ok (.sipush 2000, 3) := by decide +kernel
theorem dX5_plannedInlet_5 : decode cX5_plannedInlet 5 = .ok (.invokestatic 62, 3) := by decide +kernel
theorem dX5_plannedInlet_8 : decode cX5_plannedInlet 8 = .ok (.ifCond .eq 7, 3) := by decide +kernel
theorem dX5_plannedInlet_11 : decode cX5_plannedInlet 11 = .ok (.iload_n 2, 1) := by decide +kernel
theorem dX5_plannedInlet_12 : decode cX5_plannedInlet 12 = .ok (.ifCond .ge 6, 3) := by decide +kernel
theorem dX5_plannedInlet_15 : decode cX5_plannedInlet 15 = .ok (.ldc 66, 2) := by decide +kernel
theorem dX5_plannedInlet_17 : decode cX5_plannedInlet 17 = .ok (.ireturn, 1) := by decide +kernel
theorem dX5_plannedInlet_18 : decode cX5_plannedInlet 18 = .ok (.aload_n 0, 1) := by decide +kernel
theorem dX5_plannedInlet_19 : decode cX5_plannedInlet 19 = .ok (.iload_n 1, 1) := by decide +kernel
theorem dX5_plannedInlet_20 : decode cX5_plannedInlet 20 = .ok (.invokevirtual 155, 3) := by decide +kernel
theorem dX5_plannedInlet_23 : decode cX5_plannedInlet 23 = .ok (.ifCond .eq 20, 3) := by decide +kernel
theorem dX5_plannedInlet_26 : decode cX5_plannedInlet 26 = .ok (.iload_n 2, 1) := by decide +kernel
theorem dX5_plannedInlet_27 : decode cX5_plannedInlet 27 = .ok (.aload_n 0, 1) := by decide +kernel
theorem dX5_plannedInlet_28 : decode cX5_plannedInlet 28 = .ok (.getfield 149, 3) := by decide +kernel
theorem dX5_plannedInlet_31 : decode cX5_plannedInlet 31 = .ok (.if_icmp .ge 12, 3) := by decide +kernel
theorem dX5_plannedInlet_34 : decode cX5_plannedInlet 34 = .ok (.aload_n 0, 1) := by decide +kernel
theorem dX5_plannedInlet_35 : decode cX5_plannedInlet 35 = .ok (.getfield 53, 3) := by decide +kernel
theorem dX5_plannedInlet_38 : decode cX5_plannedInlet 38 = .ok (.iload_n 2, 1) := by decide +kernel
theorem dX5_plannedInlet_39 : decode cX5_plannedInlet 39 = .ok (.iaload, 1) := by decide +kernel
theorem dX5_plannedInlet_40 : decode cX5_plannedInlet 40 = .ok (.goto 5, 3) := by decide +kernel
theorem dX5_plannedInlet_43 : decode cX5_plannedInlet 43 = .ok (.ldc 68, 2) := by decide +kernel
theorem dX5_plannedInlet_45 : decode cX5_plannedInlet 45 = .ok (.ireturn, 1) := by decide +kernel
theorem dJ6_bitCount_0f7a4_0 : decode cJ6_bitCount_0f7a4 0 = .ok (.iload_n 0, 1) := by decide +kernel
end
section
theorem dJ6_bitCount_0f7a4_1 : decode cJ6_bitCount_0f7a4 1 = .ok (.iload_n 0, 1) := by decide +kernel
theorem dJ6_bitCount_0f7a4_2 : decode cJ6_bitCount_0f7a4 2 = .ok (.iconst 1, 1) := by decide +kernel
theorem dJ6_bitCount_0f7a4_3 : decode cJ6_bitCount_0f7a4 3 = .ok (.iushr, 1) := by decide +kernel
theorem dJ6_bitCount_0f7a4_4 : decode cJ6_bitCount_0f7a4 4 = .ok (.ldc_w 265, 3) := by decide +kernel
theorem dJ6_bitCount_0f7a4_7 : decode cJ6_bitCount_0f7a4 7 = .ok (.iand, 1) := by decide +kernel
theorem dJ6_bitCount_0f7a4_8 : decode cJ6_bitCount_0f7a4 8 = .ok (.isub, 1) := by decide +kernel
theorem dJ6_bitCount_0f7a4_9 : decode cJ6_bitCount_0f7a4 9 = .ok (.istore_n 0, 1) := by decide +kernel
theorem dJ6_bitCount_0f7a4_10 : decode cJ6_bitCount_0f7a4 10 = .ok (.iload_n 0, 1) := by decide +kernel
theorem dJ6_bitCount_0f7a4_11 : decode cJ6_bitCount_0f7a4 11 = .ok (.ldc_w 266, 3) := by decide +kernel
theorem dJ6_bitCount_0f7a4_14 : decode cJ6_bitCount_0f7a4 14 = .ok (.iand, 1) := by decide +kernel
theorem dJ6_bitCount_0f7a4_15 : decode cJ6_bitCount_0f7a4 15 = .ok (.iload_n 0, 1) := by decide +kernel
theorem dJ6_bitCount_0f7a4_16 : decode cJ6_bitCount_0f7a4 16 = .ok (.iconst 2, 1) := by decide +kernel
theorem dJ6_bitCount_0f7a4_17 : decode cJ6_bitCount_0f7a4 17 = .ok (.iushr, 1) := by decide +kernel
theorem dJ6_bitCount_0f7a4_18 : decode cJ6_bitCount_0f7a4 18 = .ok (.ldc_w 266, 3) := by decide +kernel
theorem dJ6_bitCount_0f7a4_21 : decode cJ6_bitCount_0f7a4 21 = .ok (.iand, 1) := by decide +kernel
theorem dJ6_bitCount_0f7a4_22 : decode cJ6_bitCount_0f7a4 22 = .ok (.iadd, 1) := by decide +kernel
theorem dJ6_bitCount_0f7a4_23 : decode cJ6_bitCount_0f7a4 23 = .ok (.istore_n 0, 1) := by decide +kernel
theorem dJ6_bitCount_0f7a4_24 : decode cJ6_bitCount_0f7a4 24 = .ok (.iload_n 0, 1) := by decide +kernel
theorem dJ6_bitCount_0f7a4_25 : decode cJ6_bitCount_0f7a4 25 = .ok (.iload_n 0, 1) := by decide +kernel
theorem dJ6_bitCount_0f7a4_26 : decode cJ6_bitCount_0f7a4 26 = .ok (.iconst 4, 1) := by decide +kernel
theorem dJ6_bitCount_0f7a4_27 : decode cJ6_bitCount_0f7a4 27 = .ok (.iushr, 1) := by decide +kernel
theorem dJ6_bitCount_0f7a4_28 : decode cJ6_bitCount_0f7a4 28 = .ok (.iadd, 1) := by decide +kernel
theorem dJ6_bitCount_0f7a4_29 : decode cJ6_bitCount_0f7a4 29 = .ok (.ldc_w 267, 3) := by decide +kernel
theorem dJ6_bitCount_0f7a4_32 : decode cJ6_bitCount_0f7a4 32 = .ok (.iand, 1) := by decide +kernel
theorem dJ6_bitCount_0f7a4_33 : decode cJ6_bitCount_0f7a4 33 = .ok (.istore_n 0, 1) := by decide +kernel
theorem dJ6_bitCount_0f7a4_34 : decode cJ6_bitCount_0f7a4 34 = .ok (.iload_n 0, 1) := by decide +kernel
theorem dJ6_bitCount_0f7a4_35 : decode cJ6_bitCount_0f7a4 35 = .ok (.iload_n 0, 1) := by decide +kernel
theorem dJ6_bitCount_0f7a4_36 : decode cJ6_bitCount_0f7a4 36 = .ok (.bipush 8, 2) := by decide +kernel
theorem dJ6_bitCount_0f7a4_38 : decode cJ6_bitCount_0f7a4 38 = .ok (.iushr, 1) := by decide +kernel
theorem dJ6_bitCount_0f7a4_39 : decode cJ6_bitCount_0f7a4 39 = .ok (.iadd, 1) := by decide +kernel
theorem dJ6_bitCount_0f7a4_40 : decode cJ6_bitCount_0f7a4 40 = .ok (.istore_n 0, 1) := by decide +kernel
theorem dJ6_bitCount_0f7a4_41 : decode cJ6_bitCount_0f7a4 41 = .ok (.iload_n 0, 1) := by decide +kernel
theorem dJ6_bitCount_0f7a4_42 : decode cJ6_bitCount_0f7a4 42 = .ok (.iload_n 0, 1) := by decide +kernel
theorem dJ6_bitCount_0f7a4_43 : decode cJ6_bitCount_0f7a4 43 = .ok (.bipush 16, 2) := by decide +kernel
theorem dJ6_bitCount_0f7a4_45 : decode cJ6_bitCount_0f7a4 45 = .ok (.iushr, 1) := by decide +kernel
theorem dJ6_bitCount_0f7a4_46 : decode cJ6_bitCount_0f7a4 46 = .ok (.iadd, 1) := by decide +kernel
theorem dJ6_bitCount_0f7a4_47 : decode cJ6_bitCount_0f7a4 47 = .ok (.istore_n 0, 1) := by decide +kernel
theorem dJ6_bitCount_0f7a4_48 : decode cJ6_bitCount_0f7a4 48 = .ok (.iload_n 0, 1) := by decide +kernel
theorem dJ6_bitCount_0f7a4_49 : decode cJ6_bitCount_0f7a4 49 = .ok (.bipush 63, 2) := by decide +kernel
theorem dJ6_bitCount_0f7a4_51 : decode cJ6_bitCount_0f7a4 51 = .ok (.iand, 1) := by decide +kernel
theorem dJ6_bitCount_0f7a4_52 : decode cJ6_bitCount_0f7a4 52 = .ok (.ireturn, 1) := by decide +kernel
theorem dJ9_max_7cf53_0 : decode cJ9_max_7cf53 0 = .ok (.iload_n 0, 1) := by decide +kernel
theorem dJ9_max_7cf53_1 : decode cJ9_max_7cf53 1 = .ok (.iload_n 1, 1) := by decide +kernel
theorem dJ9_max_7cf53_2 : decode cJ9_max_7cf53 2 = .ok (.if_icmp .lt 7, 3) := by decide +kernel
theorem dJ9_max_7cf53_5 : decode cJ9_max_7cf53 5 = .ok (.iload_n 0, 1) := by decide +kernel
theorem dJ9_max_7cf53_6 : decode cJ9_max_7cf53 6 = .ok (.goto 4, 3) := by decide +kernel
theorem dJ9_max_7cf53_9 : decode cJ9_max_7cf53 9 = .ok (.iload_n 1, 1) := by decide +kernel
theorem dJ9_max_7cf53_10 : decode cJ9_max_7cf53 10 = .ok (.ireturn, 1) := by decide +kernel
theorem dJ9_min_7cf53_0 : decode cJ9_min_7cf53 0 = .ok (.iload_n 0, 1) := by decide +kernel
theorem dJ9_min_7cf53_1 : decode cJ9_min_7cf53 1 = .ok (.iload_n 1, 1) := by decide +kernel
theorem dJ9_min_7cf53_2 : decode cJ9_min_7cf53 2 = .ok (.if_icmp .gt 7, 3) := by decide +kernel
theorem dJ9_min_7cf53_5 : decode cJ9_min_7cf53 5 = .ok (.iload_n 0, 1) := by decide +kernel
theorem dJ9_min_7cf53_6 : decode cJ9_min_7cf53 6 = .ok (.goto 4, 3) := by decide +kernel
theorem dJ9_min_7cf53_9 : decode cJ9_min_7cf53 9 = .ok (.iload_n 1, 1) := by decide +kernel
theorem dJ9_min_7cf53_10 : decode cJ9_min_7cf53 10 = .ok (.ireturn, 1) := by decide +kernel
theorem dJxa1e45_init_da8c8_0 : decode cJxa1e45_init_da8c8 0 = .ok (.aload_n 0, 1) := by decide +kernel
theorem dJxa1e45_init_da8c8_1 : decode cJxa1e45_init_da8c8 1 = .ok (.invokespecial 1, 3) := by decide +kernel
theorem dJxa1e45_init_da8c8_4 : decode cJxa1e45_init_da8c8 4 = .ok (.return_, 1) := by decide +kernel
set_option maxRecDepth 20000 in
theorem ggJxc12de_init_da8c8_Jxa1e45_init_da8c8 : GoodIn wsJxc12de_init_da8c8 wsJxa1e45_init_da8c8 := goodIn_r _ [5, 6, 7, 8] (by decide +kernel) (by decide +kernel)
set_option maxRecDepth 20000 in
theorem gJxc12de_init_da8c8_Jxa1e45_init_da8c8 : GoodIn wsJxc12de_init_da8c8 (wsJxa1e45_init_da8c8) := ggJxc12de_init_da8c8_Jxa1e45_init_da8c8
theorem dJxc12de_init_da8c8_0 : decode cJxc12de_init_da8c8 0 = .ok (.aload_n 0, 1) := by decide +kernel
theorem dJxc12de_init_da8c8_1 : decode cJxc12de_init_da8c8 1 = .ok (.invokespecial 1, 3) := by decide +kernel
theorem dJxc12de_init_da8c8_4 : decode cJxc12de_init_da8c8 4 = .ok (.aload_n 0, 1) := by decide +kernel
theorem dJxc12de_init_da8c8_5 : decode cJxc12de_init_da8c8 5 = .ok (.iconst 0, 1) := by decide +kernel
theorem dJxc12de_init_da8c8_6 : decode cJxc12de_init_da8c8 6 = .ok (.putfield 7, 3) := by decide +kernel
theorem dJxc12de_init_da8c8_9 : decode cJxc12de_init_da8c8 9 = .ok (.return_, 1) := by decide +kernel
set_option maxRecDepth 20000 in
theorem ggJx4a65c_init_da8c8_Jxc12de_init_da8c8 : GoodIn wsJx4a65c_init_da8c8 wsJxc12de_init_da8c8 := goodIn_r _ [6, 7, 8, 9, 10, 11, 12, 13, 14, 15, 16, 17] (by decide +kernel) (by decide +kernel)
set_option maxRecDepth 20000 in
theorem gJx4a65c_init_da8c8_Jxc12de_init_da8c8 : GoodIn wsJx4a65c_init_da8c8 (wsJxc12de_init_da8c8) := ggJx4a65c_init_da8c8_Jxc12de_init_da8c8
theorem dJx4a65c_init_da8c8_0 : decode cJx4a65c_init_da8c8 0 = .ok (.aload_n 0, 1) := by decide +kernel
theorem dJx4a65c_init_da8c8_1 : decode cJx4a65c_init_da8c8 1 = .ok (.invokespecial 1, 3) := by decide +kernel
theorem dJx4a65c_init_da8c8_4 : decode cJx4a65c_init_da8c8 4 = .ok (.aload_n 0, 1) := by decide +kernel
theorem dJx4a65c_init_da8c8_5 : decode cJx4a65c_init_da8c8 5 = .ok (.getstatic 39, 3) := by decide +kernel
theorem dJx4a65c_init_da8c8_8 : decode cJx4a65c_init_da8c8 8 = .ok (.putfield 9, 3) := by decide +kernel
theorem dJx4a65c_init_da8c8_11 : decode cJx4a65c_init_da8c8 11 = .ok (.return_, 1) := by decide +kernel
set_option maxRecDepth 20000 in
theorem ggJx4a65c_grow_92f84_J8_newLength_cabcc : GoodIn wsJx4a65c_grow_92f84 wsJ8_newLength_cabcc := goodIn_r _ [11, 12, 4, 5, 6, 13, 14, 15, 10, 16] (by decide +kernel) (by decide +kernel)
set_option maxRecDepth 20000 in
theorem gJx4a65c_grow_92f84_J8_newLength_cabcc : GoodIn wsJx4a65c_grow_92f84 (va_wsS RJx4a65c 73 yJ8_newLength_cabcc wsJ8_newLength_cabcc) := goodIn_app (goodIn_of _ (by decide +kernel)) ggJx4a65c_grow_92f84_J8_newLength_cabcc
set_option maxRecDepth 20000 in
theorem ggJx4a65c_grow_92f84_J7_copyOf_1904c : GoodIn wsJx4a65c_grow_92f84 wsJ7_copyOf_1904c := goodIn_r _ [20, 21, 22, 23, 24, 25, 26, 19, 27, 28, 29, 30, 31, 5, 32, 33, 34, 35, 36] (by decide +kernel) (by decide +kernel)
set_option maxRecDepth 20000 in
theorem gJx4a65c_grow_92f84_J7_copyOf_1904c : GoodIn wsJx4a65c_grow_92f84 (va_wsS RJx4a65c 66 yJ7_copyOf_1904c wsJ7_copyOf_1904c) := goodIn_app (goodIn_of _ (by decide +kernel)) ggJx4a65c_grow_92f84_J7_copyOf_1904c
theorem dJx4a65c_grow_92f84_0 : decode cJx4a65c_grow_92f84 0 = .ok (.aload_n 0, 1) := by decide +kernel
theorem dJx4a65c_grow_92f84_1 : decode cJx4a65c_grow_92f84 1 = .ok (.getfield 9, 3) := by decide +kernel
theorem dJx4a65c_grow_92f84_4 : decode cJx4a65c_grow_92f84 4 = .ok (.arraylength, 1) := by decide +kernel
theorem dJx4a65c_grow_92f84_5 : decode cJx4a65c_grow_92f84 5 = .ok (.istore_n 2, 1) := by decide +kernel
theorem dJx4a65c_grow_92f84_6 : decode cJx4a65c_grow_92f84 6 = .ok (.iload_n 2, 1) := by decide +kernel
theorem dJx4a65c_grow_92f84_7 : decode cJx4a65c_grow_92f84 7 = .ok (.ifCond .gt 13, 3) := by decide +kernel
theorem dJx4a65c_grow_92f84_10 : decode cJx4a65c_grow_92f84 10 = .ok (.aload_n 0, 1) := by decide +kernel
theorem dJx4a65c_grow_92f84_11 : decode cJx4a65c_grow_92f84 11 = .ok (.getfield 9, 3) := by decide +kernel
theorem dJx4a65c_grow_92f84_14 : decode cJx4a65c_grow_92f84 14 = .ok (.getstatic 39, 3) := by decide +kernel
theorem dJx4a65c_grow_92f84_17 : decode cJx4a65c_grow_92f84 17 = .ok (.if_acmp .eq 28, 3) := by decide +kernel
theorem dJx4a65c_grow_92f84_20 : decode cJx4a65c_grow_92f84 20 = .ok (.iload_n 2, 1) := by decide +kernel
theorem dJx4a65c_grow_92f84_21 : decode cJx4a65c_grow_92f84 21 = .ok (.iload_n 1, 1) := by decide +kernel
theorem dJx4a65c_grow_92f84_22 : decode cJx4a65c_grow_92f84 22 = .ok (.iload_n 2, 1) := by decide +kernel
theorem dJx4a65c_grow_92f84_23 : decode cJx4a65c_grow_92f84 23 = .ok (.isub, 1) := by decide +kernel
theorem dJx4a65c_grow_92f84_24 : decode cJx4a65c_grow_92f84 24 = .ok (.iload_n 2, 1) := by decide +kernel
theorem dJx4a65c_grow_92f84_25 : decode cJx4a65c_grow_92f84 25 = .ok (.iconst 1, 1) := by decide +kernel
theorem dJx4a65c_grow_92f84_26 : decode cJx4a65c_grow_92f84 26 = .ok (.ishr, 1) := by decide +kernel
theorem dJx4a65c_grow_92f84_27 : decode cJx4a65c_grow_92f84 27 = .ok (.invokestatic 73, 3) := by decide +kernel
theorem dJx4a65c_grow_92f84_30 : decode cJx4a65c_grow_92f84 30 = .ok (.istore_n 3, 1) := by decide +kernel
theorem dJx4a65c_grow_92f84_31 : decode cJx4a65c_grow_92f84 31 = .ok (.aload_n 0, 1) := by decide +kernel
theorem dJx4a65c_grow_92f84_32 : decode cJx4a65c_grow_92f84 32 = .ok (.aload_n 0, 1) := by decide +kernel
theorem dJx4a65c_grow_92f84_33 : decode cJx4a65c_grow_92f84 33 = .ok (.getfield 9, 3) := by decide +kernel
theorem dJx4a65c_grow_92f84_36 : decode cJx4a65c_grow_92f84 36 = .ok (.iload_n 3, 1) := by decide +kernel
theorem dJx4a65c_grow_92f84_37 : decode cJx4a65c_grow_92f84 37 = .ok (.invokestatic 66, 3) := by decide +kernel
theorem dJx4a65c_grow_92f84_40 : decode cJx4a65c_grow_92f84 40 = .ok (.dup_x1, 1) := by decide +kernel
theorem dJx4a65c_grow_92f84_41 : decode cJx4a65c_grow_92f84 41 = .ok (.putfield 9, 3) := by decide +kernel
theorem dJx4a65c_grow_92f84_44 : decode cJx4a65c_grow_92f84 44 = .ok (.areturn, 1) := by decide +kernel
theorem dJx4a65c_grow_92f84_45 : decode cJx4a65c_grow_92f84 45 = .ok (.aload_n 0, 1) := by decide +kernel
theorem dJx4a65c_grow_92f84_46 : decode cJx4a65c_grow_92f84 46 = .ok (.bipush 10, 2) := by decide +kernel
theorem dJx4a65c_grow_92f84_48 : decode cJx4a65c_grow_92f84 48 = .ok (.iload_n 1, 1) := by decide +kernel
theorem dJx4a65c_grow_92f84_49 : decode cJx4a65c_grow_92f84 49 = .ok (.invokestatic 79, 3) := by decide +kernel
theorem dJx4a65c_grow_92f84_52 : decode cJx4a65c_grow_92f84 52 = .ok (.anewarray 7, 3) := by decide +kernel
theorem dJx4a65c_grow_92f84_55 : decode cJx4a65c_grow_92f84 55 = .ok (.dup_x1, 1) := by decide +kernel
theorem dJx4a65c_grow_92f84_56 : decode cJx4a65c_grow_92f84 56 = .ok (.putfield 9, 3) := by decide +kernel
theorem dJx4a65c_grow_92f84_59 : decode cJx4a65c_grow_92f84 59 = .ok (.areturn, 1) := by decide +kernel
set_option maxRecDepth 20000 in
theorem ggJx4a65c_grow_d5877_Jx4a65c_grow_92f84 : GoodIn wsJx4a65c_grow_d5877 wsJx4a65c_grow_92f84 := goodIn_r _ [6, 7, 8, 9, 10, 11, 12, 13, 14, 15, 16, 17, 18, 19, 20, 21, 22, 23, 24, 25, 26, 27, 28, 29, 30, 31, 32, 33, 34, 35, 36, 37, 38, 39, 40, 41, 42, 43, 44, 45] (by decide +kernel) (by decide +kernel)
set_option maxRecDepth 20000 in
theorem gJx4a65c_grow_d5877_Jx4a65c_grow_92f84 : GoodIn wsJx4a65c_grow_d5877 (wsV RJx4a65c 69 RJx4a65c yJx4a65c_grow_92f84 wsJx4a65c_grow_92f84) := goodIn_app (goodIn_of _ (by decide +kernel)) ggJx4a65c_grow_d5877_Jx4a65c_grow_92f84
theorem dJx4a65c_grow_d5877_0 : decode cJx4a65c_grow_d5877 0 = .ok (.aload_n 0, 1) := by decide +kernel
theorem dJx4a65c_grow_d5877_1 : decode cJx4a65c_grow_d5877 1 = .ok (.aload_n 0, 1) := by decide +kernel
theorem dJx4a65c_grow_d5877_2 : decode cJx4a65c_grow_d5877 2 = .ok (.getfield 48, 3) := by decide +kernel
theorem dJx4a65c_grow_d5877_5 : decode cJx4a65c_grow_d5877 5 = .ok (.iconst 1, 1) := by decide +kernel
theorem dJx4a65c_grow_d5877_6 : decode cJx4a65c_grow_d5877 6 = .ok (.iadd, 1) := by decide +kernel
theorem dJx4a65c_grow_d5877_7 : decode cJx4a65c_grow_d5877 7 = .ok (.invokevirtual 69, 3) := by decide +kernel
theorem dJx4a65c_grow_d5877_10 : decode cJx4a65c_grow_d5877 10 = .ok (.areturn, 1) := by decide +kernel
theorem dJx4a65c_size_8abf5_0 : decode cJx4a65c_size_8abf5 0 = .ok (.aload_n 0, 1) := by decide +kernel
theorem dJx4a65c_size_8abf5_1 : decode cJx4a65c_size_8abf5 1 = .ok (.getfield 48, 3) := by decide +kernel
theorem dJx4a65c_size_8abf5_4 : decode cJx4a65c_size_8abf5 4 = .ok (.ireturn, 1) := by decide +kernel
theorem dJx4a65c_elementData_915e3_0 : decode cJx4a65c_elementData_915e3 0 = .ok (.aload_n 0, 1) := by decide +kernel
theorem dJx4a65c_elementData_915e3_1 : decode cJx4a65c_elementData_915e3 1 = .ok (.getfield 9, 3) := by decide +kernel
theorem dJx4a65c_elementData_915e3_4 : decode cJx4a65c_elementData_915e3 4 = .ok (.iload_n 1, 1) := by decide +kernel
theorem dJx4a65c_elementData_915e3_5 : decode cJx4a65c_elementData_915e3 5 = .ok (.aaload, 1) := by decide +kernel
theorem dJx4a65c_elementData_915e3_6 : decode cJx4a65c_elementData_915e3 6 = .ok (.areturn, 1) := by decide +kernel
set_option maxRecDepth 20000 in
theorem ggJx4a65c_get_915e3_J15_checkIndex_7cf53 : GoodIn wsJx4a65c_get_915e3 wsJ15_checkIndex_7cf53 := goodIn_r _ [5, 6, 7, 8, 9] (by decide +kernel) (by decide +kernel)
set_option maxRecDepth 20000 in
theorem gJx4a65c_get_915e3_J15_checkIndex_7cf53 : GoodIn wsJx4a65c_get_915e3 (va_wsS RJx4a65c 118 yJ15_checkIndex_7cf53 wsJ15_checkIndex_7cf53) := goodIn_app (goodIn_of _ (by decide +kernel)) ggJx4a65c_get_915e3_J15_checkIndex_7cf53
set_option maxRecDepth 20000 in
theorem ggJx4a65c_get_915e3_Jx4a65c_elementData_915e3 : GoodIn wsJx4a65c_get_915e3 wsJx4a65c_elementData_915e3 := goodIn_r _ [14, 15, 16, 17, 18] (by decide +kernel) (by decide +kernel)
set_option maxRecDepth 20000 in
theorem gJx4a65c_get_915e3_Jx4a65c_elementData_915e3 : GoodIn wsJx4a65c_get_915e3 (wsV RJx4a65c 123 RJx4a65c yJx4a65c_elementData_915e3 wsJx4a65c_elementData_915e3) := goodIn_app (goodIn_of _ (by decide +kernel)) ggJx4a65c_get_915e3_Jx4a65c_elementData_915e3
theorem dJx4a65c_get_915e3_0 : decode cJx4a65c_get_915e3 0 = .ok (.iload_n 1, 1) := by decide +kernel
theorem dJx4a65c_get_915e3_1 : decode cJx4a65c_get_915e3 1 = .ok (.aload_n 0, 1) := by decide +kernel
theorem dJx4a65c_get_915e3_2 : decode cJx4a65c_get_915e3 2 = .ok (.getfield 48, 3) := by decide +kernel
theorem dJx4a65c_get_915e3_5 : decode cJx4a65c_get_915e3 5 = .ok (.invokestatic 118, 3) := by decide +kernel
theorem dJx4a65c_get_915e3_8 : decode cJx4a65c_get_915e3 8 = .ok (.pop, 1) := by decide +kernel
theorem dJx4a65c_get_915e3_9 : decode cJx4a65c_get_915e3 9 = .ok (.aload_n 0, 1) := by decide +kernel
theorem dJx4a65c_get_915e3_10 : decode cJx4a65c_get_915e3 10 = .ok (.iload_n 1, 1) := by decide +kernel
theorem dJx4a65c_get_915e3_11 : decode cJx4a65c_get_915e3 11 = .ok (.invokevirtual 123, 3) := by decide +kernel
theorem dJx4a65c_get_915e3_14 : decode cJx4a65c_get_915e3 14 = .ok (.areturn, 1) := by decide +kernel
set_option maxRecDepth 20000 in
theorem ggJx4a65c_add_72be8_Jx4a65c_grow_d5877 : GoodIn wsJx4a65c_add_72be8 wsJx4a65c_grow_d5877 := goodIn_r _ [6, 1, 7, 8, 9, 5, 10, 11, 12, 13, 14, 15, 16, 17, 18, 19, 20, 21, 22, 23, 24, 25, 26, 27, 28, 29, 30, 31, 32, 33, 34, 35, 36, 37, 38, 39, 40, 41, 42, 43, 44, 45, 46, 47, 48, 49] (by decide +kernel) (by decide +kernel)
set_option maxRecDepth 20000 in
theorem gJx4a65c_add_72be8_Jx4a65c_grow_d5877 : GoodIn wsJx4a65c_add_72be8 (wsV RJx4a65c 129 RJx4a65c yJx4a65c_grow_d5877 wsJx4a65c_grow_d5877) := goodIn_app (goodIn_of _ (by decide +kernel)) ggJx4a65c_add_72be8_Jx4a65c_grow_d5877
theorem dJx4a65c_add_72be8_0 : decode cJx4a65c_add_72be8 0 = .ok (.iload_n 3, 1) := by decide +kernel
theorem dJx4a65c_add_72be8_1 : decode cJx4a65c_add_72be8 1 = .ok (.aload_n 2, 1) := by decide +kernel
theorem dJx4a65c_add_72be8_2 : decode cJx4a65c_add_72be8 2 = .ok (.arraylength, 1) := by decide +kernel
theorem dJx4a65c_add_72be8_3 : decode cJx4a65c_add_72be8 3 = .ok (.if_icmp .ne 8, 3) := by decide +kernel
theorem dJx4a65c_add_72be8_6 : decode cJx4a65c_add_72be8 6 = .ok (.aload_n 0, 1) := by decide +kernel
theorem dJx4a65c_add_72be8_7 : decode cJx4a65c_add_72be8 7 = .ok (.invokevirtual 129, 3) := by decide +kernel
theorem dJx4a65c_add_72be8_10 : decode cJx4a65c_add_72be8 10 = .ok (.astore_n 2, 1) := by decide +kernel
theorem dJx4a65c_add_72be8_11 : decode cJx4a65c_add_72be8 11 = .ok (.aload_n 2, 1) := by decide +kernel
theorem dJx4a65c_add_72be8_12 : decode cJx4a65c_add_72be8 12 = .ok (.iload_n 3, 1) := by decide +kernel
theorem dJx4a65c_add_72be8_13 : decode cJx4a65c_add_72be8 13 = .ok (.aload_n 1, 1) := by decide +kernel
theorem dJx4a65c_add_72be8_14 : decode cJx4a65c_add_72be8 14 = .ok (.aastore, 1) := by decide +kernel
theorem dJx4a65c_add_72be8_15 : decode cJx4a65c_add_72be8 15 = .ok (.aload_n 0, 1) := by decide +kernel
theorem dJx4a65c_add_72be8_16 : decode cJx4a65c_add_72be8 16 = .ok (.iload_n 3, 1) := by decide +kernel
theorem dJx4a65c_add_72be8_17 : decode cJx4a65c_add_72be8 17 = .ok (.iconst 1, 1) := by decide +kernel
theorem dJx4a65c_add_72be8_18 : decode cJx4a65c_add_72be8 18 = .ok (.iadd, 1) := by decide +kernel
theorem dJx4a65c_add_72be8_19 : decode cJx4a65c_add_72be8 19 = .ok (.putfield 48, 3) := by decide +kernel
theorem dJx4a65c_add_72be8_22 : decode cJx4a65c_add_72be8 22 = .ok (.return_, 1) := by decide +kernel
set_option maxRecDepth 20000 in
theorem ggJx4a65c_add_9ea2d_Jx4a65c_add_72be8 : GoodIn wsJx4a65c_add_9ea2d wsJx4a65c_add_72be8 := goodIn_r _ [9, 4, 10, 11, 12, 8, 13, 14, 15, 16, 17, 3, 18, 19, 20, 21, 22, 23, 24, 25, 26, 27, 28, 29, 30, 31, 32, 33, 34, 35, 36, 37, 38, 39, 40, 41, 42, 43, 44, 45, 46, 47, 48, 49, 50, 51, 52, 53, 54, 55] (by decide +kernel) (by decide +kernel)
set_option maxRecDepth 20000 in
theorem gJx4a65c_add_9ea2d_Jx4a65c_add_72be8 : GoodIn wsJx4a65c_add_9ea2d (wsV RJx4a65c 131 RJx4a65c yJx4a65c_add_72be8 wsJx4a65c_add_72be8) := goodIn_app (goodIn_of _ (by decide +kernel)) ggJx4a65c_add_9ea2d_Jx4a65c_add_72be8
theorem dJx4a65c_add_9ea2d_0 : decode cJx4a65c_add_9ea2d 0 = .ok (.aload_n 0, 1) := by decide +kernel
theorem dJx4a65c_add_9ea2d_1 : decode cJx4a65c_add_9ea2d 1 = .ok (.dup, 1) := by decide +kernel
theorem dJx4a65c_add_9ea2d_2 : decode cJx4a65c_add_9ea2d 2 = .ok (.getfield 63, 3) := by decide +kernel
theorem dJx4a65c_add_9ea2d_5 : decode cJx4a65c_add_9ea2d 5 = .ok (.iconst 1, 1) := by decide +kernel
theorem dJx4a65c_add_9ea2d_6 : decode cJx4a65c_add_9ea2d 6 = .ok (.iadd, 1) := by decide +kernel
theorem dJx4a65c_add_9ea2d_7 : decode cJx4a65c_add_9ea2d 7 = .ok (.putfield 63, 3) := by decide +kernel
theorem dJx4a65c_add_9ea2d_10 : decode cJx4a65c_add_9ea2d 10 = .ok (.aload_n 0, 1) := by decide +kernel
theorem dJx4a65c_add_9ea2d_11 : decode cJx4a65c_add_9ea2d 11 = .ok (.aload_n 1, 1) := by decide +kernel
theorem dJx4a65c_add_9ea2d_12 : decode cJx4a65c_add_9ea2d 12 = .ok (.aload_n 0, 1) := by decide +kernel
theorem dJx4a65c_add_9ea2d_13 : decode cJx4a65c_add_9ea2d 13 = .ok (.getfield 9, 3) := by decide +kernel
theorem dJx4a65c_add_9ea2d_16 : decode cJx4a65c_add_9ea2d 16 = .ok (.aload_n 0, 1) := by decide +kernel
theorem dJx4a65c_add_9ea2d_17 : decode cJx4a65c_add_9ea2d 17 = .ok (.getfield 48, 3) := by decide +kernel
theorem dJx4a65c_add_9ea2d_20 : decode cJx4a65c_add_9ea2d 20 = .ok (.invokevirtual 131, 3) := by decide +kernel
theorem dJx4a65c_add_9ea2d_23 : decode cJx4a65c_add_9ea2d 23 = .ok (.iconst 1, 1) := by decide +kernel
theorem dJx4a65c_add_9ea2d_24 : decode cJx4a65c_add_9ea2d 24 = .ok (.ireturn, 1) := by decide +kernel
theorem dJ7_fill_53178_0 : decode cJ7_fill_53178 0 = .ok (.iconst 0, 1) := by decide +kernel
theorem dJ7_fill_53178_1 : decode cJ7_fill_53178 1 = .ok (.istore_n 2, 1) := by decide +kernel
theorem dJ7_fill_53178_2 : decode cJ7_fill_53178 2 = .ok (.aload_n 0, 1) := by decide +kernel
theorem dJ7_fill_53178_3 : decode cJ7_fill_53178 3 = .ok (.arraylength, 1) := by decide +kernel
theorem dJ7_fill_53178_4 : decode cJ7_fill_53178 4 = .ok (.istore_n 3, 1) := by decide +kernel
theorem dJ7_fill_53178_5 : decode cJ7_fill_53178 5 = .ok (.iload_n 2, 1) := by decide +kernel
theorem dJ7_fill_53178_6 : decode cJ7_fill_53178 6 = .ok (.iload_n 3, 1) := by decide +kernel
theorem dJ7_fill_53178_7 : decode cJ7_fill_53178 7 = .ok (.if_icmp .ge 13, 3) := by decide +kernel
theorem dJ7_fill_53178_10 : decode cJ7_fill_53178 10 = .ok (.aload_n 0, 1) := by decide +kernel
theorem dJ7_fill_53178_11 : decode cJ7_fill_53178 11 = .ok (.iload_n 2, 1) := by decide +kernel
theorem dJ7_fill_53178_12 : decode cJ7_fill_53178 12 = .ok (.iload_n 1, 1) := by decide +kernel
theorem dJ7_fill_53178_13 : decode cJ7_fill_53178 13 = .ok (.iastore, 1) := by decide +kernel
theorem dJ7_fill_53178_14 : decode cJ7_fill_53178 14 = .ok (.iinc 2 1, 3) := by decide +kernel
theorem dJ7_fill_53178_17 : decode cJ7_fill_53178 17 = .ok (.goto (-12), 3) := by decide +kernel
theorem dJ7_fill_53178_20 : decode cJ7_fill_53178 20 = .ok (.return_, 1) := by decide +kernel
set_option maxRecDepth 20000 in
theorem ggJ7_copyOf_1904c_J7_copyOf_6403c : GoodIn wsJ7_copyOf_1904c wsJ7_copyOf_6403c := goodIn_r _ [8, 9, 10, 11, 12, 13, 14, 15, 16, 17, 18] (by decide +kernel) (by decide +kernel)
set_option maxRecDepth 20000 in
theorem gJ7_copyOf_1904c_J7_copyOf_6403c : GoodIn wsJ7_copyOf_1904c (va_wsS RJ7 300 yJ7_copyOf_6403c wsJ7_copyOf_6403c) := goodIn_app (goodIn_of _ (by decide +kernel)) ggJ7_copyOf_1904c_J7_copyOf_6403c
theorem dJ7_copyOf_1904c_0 : decode cJ7_copyOf_1904c 0 = .ok (.aload_n 0, 1) := by decide +kernel
theorem dJ7_copyOf_1904c_1 : decode cJ7_copyOf_1904c 1 = .ok (.iload_n 1, 1) := by decide +kernel
theorem dJ7_copyOf_1904c_2 : decode cJ7_copyOf_1904c 2 = .ok (.aload_n 0, 1) := by decide +kernel
theorem dJ7_copyOf_1904c_3 : decode cJ7_copyOf_1904c 3 = .ok (.invokevirtual 86, 3) := by decide +kernel
theorem dJ7_copyOf_1904c_6 : decode cJ7_copyOf_1904c 6 = .ok (.invokestatic 300, 3) := by decide +kernel
theorem dJ7_copyOf_1904c_9 : decode cJ7_copyOf_1904c 9 = .ok (.areturn, 1) := by decide +kernel
theorem dJ7_copyOf_6403c_0 : decode cJ7_copyOf_6403c 0 = .ok (.aload_n 2, 1) := by decide +kernel
theorem dJ7_copyOf_6403c_1 : decode cJ7_copyOf_6403c 1 = .ok (.ldc 110, 2) := by decide +kernel
theorem dJ7_copyOf_6403c_3 : decode cJ7_copyOf_6403c 3 = .ok (.if_acmp .ne 10, 3) := by decide +kernel
theorem dJ7_copyOf_6403c_6 : decode cJ7_copyOf_6403c 6 = .ok (.iload_n 1, 1) := by decide +kernel
theorem dJ7_copyOf_6403c_7 : decode cJ7_copyOf_6403c 7 = .ok (.anewarray 2, 3) := by decide +kernel
theorem dJ7_copyOf_6403c_10 : decode cJ7_copyOf_6403c 10 = .ok (.goto 14, 3) := by decide +kernel
theorem dJ7_copyOf_6403c_13 : decode cJ7_copyOf_6403c 13 = .ok (.aload_n 2, 1) := by decide +kernel
theorem dJ7_copyOf_6403c_14 : decode cJ7_copyOf_6403c 14 = .ok (.invokevirtual 90, 3) := by decide +kernel
theorem dJ7_copyOf_6403c_17 : decode cJ7_copyOf_6403c 17 = .ok (.iload_n 1, 1) := by decide +kernel
theorem dJ7_copyOf_6403c_18 : decode cJ7_copyOf_6403c 18 = .ok (.invokestatic 95, 3) := by decide +kernel
theorem dJ7_copyOf_6403c_21 : decode cJ7_copyOf_6403c 21 = .ok (.checkcast 110, 3) := by decide +kernel
theorem dJ7_copyOf_6403c_24 : decode cJ7_copyOf_6403c 24 = .ok (.astore_n 3, 1) := by decide +kernel
theorem dJ7_copyOf_6403c_25 : decode cJ7_copyOf_6403c 25 = .ok (.aload_n 0, 1) := by decide +kernel
theorem dJ7_copyOf_6403c_26 : decode cJ7_copyOf_6403c 26 = .ok (.iconst 0, 1) := by decide +kernel
theorem dJ7_copyOf_6403c_27 : decode cJ7_copyOf_6403c 27 = .ok (.aload_n 3, 1) := by decide +kernel
theorem dJ7_copyOf_6403c_28 : decode cJ7_copyOf_6403c 28 = .ok (.iconst 0, 1) := by decide +kernel
theorem dJ7_copyOf_6403c_29 : decode cJ7_copyOf_6403c 29 = .ok (.aload_n 0, 1) := by decide +kernel
theorem dJ7_copyOf_6403c_30 : decode cJ7_copyOf_6403c 30 = .ok (.arraylength, 1) := by decide +kernel
theorem dJ7_copyOf_6403c_31 : decode cJ7_copyOf_6403c 31 = .ok (.iload_n 1, 1) := by decide +kernel
theorem dJ7_copyOf_6403c_32 : decode cJ7_copyOf_6403c 32 = .ok (.invokestatic 304, 3) := by decide +kernel
theorem dJ7_copyOf_6403c_35 : decode cJ7_copyOf_6403c 35 = .ok (.invokestatic 150, 3) := by decide +kernel
theorem dJ7_copyOf_6403c_38 : decode cJ7_copyOf_6403c 38 = .ok (.aload_n 3, 1) := by decide +kernel
theorem dJ7_copyOf_6403c_39 : decode cJ7_copyOf_6403c 39 = .ok (.areturn, 1) := by decide +kernel
set_option maxRecDepth 20000 in
theorem ggJ15_checkIndex_7cf53_J3_checkIndex_8e157 : GoodIn wsJ15_checkIndex_7cf53 wsJ3_checkIndex_8e157 := goodIn_r _ [4] (by decide +kernel) (by decide +kernel)
set_option maxRecDepth 20000 in
theorem gJ15_checkIndex_7cf53_J3_checkIndex_8e157 : GoodIn wsJ15_checkIndex_7cf53 (va_wsS RJ15 105 yJ3_checkIndex_8e157 wsJ3_checkIndex_8e157) := goodIn_app (goodIn_of _ (by decide +kernel)) ggJ15_checkIndex_7cf53_J3_checkIndex_8e157
theorem dJ15_checkIndex_7cf53_0 : decode cJ15_checkIndex_7cf53 0 = .ok (.iload_n 0, 1) := by decide +kernel
theorem dJ15_checkIndex_7cf53_1 : decode cJ15_checkIndex_7cf53 1 = .ok (.iload_n 1, 1) := by decide +kernel
theorem dJ15_checkIndex_7cf53_2 : decode cJ15_checkIndex_7cf53 2 = .ok (.aconst_null, 1) := by decide +kernel
theorem dJ15_checkIndex_7cf53_3 : decode cJ15_checkIndex_7cf53 3 = .ok (.invokestatic 105, 3) := by decide +kernel
theorem dJ15_checkIndex_7cf53_6 : decode cJ15_checkIndex_7cf53 6 = .ok (.ireturn, 1) := by decide +kernel
set_option maxRecDepth 20000 in
theorem ggJ8_newLength_cabcc_J8_hugeLength_7cf53 : GoodIn wsJ8_newLength_cabcc wsJ8_hugeLength_7cf53 := goodIn_r _ [9, 5] (by decide +kernel) (by decide +kernel)
set_option maxRecDepth 20000 in
theorem gJ8_newLength_cabcc_J8_hugeLength_7cf53 : GoodIn wsJ8_newLength_cabcc (va_wsS RJ8 201 yJ8_hugeLength_7cf53 wsJ8_hugeLength_7cf53) := goodIn_app (goodIn_of _ (by decide +kernel)) ggJ8_newLength_cabcc_J8_hugeLength_7cf53
theorem dJ8_newLength_cabcc_0 : decode cJ8_newLength_cabcc 0 = .ok (.iload_n 0, 1) := by decide +kernel
theorem dJ8_newLength_cabcc_1 : decode cJ8_newLength_cabcc 1 = .ok (.iload_n 1, 1) := by decide +kernel
theorem dJ8_newLength_cabcc_2 : decode cJ8_newLength_cabcc 2 = .ok (.iload_n 2, 1) := by decide +kernel
theorem dJ8_newLength_cabcc_3 : decode cJ8_newLength_cabcc 3 = .ok (.invokestatic 194, 3) := by decide +kernel
theorem dJ8_newLength_cabcc_6 : decode cJ8_newLength_cabcc 6 = .ok (.iadd, 1) := by decide +kernel
theorem dJ8_newLength_cabcc_7 : decode cJ8_newLength_cabcc 7 = .ok (.istore_n 3, 1) := by decide +kernel
theorem dJ8_newLength_cabcc_8 : decode cJ8_newLength_cabcc 8 = .ok (.iconst 0, 1) := by decide +kernel
theorem dJ8_newLength_cabcc_9 : decode cJ8_newLength_cabcc 9 = .ok (.iload_n 3, 1) := by decide +kernel
theorem dJ8_newLength_cabcc_10 : decode cJ8_newLength_cabcc 10 = .ok (.if_icmp .ge 11, 3) := by decide +kernel
theorem dJ8_newLength_cabcc_13 : decode cJ8_newLength_cabcc 13 = .ok (.iload_n 3, 1) := by decide +kernel
theorem dJ8_newLength_cabcc_14 : decode cJ8_newLength_cabcc 14 = .ok (.ldc 200, 2) := by decide +kernel
theorem dJ8_newLength_cabcc_16 : decode cJ8_newLength_cabcc 16 = .ok (.if_icmp .gt 5, 3) := by decide +kernel
theorem dJ8_newLength_cabcc_19 : decode cJ8_newLength_cabcc 19 = .ok (.iload_n 3, 1) := by decide +kernel
theorem dJ8_newLength_cabcc_20 : decode cJ8_newLength_cabcc 20 = .ok (.ireturn, 1) := by decide +kernel
theorem dJ8_newLength_cabcc_21 : decode cJ8_newLength_cabcc 21 = .ok (.iload_n 0, 1) := by decide +kernel
theorem dJ8_newLength_cabcc_22 : decode cJ8_newLength_cabcc 22 = .ok (.iload_n 1, 1) := by decide +kernel
theorem dJ8_newLength_cabcc_23 : decode cJ8_newLength_cabcc 23 = .ok (.invokestatic 201, 3) := by decide +kernel
theorem dJ8_newLength_cabcc_26 : decode cJ8_newLength_cabcc 26 = .ok (.ireturn, 1) := by decide +kernel
theorem dJ8_hugeLength_7cf53_0 : decode cJ8_hugeLength_7cf53 0 = .ok (.iload_n 0, 1) := by decide +kernel
theorem dJ8_hugeLength_7cf53_1 : decode cJ8_hugeLength_7cf53 1 = .ok (.iload_n 1, 1) := by decide +kernel
theorem dJ8_hugeLength_7cf53_2 : decode cJ8_hugeLength_7cf53 2 = .ok (.iadd, 1) := by decide +kernel
theorem dJ8_hugeLength_7cf53_3 : decode cJ8_hugeLength_7cf53 3 = .ok (.istore_n 2, 1) := by decide +kernel
theorem dJ8_hugeLength_7cf53_4 : decode cJ8_hugeLength_7cf53 4 = .ok (.iload_n 2, 1) := by decide +kernel
theorem dJ8_hugeLength_7cf53_5 : decode cJ8_hugeLength_7cf53 5 = .ok (.ifCond .ge 44, 3) := by decide +kernel
theorem dJ8_hugeLength_7cf53_8 : decode cJ8_hugeLength_7cf53 8 = .ok (.new 204, 3) := by decide +kernel
theorem dJ8_hugeLength_7cf53_11 : decode cJ8_hugeLength_7cf53 11 = .ok (.dup, 1) := by decide +kernel
theorem dJ8_hugeLength_7cf53_12 : decode cJ8_hugeLength_7cf53 12 = .ok (.new 89, 3) := by decide +kernel
theorem dJ8_hugeLength_7cf53_15 : decode cJ8_hugeLength_7cf53 15 = .ok (.dup, 1) := by decide +kernel
theorem dJ8_hugeLength_7cf53_16 : decode cJ8_hugeLength_7cf53 16 = .ok (.invokespecial 91, 3) := by decide +kernel
theorem dJ8_hugeLength_7cf53_19 : decode cJ8_hugeLength_7cf53 19 = .ok (.ldc 206, 2) := by decide +kernel
theorem dJ8_hugeLength_7cf53_21 : decode cJ8_hugeLength_7cf53 21 = .ok (.invokevirtual 94, 3) := by decide +kernel
theorem dJ8_hugeLength_7cf53_24 : decode cJ8_hugeLength_7cf53 24 = .ok (.iload_n 0, 1) := by decide +kernel
theorem dJ8_hugeLength_7cf53_25 : decode cJ8_hugeLength_7cf53 25 = .ok (.invokevirtual 98, 3) := by decide +kernel
theorem dJ8_hugeLength_7cf53_28 : decode cJ8_hugeLength_7cf53 28 = .ok (.ldc 208, 2) := by decide +kernel
theorem dJ8_hugeLength_7cf53_30 : decode cJ8_hugeLength_7cf53 30 = .ok (.invokevirtual 94, 3) := by decide +kernel
theorem dJ8_hugeLength_7cf53_33 : decode cJ8_hugeLength_7cf53 33 = .ok (.iload_n 1, 1) := by decide +kernel
theorem dJ8_hugeLength_7cf53_34 : decode cJ8_hugeLength_7cf53 34 = .ok (.invokevirtual 98, 3) := by decide +kernel
theorem dJ8_hugeLength_7cf53_37 : decode cJ8_hugeLength_7cf53 37 = .ok (.ldc 210, 2) := by decide +kernel
theorem dJ8_hugeLength_7cf53_39 : decode cJ8_hugeLength_7cf53 39 = .ok (.invokevirtual 94, 3) := by decide +kernel
theorem dJ8_hugeLength_7cf53_42 : decode cJ8_hugeLength_7cf53 42 = .ok (.invokevirtual 101, 3) := by decide +kernel
theorem dJ8_hugeLength_7cf53_45 : decode cJ8_hugeLength_7cf53 45 = .ok (.invokespecial 212, 3) := by decide +kernel
theorem dJ8_hugeLength_7cf53_48 : decode cJ8_hugeLength_7cf53 48 = .ok (.athrow, 1) := by decide +kernel
theorem dJ8_hugeLength_7cf53_49 : decode cJ8_hugeLength_7cf53 49 = .ok (.iload_n 2, 1) := by decide +kernel
theorem dJ8_hugeLength_7cf53_50 : decode cJ8_hugeLength_7cf53 50 = .ok (.ldc 200, 2) := by decide +kernel
theorem dJ8_hugeLength_7cf53_52 : decode cJ8_hugeLength_7cf53 52 = .ok (.if_icmp .gt 6, 3) := by decide +kernel
theorem dJ8_hugeLength_7cf53_55 : decode cJ8_hugeLength_7cf53 55 = .ok (.ldc 200, 2) := by decide +kernel
theorem dJ8_hugeLength_7cf53_57 : decode cJ8_hugeLength_7cf53 57 = .ok (.ireturn, 1) := by decide +kernel
theorem dJ8_hugeLength_7cf53_58 : decode cJ8_hugeLength_7cf53 58 = .ok (.iload_n 2, 1) := by decide +kernel
theorem dJ8_hugeLength_7cf53_59 : decode cJ8_hugeLength_7cf53 59 = .ok (.ireturn, 1) := by decide +kernel
theorem dJ3_checkIndex_8e157_0 : decode cJ3_checkIndex_8e157 0 = .ok (.iload_n 0, 1) := by decide +kernel
theorem dJ3_checkIndex_8e157_1 : decode cJ3_checkIndex_8e157 1 = .ok (.ifCond .lt 8, 3) := by decide +kernel
theorem dJ3_checkIndex_8e157_4 : decode cJ3_checkIndex_8e157 4 = .ok (.iload_n 0, 1) := by decide +kernel
theorem dJ3_checkIndex_8e157_5 : decode cJ3_checkIndex_8e157 5 = .ok (.iload_n 1, 1) := by decide +kernel
theorem dJ3_checkIndex_8e157_6 : decode cJ3_checkIndex_8e157 6 = .ok (.if_icmp .lt 10, 3) := by decide +kernel
theorem dJ3_checkIndex_8e157_9 : decode cJ3_checkIndex_8e157 9 = .ok (.aload_n 2, 1) := by decide +kernel
theorem dJ3_checkIndex_8e157_10 : decode cJ3_checkIndex_8e157 10 = .ok (.iload_n 0, 1) := by decide +kernel
theorem dJ3_checkIndex_8e157_11 : decode cJ3_checkIndex_8e157 11 = .ok (.iload_n 1, 1) := by decide +kernel
theorem dJ3_checkIndex_8e157_12 : decode cJ3_checkIndex_8e157 12 = .ok (.invokestatic 95, 3) := by decide +kernel
theorem dJ3_checkIndex_8e157_15 : decode cJ3_checkIndex_8e157 15 = .ok (.athrow, 1) := by decide +kernel
theorem dJ3_checkIndex_8e157_16 : decode cJ3_checkIndex_8e157 16 = .ok (.iload_n 0, 1) := by decide +kernel
theorem dJ3_checkIndex_8e157_17 : decode cJ3_checkIndex_8e157 17 = .ok (.ireturn, 1) := by decide +kernel
end
section
/-! ===== worlds by keys: a key names a cell; ints lie in a memory (key, slot) ===== -/
abbrev Mem : Type := Nat → Nat → Int32
abbrev Ev : Type := va_G × (Nat → Prop) × List Nat × (Nat → Nat) × (Nat → Nat) × (Nat → Nat) × Nat × ClassId × ClassId
def eD (E : Ev) : va_G := E.1
def eA (E : Ev) : Nat → Prop := E.2.1
def eK (E : Ev) : List Nat := E.2.2.1
def eAd (E : Ev) : Nat → Nat := E.2.2.2.1
def eNb (E : Ev) : Nat → Nat := E.2.2.2.2.1
def eLn (E : Ev) : Nat → Nat := E.2.2.2.2.2.1
def eZ (E : Ev) : Nat := E.2.2.2.2.2.2.1
def eI (E : Ev) : ClassId := E.2.2.2.2.2.2.2.1
def eO (E : Ev) : ClassId := E.2.2.2.2.2.2.2.2
def kw (K : List Nat) (ad : Nat → Nat) (f : Nat → va_E) : va_W := K.map (fun k => (ad k, f k))
theorem kw_get {K : List Nat} {ad : Nat → Nat} {f : Nat → va_E} {k : Nat} (h : k ∈ K) : ∃ p : Nat, (kw K ad f)[p]? = some (ad k, f k) := by
  obtain ⟨p, hp⟩ := List.getElem?_of_mem h
  exact ⟨p, by simp [kw, hp]⟩
theorem kw_set {A : Nat → Prop} {K : List Nat} {ad : Nat → Nat} {f : Nat → va_E} {k p : Nat} {e : va_E} (hD : va_D A (kw K ad f)) (hk : k ∈ K) (hp : (kw K ad f)[p]? = some (ad k, f k)) : (kw K ad f).set p (ad k, e) = kw K ad (va_up f k e) := by
  obtain ⟨p2, hp2⟩ := List.getElem?_of_mem hk
  have e2 : (kw K ad f)[p2]? = some (ad k, f k) := by simp [kw, hp2]
  have h0 : p = p2 := hD.1 p p2 _ _ hp e2 rfl
  subst h0
  have hlt : p < (kw K ad f).length := (List.getElem?_eq_some_iff.mp hp).1
  apply List.ext_getElem?
  intro i
  by_cases hi : i = p
  · subst hi
    rw [List.getElem?_set_self hlt]
    simp [kw, hp2, va_up]
  · rw [List.getElem?_set_ne (Ne.symm hi)]
    simp only [kw, List.getElem?_map]
    cases hK : K[i]? with
    | none => rfl
    | some k2 =>
      have h2 : k2 ≠ k := fun h => hi (hD.1 i p (ad k2, f k2) (ad k, f k) (by simp [kw, hK]) e2 (by rw [h]))
      simp [va_up, h2]
/-- the keys of board j of load i: its object, its row -/
def bo (i j : Nat) : Nat := 100 + 20 * i + j
def ba (i j : Nat) : Nat := 110 + 20 * i + j
def mlen (k : Nat) : Nat := if k = 16 then 6 else if k = 17 then 54 else if k = 18 then 6 else if k = 19 then 6 else if k = 20 then 10 else if k = 21 then 8 else if k = 22 then 8 else if k = 23 then 54 else if k = 24 then 6 else if k = 25 then 54 else 300
def eEl (E : Ev) (i : Nat) : Nat := if eNb E i = 0 then eZ E else eAd E (12 + i)
def eRow (E : Ev) (i : Nat) : Nat → Option Nat := fun j => if j < eNb E i then some (eAd E (bo i j)) else none
/-- the model's numbers of layers -/
def lrow (E : Ev) : Nat → Int32 := fun j => if j < eNb E 4 then nI (eLn E j) else 0
theorem lrow_at {E : Ev} {j : Nat} (h : j < eNb E 4) : lrow E j = nI (eLn E j) := if_pos h
/-- a cell by its key, with its ints -/
def celq (E : Ev) (g : Nat → Int32) (k : Nat) : va_E :=
  if k = 0 then .inr (5, [.ref (eAd E 1), .ref (eAd E 2), .ref (eAd E 5), .ref (eAd E 6), .ref (eAd E 7), .ref (eAd E 11), .int (g 6), .int (g 7)])
  else if k = 1 then .inr (4, [.int (g 0), .int (g 1), .int (g 2), .int (g 3), .int (g 4), .int (g 5)])
  else if k = 2 then .inr (3, [.ref (eAd E 3), .ref (eAd E 4), .int (g 2)])
  else if k ≤ 4 then .inl (eI E, 8, .inl g)
  else if k ≤ 7 then .inr (2, [.int (g 0), .int (g 1), .ref (eAd E (k + 3))])
  else if k ≤ 10 then .inr (0, [.int (g 0), .ref (eEl E (k - 8)), .int (nI (eNb E (k - 8)))])
  else if k = 11 then .inl (eI E, 300, .inl g)
  else if k ≤ 14 then .inl (eO E, 10, .inr (.inr (.inr (.inr (eRow E (k - 12))))))
  else if k = 15 then .inr (6, [.int (nI (eNb E 3)), .ref (eAd E 16), .ref (eAd E 17), .ref (eAd E 18), .ref (eAd E 19), .int (g 5), .int (g 6), .int (g 7), .int (g 8), .int (g 9), .int (g 10), .int (g 11), .int (g 12), .int (g 13), .int (g 14), .ref (eAd E 20), .int (g 16), .ref (eAd E 21), .ref (eAd E 22), .ref (eAd E 23), .ref (eAd E 24), .ref (eAd E 25), .ref (eAd E 26), .int (g 23)])
  else if k = 16 then .inl (eI E, 6, .inl (lrow E))
  else if k ≤ 26 then .inl (eI E, mlen k, .inl g)
  else if (k - 100) % 20 < 10 then .inr (1, [.ref (eAd E (k + 10)), .int (g 1), .int (g 2)])
  else .inl (eI E, eLn E ((k - 100) % 20 - 10), .inl g)
theorem cq_kiln (E : Ev) (g : Nat → Int32) : celq E g 0 = .inr (5, [.ref (eAd E 1), .ref (eAd E 2), .ref (eAd E 5), .ref (eAd E 6), .ref (eAd E 7), .ref (eAd E 11), .int (g 6), .int (g 7)]) := rfl
theorem cq_set (E : Ev) (g : Nat → Int32) : celq E g 1 = .inr (4, [.int (g 0), .int (g 1), .int (g 2), .int (g 3), .int (g 4), .int (g 5)]) := rfl
theorem cq_sch (E : Ev) (g : Nat → Int32) : celq E g 2 = .inr (3, [.ref (eAd E 3), .ref (eAd E 4), .int (g 2)]) := rfl
theorem cq_th (E : Ev) (g : Nat → Int32) : celq E g 3 = .inl (eI E, 8, .inl g) := rfl
theorem cq_in (E : Ev) (g : Nat → Int32) : celq E g 4 = .inl (eI E, 8, .inl g) := rfl
theorem cq_ld (E : Ev) (g : Nat → Int32) {i : Nat} (hi : i < 3) : celq E g (5 + i) = .inr (2, [.int (g 0), .int (g 1), .ref (eAd E (8 + i))]) := by
  rcases (show i = 0 ∨ i = 1 ∨ i = 2 by omega) with rfl | rfl | rfl <;> rfl
theorem cq_li (E : Ev) (g : Nat → Int32) {i : Nat} (hi : i < 3) : celq E g (8 + i) = .inr (0, [.int (g 0), .ref (eEl E i), .int (nI (eNb E i))]) := by
  rcases (show i = 0 ∨ i = 1 ∨ i = 2 by omega) with rfl | rfl | rfl <;> rfl
theorem cq_pl (E : Ev) (g : Nat → Int32) : celq E g 11 = .inl (eI E, 300, .inl g) := rfl
theorem cq_el (E : Ev) (g : Nat → Int32) {i : Nat} (hi : i < 3) : celq E g (12 + i) = .inl (eO E, 10, .inr (.inr (.inr (.inr (eRow E i))))) := by
  rcases (show i = 0 ∨ i = 1 ∨ i = 2 by omega) with rfl | rfl | rfl <;> rfl
theorem cq_mo (E : Ev) (g : Nat → Int32) : celq E g 15 = .inr (6, [.int (nI (eNb E 3)), .ref (eAd E 16), .ref (eAd E 17), .ref (eAd E 18), .ref (eAd E 19), .int (g 5), .int (g 6), .int (g 7), .int (g 8), .int (g 9), .int (g 10), .int (g 11), .int (g 12), .int (g 13), .int (g 14), .ref (eAd E 20), .int (g 16), .ref (eAd E 21), .ref (eAd E 22), .ref (eAd E 23), .ref (eAd E 24), .ref (eAd E 25), .ref (eAd E 26), .int (g 23)]) := rfl
theorem cq_ma (E : Ev) (g : Nat → Int32) {k : Nat} (h1 : 17 ≤ k) (h2 : k ≤ 26) : celq E g k = .inl (eI E, mlen k, .inl g) := by
  unfold celq
  rw [if_neg (by omega), if_neg (by omega), if_neg (by omega), if_neg (by omega), if_neg (by omega), if_neg (by omega), if_neg (by omega), if_neg (by omega), if_neg (by omega), if_neg (by omega), if_pos h2]
theorem cq_bo (E : Ev) (g : Nat → Int32) {i j : Nat} (hj : j < 10) : celq E g (bo i j) = .inr (1, [.ref (eAd E (ba i j)), .int (g 1), .int (g 2)]) := by
  unfold celq bo ba
  rw [if_neg (by omega), if_neg (by omega), if_neg (by omega), if_neg (by omega), if_neg (by omega), if_neg (by omega), if_neg (by omega), if_neg (by omega), if_neg (by omega), if_neg (by omega), if_neg (by omega), if_pos (by omega)]
  rw [show 100 + 20 * i + j + 10 = 110 + 20 * i + j by omega]
theorem cq_ba (E : Ev) (g : Nat → Int32) {i j : Nat} (hj : j < 10) : celq E g (ba i j) = .inl (eI E, eLn E j, .inl g) := by
  unfold celq ba
  rw [if_neg (by omega), if_neg (by omega), if_neg (by omega), if_neg (by omega), if_neg (by omega), if_neg (by omega), if_neg (by omega), if_neg (by omega), if_neg (by omega), if_neg (by omega), if_neg (by omega), if_neg (by omega)]
  rw [show (110 + 20 * i + j - 100) % 20 - 10 = j by omega]
def cel (E : Ev) (v : Mem) : Nat → va_E := fun k => celq E (v k) k
/-- one int written -/
def st (v : Mem) (k j : Nat) (x : Int32) : Mem := va_up v k (upd (v k) j x)
theorem cel_up (E : Ev) (v : Mem) (k : Nat) (g : Nat → Int32) : cel E (va_up v k g) = va_up (cel E v) k (celq E g k) := by
  funext q
  by_cases h : q = k
  · subst h; simp [cel, va_up]
  · simp [cel, va_up, h]
def EO (E : Ev) : Prop := (∀ k, k < 12 → k ∈ eK E) ∧ (∀ k, 15 ≤ k → k ≤ 26 → k ∈ eK E) ∧ (∀ i, i < 3 → eNb E i ≠ 0 → 12 + i ∈ eK E) ∧ (∀ i j, i < 3 → j < eNb E i → bo i j ∈ eK E ∧ ba i j ∈ eK E) ∧ (∀ i, i < 4 → eNb E i ≤ 6) ∧ (∀ j, j < 6 → 3 ≤ eLn E j ∧ eLn E j ≤ 9) ∧ eNb E 3 ≤ eNb E 4
def HP (E : Ev) (v : Mem) (H : Heap) : Prop := va_P (eD E) vwCl (kw (eK E) (eAd E) (cel E v)) H ∧ va_D (eA E) (kw (eK E) (eAd E) (cel E v))
def HS (E : Ev) (H0 : Heap) (v : Mem) (H : Heap) (locs : List Loc) : Prop := HP E v H ∧ va_S (eA E) H0 H locs
abbrev tysE (E : Ev) : List (ClassId × FieldType) := [(eI E, .int), (eO E, .object "java/lang/Object")]
def NW (U : State) : Prop := va_Nw (.methodLinkNest RX0 33 yX4_quotient "DryingKiln") U ∧ va_Nw (.methodLinkNest RX1 69 yX4_quotient "DryingKiln") U ∧ va_Nw (.castable RX0 "java/lang/Object") U ∧ va_AO "java/lang/Object" U
def ZW (E : Ev) (U : State) : Prop := va_Z "java/util/ArrayList" "DEFAULTCAPACITY_EMPTY_ELEMENTDATA" "[Ljava/lang/Object;" (.ref (eZ E)) (eA E) U U.heap ∧ va_T (.object "java/lang/Object") (eZ E) 0 (fun _ => .null) (eA E) U U.heap
def KS (E : Ev) (U : State) : Prop := va_K (eD E) vwCl (tysE E) U ∧ (∀ q, U.heap.size ≤ q → eA E q) ∧ NW U ∧ ZW E U
def WD (E : Ev) (v : Mem) (U : State) : Prop := HP E v U.heap ∧ KS E U
theorem KS.blind {E : Ev} {U : State} {g : JFrame} {mk : MethodId} {a : Array Value} (h : KS E U) : KS E (U.calling g mk a) := by
  obtain ⟨h1, h2, ⟨n1, n2, n3, n4⟩, z1, z2⟩ := h
  exact ⟨va_K.moved (u := U) (U := U.calling g mk a) (Vm.Alike.refl U.vm) h1, h2, ⟨va_Nw.same rfl rfl n1, va_Nw.same rfl rfl n2, va_Nw.same rfl rfl n3, va_AO.moved (u := U) (U := U.calling g mk a) (Vm.Alike.refl U.vm) n4⟩, va_Z.moved (u := U) (U := U.calling g mk a) (Vm.Alike.refl U.vm) z1, va_T.moved (u := U) (U := U.calling g mk a) (Vm.Alike.refl U.vm) z2⟩
theorem KS.pass {E : Ev} {s U : State} {H : Heap} {locs : List Loc} (h : KS E s) (hS : va_S (eA E) s.heap H locs) (hU : U.heap = H) (hW : s.WarmedH U.vm) : KS E U := by
  obtain ⟨h1, h2, ⟨n1, n2, n3, n4⟩, z1, z2⟩ := h
  subst hU
  exact ⟨va_K.moved hW.alike h1, fun q hq => h2 q (Nat.le_trans hS.1 hq), ⟨va_Nw.warmM hW n1, va_Nw.warmM hW n2, va_Nw.warmC hW n3, va_AO.moved hW.alike n4⟩, va_Z.kept (va_Z.moved hW.alike z1) hS.2.1, va_T.kept (va_T.moved hW.alike z2) hS.2.1⟩
theorem WD.blind {E : Ev} {v : Mem} {av : List Value} : FrameBlind (va_Pc av (WD E v)) := fun a U g mk q => ⟨q.1, q.2.1, q.2.2.blind⟩
abbrev FX (p : Program) (m : MethodId) (c : Code) (cc : ByteArray) (nL : Nat) (s : State) (args : Array Value) (Ts : List Cond) (own : String) (E : Ev) : Prop := CallFix p m c cc nL s args Ts own ∧ KS E s
abbrev Zi (below : List Frame) (E : Ev) (args : Array Value) (s : State) (r : Int32) (v' : Mem) : State → Prop := MQ below (va_Qi (fun r' u => r' = r ∧ u = v') (fun u t => HP E u t.heap) (eA E)) args s 0 0 (eA E)
abbrev Zv (below : List Frame) (E : Ev) (args : Array Value) (s : State) (v' : Mem) : State → Prop := MQ below (va_Qv (fun u => u = v') (fun u t => HP E u t.heap) (eA E)) args s 0 0 (eA E)
abbrev Zr (below : List Frame) (E : Ev) (args : Array Value) (s : State) (a : Nat) (v' : Mem) : State → Prop := MQ below (va_Qr (fun u => u = v') (fun u b t => b = a ∧ HP E u t.heap) (eA E)) args s 0 0 (eA E)
/-- contracts: with these arguments, from memory v: the answer r (an int), the memory v' -/
def Ci (l : Launch) (y : MethodName) (ws : List Cond) (rm : Room) (E : Ev) (av : List Value) (v : Mem) (r : Int32) (v' : Mem) : Prop := Met l y ws rm (va_Pc av (WD E v)) (va_Qi (fun r' u => r' = r ∧ u = v') (fun u t => HP E u t.heap) (eA E)) 0 0 (eA E)
def Cv (l : Launch) (y : MethodName) (ws : List Cond) (rm : Room) (E : Ev) (av : List Value) (v : Mem) (v' : Mem) : Prop := Met l y ws rm (va_Pc av (WD E v)) (va_Qv (fun u => u = v') (fun u t => HP E u t.heap) (eA E)) 0 0 (eA E)
def Cr (l : Launch) (y : MethodName) (ws : List Cond) (rm : Room) (E : Ev) (av : List Value) (v : Mem) (a : Nat) (v' : Mem) : Prop := Met l y ws rm (va_Pc av (WD E v)) (va_Qr (fun u => u = v') (fun u b t => b = a ∧ HP E u t.heap) (eA E)) 0 0 (eA E)
theorem Ci.of {l : Launch} {y : MethodName} {ws ws' : List Cond} {rm : Room} {E : Ev} {av : List Value} {v v' : Mem} {r : Int32} {cc : ByteArray} {maxL : Nat} {ret : Option FieldType} {own : String} (hy : plainName y.cls = true) (hw : ws = Cond.code y cc maxL ret :: ws') (ho : y.cls = own) (hml : (lg_sl av).length ≤ maxL)
    (body : ∀ (p : Program) (e : Env) (s : State) (m : MethodId) (below : List Frame) (meth : Method) (c : Code), FX p m c cc maxL s av.toArray ws own E → meth.sig.returnType = ret → meth.locks = false → ∀ ls, lv_has ls maxL (lv_args 0 av) → HS E s.heap v s.heap [] → W p l e rm s m av.toArray below meth c s.heap [] 0 0 (Zi below E av.toArray s r v') (F0 m 0 ls [])) : Ci l y ws rm E av v r v' := by
  refine Met.ofW (cc := cc) (maxL := maxL) (ret := ret) hy hw ?_
  intro p e s m args below meth c s₁ B hml' hv
  obtain ⟨rfl, hP, hK⟩ := hv
  have hts := atoms_spec (ws := ws) B.pre
  have hown : s.vm.findClass y.cls = some m.cls := findClass_of_methodNamed B.named
  rw [ho] at hown
  have hl := lv_entry av (n := maxL) hml
  rw [lg_entry_eq]
  exact body p e s m below meth c ⟨⟨B.exec, B.bytes, hml', hown, hts⟩, hK⟩ B.returns B.notSynchronized _ hl ⟨hP, va_S.rf⟩
theorem Cv.of {l : Launch} {y : MethodName} {ws ws' : List Cond} {rm : Room} {E : Ev} {av : List Value} {v v' : Mem} {cc : ByteArray} {maxL : Nat} {ret : Option FieldType} {own : String} (hy : plainName y.cls = true) (hw : ws = Cond.code y cc maxL ret :: ws') (ho : y.cls = own) (hml : (lg_sl av).length ≤ maxL)
    (body : ∀ (p : Program) (e : Env) (s : State) (m : MethodId) (below : List Frame) (meth : Method) (c : Code), FX p m c cc maxL s av.toArray ws own E → meth.sig.returnType = ret → meth.locks = false → ∀ ls, lv_has ls maxL (lv_args 0 av) → HS E s.heap v s.heap [] → W p l e rm s m av.toArray below meth c s.heap [] 0 0 (Zv below E av.toArray s v') (F0 m 0 ls [])) : Cv l y ws rm E av v v' := by
  refine Met.ofW (cc := cc) (maxL := maxL) (ret := ret) hy hw ?_
  intro p e s m args below meth c s₁ B hml' hv
  obtain ⟨rfl, hP, hK⟩ := hv
  have hts := atoms_spec (ws := ws) B.pre
  have hown : s.vm.findClass y.cls = some m.cls := findClass_of_methodNamed B.named
  rw [ho] at hown
  have hl := lv_entry av (n := maxL) hml
  rw [lg_entry_eq]
  exact body p e s m below meth c ⟨⟨B.exec, B.bytes, hml', hown, hts⟩, hK⟩ B.returns B.notSynchronized _ hl ⟨hP, va_S.rf⟩
theorem Cr.of {l : Launch} {y : MethodName} {ws ws' : List Cond} {rm : Room} {E : Ev} {av : List Value} {v v' : Mem} {a : Nat} {cc : ByteArray} {maxL : Nat} {ret : Option FieldType} {own : String} (hy : plainName y.cls = true) (hw : ws = Cond.code y cc maxL ret :: ws') (ho : y.cls = own) (hml : (lg_sl av).length ≤ maxL)
    (body : ∀ (p : Program) (e : Env) (s : State) (m : MethodId) (below : List Frame) (meth : Method) (c : Code), FX p m c cc maxL s av.toArray ws own E → meth.sig.returnType = ret → meth.locks = false → ∀ ls, lv_has ls maxL (lv_args 0 av) → HS E s.heap v s.heap [] → W p l e rm s m av.toArray below meth c s.heap [] 0 0 (Zr below E av.toArray s a v') (F0 m 0 ls [])) : Cr l y ws rm E av v a v' := by
  refine Met.ofW (cc := cc) (maxL := maxL) (ret := ret) hy hw ?_
  intro p e s m args below meth c s₁ B hml' hv
  obtain ⟨rfl, hP, hK⟩ := hv
  have hts := atoms_spec (ws := ws) B.pre
  have hown : s.vm.findClass y.cls = some m.cls := findClass_of_methodNamed B.named
  rw [ho] at hown
  have hl := lv_entry av (n := maxL) hml
  rw [lg_entry_eq]
  exact body p e s m below meth c ⟨⟨B.exec, B.bytes, hml', hown, hts⟩, hK⟩ B.returns B.notSynchronized _ hl ⟨hP, va_S.rf⟩
section MK
variable {p : Program} {l : Launch} {e : Env} {R : Room} {s : State} {m : MethodId} {args : Array Value} {below : List Frame} {meth : Method} {c : Code} {H : Heap} {locs : List Loc} {cells slots : Nat} {Q : State → Prop}
variable {cc : ByteArray} {pc nL : Nat} {ls : Array Slot} {rest st0 : List Value} {E : Ev} {v v' : Mem} {Ts : List Cond} {own : String}
theorem g_iret (F : FX p m c cc nL s args Ts own E) (hr : meth.sig.returnType = some .int) (hlk : meth.locks = false) (hH : HS E s.heap v H locs) {r r' : Int32} (h1 : r = r') (h2 : v = v') (hdg : decode cc pc = .ok (.ireturn, 1)) : W p l e R s m args below meth c H locs 0 0 (Zi below E args s r' v') (F0 m pc ls [.int r]) :=
  W.iret F.1.1 F.1.2.1 hr (fun t ht hW => ⟨⟨r, v, rfl, ⟨h1, h2⟩, show HP E v t.heap by rw [ht]; exact hH.1⟩, hH.2.F ht⟩) hH.2.2.2 hdg hlk
theorem g_zret (F : FX p m c cc nL s args Ts own E) (hr : meth.sig.returnType = some .boolean) (hlk : meth.locks = false) (hH : HS E s.heap v H locs) {r r' : Int32} (hn : narrow .boolean (.int r) = .int r) (h1 : r = r') (h2 : v = v') (hdg : decode cc pc = .ok (.ireturn, 1)) : W p l e R s m args below meth c H locs 0 0 (Zi below E args s r' v') (F0 m pc ls [.int r]) :=
  W.zret F.1.1 F.1.2.1 hr hn (fun t ht hW => ⟨⟨r, v, rfl, ⟨h1, h2⟩, show HP E v t.heap by rw [ht]; exact hH.1⟩, hH.2.F ht⟩) hH.2.2.2 hdg hlk
theorem g_vret (F : FX p m c cc nL s args Ts own E) (hr : meth.sig.returnType = none) (hlk : meth.locks = false) (hH : HS E s.heap v H locs) (h2 : v = v') (hdg : decode cc pc = .ok (.return_, 1)) : W p l e R s m args below meth c H locs 0 0 (Zv below E args s v') (F0 m pc ls []) :=
  W.vret F.1.1 F.1.2.1 hr (fun t ht hW => ⟨⟨v, rfl, h2, show HP E v t.heap by rw [ht]; exact hH.1⟩, hH.2.F ht⟩) hH.2.2.2 hdg hlk
theorem g_aret (F : FX p m c cc nL s args Ts own E) {rt : FieldType} (hr : meth.sig.returnType = some rt) (hrt : (∃ n, rt = .object n) ∨ ∃ t, rt = .array t) (hlk : meth.locks = false) (hH : HS E s.heap v H locs) {a a' : Nat} (h1 : a = a') (h2 : v = v') (hdg : decode cc pc = .ok (.areturn, 1)) : W p l e R s m args below meth c H locs 0 0 (Zr below E args s a' v') (F0 m pc ls [.ref a]) :=
  W.aret F.1.1 F.1.2.1 hr hrt (Or.inr ⟨a, rfl⟩) (fun t ht hW => ⟨⟨v, a, rfl, h2, h1, show HP E v t.heap by rw [ht]; exact hH.1⟩, hH.2.F ht⟩) hH.2.2.2 hdg hlk
theorem g_get (F : FX p m c cc nL s args Ts own E) (hH : HS E s.heap v H locs) {C ref : String} {T : u_T} {N ci index k : Nat} (hin : ∀ w ∈ u_ws C T N, w ∈ Ts) (hk : k ∈ eK E) {fs : List Value} (he : celq E (v k) k = .inr (ci, fs)) (hc : vwCl[ci]? = some (C, T, N)) (j : Nat) (hj : j < N) (hlink : (Cond.fieldLink own index ref (T j).2.1 (T j).2.2.1).before args s = true) (hsame : ∀ x, s.fieldFound? (T j).1 (T j).2.1 (T j).2.2.1 = some x → s.fieldFound? ref (T j).2.1 (T j).2.2.1 = some x) {x : Value} (hx : fs[j]? = some x) (hdg : decode cc pc = .ok (.getfield index, 3))
    (kk : W p l e R s m args below meth c H locs cells slots Q (F0 m (pc + 3) ls (x :: rest))) : W p l e R s m args below meth c H locs cells slots Q (F0 m pc ls (.ref (eAd E k) :: rest)) := by
  obtain ⟨q, hq⟩ := kw_get (f := cel E v) (ad := eAd E) hk
  exact va_get F.1.1 F.1.2.1 F.1.2.2.2.2 hin F.1.2.2.2.1 F.2.1 hH.1.1 q (hq.trans (by rw [show cel E v k = _ from he])) hc j hj hlink hsame hx hdg kk
theorem g_put (F : FX p m c cc nL s args Ts own E) (hH : HS E s.heap v H locs) {C ref : String} {T : u_T} {N ci index k : Nat} (hin : ∀ w ∈ u_ws C T N, w ∈ Ts) (ty0 : Nat → FieldType) (hty : ∀ k, k < N → parseFieldDescriptor (T k).2.2.1 = some (ty0 k)) (hnm : ∀ a, a < N → ∀ b, b < N → a ≠ b → (T a).2.1 ≠ (T b).2.1) (hk : k ∈ eK E) {fs : List Value} (he : celq E (v k) k = .inr (ci, fs)) (hc : vwCl[ci]? = some (C, T, N)) (j : Nat) (hj : j < N) (hlink : (Cond.fieldLink own index ref (T j).2.1 (T j).2.2.1).before args s = true) (hsame : ∀ x, s.fieldFound? (T j).1 (T j).2.1 (T j).2.2.1 = some x → s.fieldFound? ref (T j).2.1 (T j).2.2.1 = some x) (hfin : (T j).2.2.2 = false) {ty : FieldType} {x : Int32} (hd : parseFieldDescriptor (T j).2.2.1 = some ty) (hn : narrow ty (.int x) = .int x) (hfit : fits ty (.int x) = true) (hl : j < fs.length) (hup : celq E (upd (v k) j x) k = .inr (ci, fs.set j (.int x))) (hdg : decode cc pc = .ok (.putfield index, 3))
    (kk : ∀ (H1 : Heap) (locs1 : List Loc), HS E s.heap (st v k j x) H1 locs1 → W p l e R s m args below meth c H1 locs1 cells slots Q (F0 m (pc + 3) ls rest)) : W p l e R s m args below meth c H locs cells slots Q (F0 m pc ls (.int x :: .ref (eAd E k) :: rest)) := by
  obtain ⟨q, hq⟩ := kw_get (f := cel E v) (ad := eAd E) hk
  refine va_put F.1.1 F.1.2.1 F.1.2.2.2.2 hin ty0 hty hnm F.1.2.2.2.1 F.2.1 hH.1.1 hH.1.2 hH.2 q (hq.trans (by rw [show cel E v k = _ from he])) hc j hj hlink hsame hfin hd hn hfit hl hdg (fun H1 locs1 hP hD hS => kk H1 locs1 ⟨⟨?_, ?_⟩, hS⟩)
  · rw [kw_set hH.1.2 hk hq, ← hup, ← cel_up] at hP
    exact hP
  · rw [kw_set hH.1.2 hk hq, ← hup, ← cel_up] at hD
    exact hD
theorem g_iald (F : FX p m c cc nL s args Ts own E) (hH : HS E s.heap v H locs) {k n : Nat} {f : Nat → Int32} (hk : k ∈ eK E) (he : celq E (v k) k = .inl (eI E, n, .inl f)) {i x : Int32} (j : Nat) (hi : i = nI j) (hj : j < n) (hn : n < 2 ^ 31) (hx : f j = x) (hdg : decode cc pc = .ok (.iaload, 1))
    (kk : W p l e R s m args below meth c H locs cells slots Q (F0 m (pc + 1) ls (.int x :: rest))) : W p l e R s m args below meth c H locs cells slots Q (F0 m pc ls (.int i :: .ref (eAd E k) :: rest)) := by
  obtain ⟨q, hq⟩ := kw_get (f := cel E v) (ad := eAd E) hk
  subst hi
  refine va_iald F.1.1 F.1.2.1 F.2.1 hH.1.1 q 0 (hq.trans (by rw [show cel E v k = _ from he])) rfl (vp_in_nI hj hn) hdg ?_
  rw [nI_clamp (by omega), hx]
  exact kk
theorem g_iast (F : FX p m c cc nL s args Ts own E) (hH : HS E s.heap v H locs) {k n : Nat} (hk : k ∈ eK E) (he : ∀ g, celq E g k = .inl (eI E, n, .inl g)) {i x : Int32} (j : Nat) (hi : i = nI j) (hj : j < n) (hn : n < 2 ^ 31) (hdg : decode cc pc = .ok (.iastore, 1))
    (kk : ∀ (H1 : Heap) (locs1 : List Loc), HS E s.heap (st v k j x) H1 locs1 → W p l e R s m args below meth c H1 locs1 cells slots Q (F0 m (pc + 1) ls rest)) : W p l e R s m args below meth c H locs cells slots Q (F0 m pc ls (.int x :: .int i :: .ref (eAd E k) :: rest)) := by
  obtain ⟨q, hq⟩ := kw_get (f := cel E v) (ad := eAd E) hk
  subst hi
  refine va_iast F.1.1 F.1.2.1 F.2.1 hH.1.1 hH.1.2 hH.2 q 0 (hq.trans (by rw [show cel E v k = _ from he (v k)])) rfl (vp_in_nI hj hn) hdg (fun H1 locs1 hP hD hS => kk H1 locs1 ⟨⟨?_, ?_⟩, hS⟩)
  · rw [nI_clamp (by omega), kw_set hH.1.2 hk hq, ← he (upd (v k) j x), ← cel_up] at hP
    exact hP
  · rw [nI_clamp (by omega), kw_set hH.1.2 hk hq, ← he (upd (v k) j x), ← cel_up] at hD
    exact hD
theorem g_alen (F : FX p m c cc nL s args Ts own E) (hH : HS E s.heap v H locs) {k n : Nat} (hk : k ∈ eK E) (he : celq E (v k) k = .inl (eI E, n, .inl (v k))) (hdg : decode cc pc = .ok (.arraylength, 1))
    (kk : W p l e R s m args below meth c H locs cells slots Q (F0 m (pc + 1) ls (.int (nI n) :: rest))) : W p l e R s m args below meth c H locs cells slots Q (F0 m pc ls (.ref (eAd E k) :: rest)) := by
  obtain ⟨q, hq⟩ := kw_get (f := cel E v) (ad := eAd E) hk
  exact va_alen (x := (n, .inl (v k))) (v := nI n) F.1.1 F.1.2.1 F.2.1 hH.1.1 q 0 (hq.trans (by rw [show cel E v k = _ from he])) rfl rfl hdg kk
theorem g_aald (F : FX p m c cc nL s args Ts own E) (hH : HS E s.heap v H locs) {k n : Nat} {f : Nat → Option Nat} (hk : k ∈ eK E) (he : celq E (v k) k = .inl (eO E, n, .inr (.inr (.inr (.inr f))))) {i : Int32} (j : Nat) (hi : i = nI j) (hj : j < n) (hn : n < 2 ^ 31) {a : Nat} (ha : f j = some a) (hdg : decode cc pc = .ok (.aaload, 1))
    (kk : W p l e R s m args below meth c H locs cells slots Q (F0 m (pc + 1) ls (.ref a :: rest))) : W p l e R s m args below meth c H locs cells slots Q (F0 m pc ls (.int i :: .ref (eAd E k) :: rest)) := by
  obtain ⟨q, hq⟩ := kw_get (f := cel E v) (ad := eAd E) hk
  subst hi
  refine va_aldq F.1.1 F.1.2.1 F.2.1 hH.1.1 q 1 (hq.trans (by rw [show cel E v k = _ from he])) rfl (vp_in_nI hj hn) hdg ?_
  rw [nI_clamp (by omega), ha]
  exact kk
theorem g_cast (F : FX p m c cc nL s args Ts own E) (hH : HS E s.heap v H locs) {nm : String} {T : u_T} {N ci index k : Nat} {fs : List Value} (hk : k ∈ eK E) (he : celq E (v k) k = .inr (ci, fs)) (hc : vwCl[ci]? = some (nm, T, N)) (hlink : (Cond.classLink own index nm).before args s = true) (hdg : decode cc pc = .ok (.checkcast index, 3))
    (kk : W p l e R s m args below meth c H locs cells slots Q (F0 m (pc + 3) ls (.ref (eAd E k) :: rest))) : W p l e R s m args below meth c H locs cells slots Q (F0 m pc ls (.ref (eAd E k) :: rest)) := by
  obtain ⟨q, hq⟩ := kw_get (f := cel E v) (ad := eAd E) hk
  exact va_castS F.1.1 F.1.2.1 F.1.2.2.2.1 hlink (F.2.1.1 ci _ hc).2 (va_recv F.2.1 hH.1.1 hc (hq.trans (by rw [show cel E v k = _ from he]))) hdg kk
theorem g_copy (F : FX p m c cc nL s args Ts own E) (hH : HS E s.heap v H locs) (hml : c.maxLocals = ls.size) {index k k2 n n2 : Nat} {f : Nat → Int32} (hk : k ∈ eK E) (he : ∀ g, celq E g k = .inl (eI E, n, .inl g)) (hk2 : k2 ∈ eK E) (he2 : celq E (v k2) k2 = .inl (eI E, n2, .inl f)) (hlink : (Cond.methodLink own index arraycopyName).before args s = true) (hnat : (Cond.native arraycopyName).before args s = true) (hstat : (Cond.static arraycopyName).before args s = true) (hini : (Cond.initialized "java/lang/System").before args s = true) {i : Int32} (j : Nat) (hi : i = nI j) (hj : j ≤ n) (hj2 : j ≤ n2) (hn : n < 2 ^ 31) (hframes : 1 ≤ R.frames) (hlocals : (rest.map fun v => v.category).sum + (nativeFrameWords "java/lang/System" "arraycopy" 5 + 11) ≤ R.locals) (hdg : decode cc pc = .ok (.invokestatic index, 3))
    (kk : ∀ (H1 : Heap) (locs1 : List Loc), HS E s.heap (va_up v k (va_cpy f (v k) 0 0 j)) H1 locs1 → W p l e R s m args below meth c H1 locs1 cells slots Q (F0 m (pc + 3) ls rest)) : W p l e R s m args below meth c H locs cells slots Q (F0 m pc ls (.int i :: .int 0 :: .ref (eAd E k) :: .int 0 :: .ref (eAd E k2) :: rest)) := by
  obtain ⟨q, hq⟩ := kw_get (f := cel E v) (ad := eAd E) hk
  obtain ⟨q2, hq2⟩ := kw_get (f := cel E v) (ad := eAd E) hk2
  subst hi
  have h0 : (0 : Int32).toNatClampNeg = 0 := by decide
  have hj3 : (nI j).toNatClampNeg = j := nI_clamp (by omega)
  refine va_copyi (ty := .int) F.1.1 F.1.2.1 hml F.1.2.2.2.1 hlink hnat hstat hini F.2.1 hH.1.1 hH.1.2 hH.2 q2 q 0 0 (hq2.trans (by rw [show cel E v k2 = _ from he2])) (hq.trans (by rw [show cel E v k = _ from he (v k)])) rfl rfl rfl (by decide) (by decide) (nI_pos (by omega)) (by rw [h0, hj3]; omega) (by rw [h0, hj3]; omega) (fun _ _ => rfl) hframes hlocals hdg (fun H1 locs1 hP hD hS => kk H1 locs1 ⟨⟨?_, ?_⟩, hS⟩)
  · rw [h0, hj3, kw_set hH.1.2 hk hq, ← he (va_cpy f (v k) 0 0 j), ← cel_up] at hP
    exact hP
  · rw [h0, hj3, kw_set hH.1.2 hk hq, ← he (va_cpy f (v k) 0 0 j), ← cel_up] at hD
    exact hD
theorem g_vi (F : FX p m c cc nL s args Ts own E) (hH : HS E s.heap v H locs) {y : MethodName} {ws' : List Cond} {rm' : Room} {As : List Value} {r : Int32} {bytes : ByteArray} {maxL n index N ci k : Nat} {ret : Option FieldType} {C : String} {T : u_T} {fs : List Value} (hM : Ci l y ws' rm' E (.ref (eAd E k) :: As) v r v') (cw : CallW R s args own C index y bytes maxL ret ws' rm' 0 0 n) (hk : k ∈ eK E) (he : celq E (v k) k = .inr (ci, fs)) (hc : vwCl[ci]? = some (C, T, N)) (hn : As.length = n) (hls : ls.size = nL) (rest : List Value) (hst : st0 = As.reverse ++ .ref (eAd E k) :: rest) (hW : (rest.map fun v => v.category).sum ≤ 8) (hdg : decode cc pc = .ok (.invokevirtual index, 3)) (hf : cells + 0 ≤ R.cells ∧ slots + 0 ≤ R.slots)
    (kk : ∀ (H1 : Heap) (locs1 : List Loc), HS E s.heap v' H1 locs1 → W p l e R s m args below meth c H1 locs1 cells slots Q (F0 m (pc + 3) ls (.int r :: rest))) : W p l e R s m args below meth c H locs cells slots Q (F0 m pc ls st0) := by
  obtain ⟨q, hq⟩ := kw_get (f := cel E v) (ad := eAd E) hk
  refine va_calli (va_runV (As := As) (rest := rest) F.1 hM cw ⟨WD.blind, va_recv F.2.1 hH.1.1 hc (hq.trans (by rw [show cel E v k = _ from he])), fun U hU hWm => ⟨rfl, by rw [hU]; exact hH.1, F.2.pass hH.2 hU hWm⟩⟩ rfl hn hls hst (lv_room hW) hdg hf) hH.2 (fun q _ h => h) (fun q h => h) (fun r' u t H1 locs1 ht hvm hw hB hz hk1 hS => ?_)
  obtain ⟨rfl, rfl⟩ := hw
  exact kk H1 locs1 ⟨by rw [← ht]; exact hB, hS⟩
theorem g_vv (F : FX p m c cc nL s args Ts own E) (hH : HS E s.heap v H locs) {y : MethodName} {ws' : List Cond} {rm' : Room} {As : List Value} {bytes : ByteArray} {maxL n index N ci k : Nat} {ret : Option FieldType} {C : String} {T : u_T} {fs : List Value} (hM : Cv l y ws' rm' E (.ref (eAd E k) :: As) v v') (cw : CallW R s args own C index y bytes maxL ret ws' rm' 0 0 n) (hk : k ∈ eK E) (he : celq E (v k) k = .inr (ci, fs)) (hc : vwCl[ci]? = some (C, T, N)) (hn : As.length = n) (hls : ls.size = nL) (rest : List Value) (hst : st0 = As.reverse ++ .ref (eAd E k) :: rest) (hW : (rest.map fun v => v.category).sum ≤ 8) (hdg : decode cc pc = .ok (.invokevirtual index, 3)) (hf : cells + 0 ≤ R.cells ∧ slots + 0 ≤ R.slots)
    (kk : ∀ (H1 : Heap) (locs1 : List Loc), HS E s.heap v' H1 locs1 → W p l e R s m args below meth c H1 locs1 cells slots Q (F0 m (pc + 3) ls rest)) : W p l e R s m args below meth c H locs cells slots Q (F0 m pc ls st0) := by
  obtain ⟨q, hq⟩ := kw_get (f := cel E v) (ad := eAd E) hk
  refine va_callv (va_runV (As := As) (rest := rest) F.1 hM cw ⟨WD.blind, va_recv F.2.1 hH.1.1 hc (hq.trans (by rw [show cel E v k = _ from he])), fun U hU hWm => ⟨rfl, by rw [hU]; exact hH.1, F.2.pass hH.2 hU hWm⟩⟩ rfl hn hls hst (lv_room hW) hdg hf) hH.2 (fun q _ h => h) (fun q h => h) (fun u t H1 locs1 ht hvm hw hB hz hk1 hS => ?_)
  subst hw
  exact kk H1 locs1 ⟨by rw [← ht]; exact hB, hS⟩
theorem g_vr (F : FX p m c cc nL s args Ts own E) (hH : HS E s.heap v H locs) {y : MethodName} {ws' : List Cond} {rm' : Room} {As : List Value} {a : Nat} {bytes : ByteArray} {maxL n index N ci k : Nat} {ret : Option FieldType} {C : String} {T : u_T} {fs : List Value} (hM : Cr l y ws' rm' E (.ref (eAd E k) :: As) v a v') (cw : CallW R s args own C index y bytes maxL ret ws' rm' 0 0 n) (hk : k ∈ eK E) (he : celq E (v k) k = .inr (ci, fs)) (hc : vwCl[ci]? = some (C, T, N)) (hn : As.length = n) (hls : ls.size = nL) (rest : List Value) (hst : st0 = As.reverse ++ .ref (eAd E k) :: rest) (hW : (rest.map fun v => v.category).sum ≤ 8) (hdg : decode cc pc = .ok (.invokevirtual index, 3)) (hf : cells + 0 ≤ R.cells ∧ slots + 0 ≤ R.slots)
    (kk : ∀ (H1 : Heap) (locs1 : List Loc), HS E s.heap v' H1 locs1 → W p l e R s m args below meth c H1 locs1 cells slots Q (F0 m (pc + 3) ls (.ref a :: rest))) : W p l e R s m args below meth c H locs cells slots Q (F0 m pc ls st0) := by
  obtain ⟨q, hq⟩ := kw_get (f := cel E v) (ad := eAd E) hk
  refine va_callr (va_runV (As := As) (rest := rest) F.1 hM cw ⟨WD.blind, va_recv F.2.1 hH.1.1 hc (hq.trans (by rw [show cel E v k = _ from he])), fun U hU hWm => ⟨rfl, by rw [hU]; exact hH.1, F.2.pass hH.2 hU hWm⟩⟩ rfl hn hls hst (lv_room hW) hdg hf) hH.2 (fun q _ h => h) (fun q h => h) (fun u a' t H1 locs1 ht hvm hw hB hz hk1 hS => ?_)
  subst hw
  obtain ⟨rfl, hB⟩ := hB
  exact kk H1 locs1 ⟨by rw [← ht]; exact hB, hS⟩
theorem g_si (F : FX p m c cc nL s args Ts own E) (hH : HS E s.heap v H locs) {y : MethodName} {ws' : List Cond} {rm' : Room} {As : List Value} {r : Int32} {bytes : ByteArray} {maxL n index : Nat} {ret : Option FieldType} (hM : Ci l y ws' rm' E As v r v') (cw : CallB R s args own index y bytes maxL ret ws' rm' 0 0 n ∧ (Cond.static y).before args s = true) (hn : As.length = n) (hls : ls.size = nL) (rest : List Value) (hst : st0 = As.reverse ++ rest) (hW : (rest.map fun v => v.category).sum ≤ 8) (hdg : decode cc pc = .ok (.invokestatic index, 3)) (hf : cells + 0 ≤ R.cells ∧ slots + 0 ≤ R.slots)
    (kk : ∀ (H1 : Heap) (locs1 : List Loc), HS E s.heap v' H1 locs1 → W p l e R s m args below meth c H1 locs1 cells slots Q (F0 m (pc + 3) ls (.int r :: rest))) : W p l e R s m args below meth c H locs cells slots Q (F0 m pc ls st0) := by
  refine va_calli (va_runS (As := As) (rest := rest) F.1 hM cw ⟨WD.blind, fun U hU hWm => ⟨rfl, by rw [hU]; exact hH.1, F.2.pass hH.2 hU hWm⟩⟩ rfl hn hls hst (lv_room hW) hdg hf) hH.2 (fun q _ h => h) (fun q h => h) (fun r' u t H1 locs1 ht hvm hw hB hz hk1 hS => ?_)
  obtain ⟨rfl, rfl⟩ := hw
  exact kk H1 locs1 ⟨by rw [← ht]; exact hB, hS⟩
theorem g_sv (F : FX p m c cc nL s args Ts own E) (hH : HS E s.heap v H locs) {y : MethodName} {ws' : List Cond} {rm' : Room} {As : List Value} {bytes : ByteArray} {maxL n index : Nat} {ret : Option FieldType} (hM : Cv l y ws' rm' E As v v') (cw : CallB R s args own index y bytes maxL ret ws' rm' 0 0 n ∧ (Cond.static y).before args s = true) (hn : As.length = n) (hls : ls.size = nL) (rest : List Value) (hst : st0 = As.reverse ++ rest) (hW : (rest.map fun v => v.category).sum ≤ 8) (hdg : decode cc pc = .ok (.invokestatic index, 3)) (hf : cells + 0 ≤ R.cells ∧ slots + 0 ≤ R.slots)
    (kk : ∀ (H1 : Heap) (locs1 : List Loc), HS E s.heap v' H1 locs1 → W p l e R s m args below meth c H1 locs1 cells slots Q (F0 m (pc + 3) ls rest)) : W p l e R s m args below meth c H locs cells slots Q (F0 m pc ls st0) := by
  refine va_callv (va_runS (As := As) (rest := rest) F.1 hM cw ⟨WD.blind, fun U hU hWm => ⟨rfl, by rw [hU]; exact hH.1, F.2.pass hH.2 hU hWm⟩⟩ rfl hn hls hst (lv_room hW) hdg hf) hH.2 (fun q _ h => h) (fun q h => h) (fun u t H1 locs1 ht hvm hw hB hz hk1 hS => ?_)
  subst hw
  exact kk H1 locs1 ⟨by rw [← ht]; exact hB, hS⟩
theorem g_sni (F : FX p m c cc nL s args Ts own E) (hH : HS E s.heap v H locs) {y : MethodName} {host : String} {ws' : List Cond} {rm' : Room} {As : List Value} {r : Int32} {bytes : ByteArray} {maxL n index : Nat} {ret : Option FieldType} (hM : Ci l y ws' rm' E As v r v') (cw : va_CN R s args own index y host bytes maxL ret ws' rm' 0 0 n ∧ (Cond.static y).before args s = true ∧ True) (hn : As.length = n) (hls : ls.size = nL) (rest : List Value) (hst : st0 = As.reverse ++ rest) (hW : (rest.map fun v => v.category).sum ≤ 8) (hdg : decode cc pc = .ok (.invokestatic index, 3)) (hf : cells + 0 ≤ R.cells ∧ slots + 0 ≤ R.slots)
    (kk : ∀ (H1 : Heap) (locs1 : List Loc), HS E s.heap v' H1 locs1 → W p l e R s m args below meth c H1 locs1 cells slots Q (F0 m (pc + 3) ls (.int r :: rest))) : W p l e R s m args below meth c H locs cells slots Q (F0 m pc ls st0) := by
  refine va_calli (va_runSN (As := As) (rest := rest) F.1 hM cw ⟨WD.blind, fun U hU hWm => ⟨rfl, by rw [hU]; exact hH.1, F.2.pass hH.2 hU hWm⟩⟩ rfl hn hls hst (lv_room hW) hdg hf) hH.2 (fun q _ h => h) (fun q h => h) (fun r' u t H1 locs1 ht hvm hw hB hz hk1 hS => ?_)
  obtain ⟨rfl, rfl⟩ := hw
  exact kk H1 locs1 ⟨by rw [← ht]; exact hB, hS⟩
end MK
end
section
/-! plain functions of rows and of the memory -/
def imx (a b : Int32) : Int32 := if a < b then b else a
theorem imx_eq (a b : Int32) : imx a b = (if a < b then b else a) := rfl
def imn (a b : Int32) : Int32 := if b < a then b else a
theorem imn_eq (a b : Int32) : imn a b = (if b < a then b else a) := rfl
theorem nI_m1 {n : Nat} (h : 0 < n) : nI n - 1 = nI (n - 1) := by
  have k := pk_sub (a := n) (b := 1) h
  exact k
def psum (f : Nat → Int32) : Nat → Int32
  | 0 => 0
  | n + 1 => psum f n + f n
def pmx (f : Nat → Int32) : Nat → Int32
  | 0 => 0
  | n + 1 => imx (pmx f n) (f n)
def pstr (f : Nat → Int32) (n : Nat) : Int32 := pmx f n - imn (f 0) (f (n - 1))
def out (x a b : Int32) : Int32 := if x < a then 1 else if x ≤ b then 0 else 1
def quo (a b : Int32) : Int32 := if b = 0 then 0 else a / b
def lea (f : Nat → Int32) (n : Nat) (d bot : Int32) (k : Nat) : Int32 := if k + 1 < n then (f k - f (k + 1)) * d / 1000 else bot
def ent (f : Nat → Int32) (n : Nat) (d top bot : Int32) : Nat → Int32
  | 0 => -top
  | k + 1 => lea f n d bot k
/-- the row when t of its layers have taken their flows -/
def fpre (f : Nat → Int32) (n : Nat) (d top bot : Int32) (t : Nat) : Nat → Int32 := fun k => if k < t then f k + (ent f n d top bot k - lea f n d bot k) else f k
def flw (f : Nat → Int32) (n : Nat) (d top bot : Int32) : Nat → Int32 := fpre f n d top bot n
theorem up_self {α : Type} (v : Nat → α) (k : Nat) : va_up v k (v k) = v := by
  funext q
  by_cases h : q = k
  · subst h; simp [va_up]
  · simp [va_up, h]
theorem up_at {α : Type} (v : Nat → α) (k : Nat) (g : α) : va_up v k g k = g := by simp [va_up]
theorem up_ne {α : Type} (v : Nat → α) {k q : Nat} (g : α) (h : q ≠ k) : va_up v k g q = v q := by simp [va_up, h]
theorem up_up {α : Type} (v : Nat → α) (k : Nat) (g g2 : α) : va_up (va_up v k g) k g2 = va_up v k g2 := by
  funext q
  by_cases h : q = k <;> simp [va_up, h]
theorem st_up (v : Mem) (k : Nat) (g : Nat → Int32) (j : Nat) (x : Int32) : st (va_up v k g) k j x = va_up v k (upd g j x) := by
  rw [st, up_at, up_up]
theorem st_at (v : Mem) (k j : Nat) (x : Int32) : st v k j x k j = x := by simp [st, va_up, upd]
theorem st_ne (v : Mem) {k q : Nat} (j : Nat) (x : Int32) (h : q ≠ k) : st v k j x q = v q := by simp [st, va_up, h]
theorem st_nj (v : Mem) (k : Nat) {j i : Nat} (x : Int32) (h : i ≠ j) : st v k j x k i = v k i := by simp [st, va_up, upd, h]
theorem fpre_zero (f : Nat → Int32) (n : Nat) (d top bot : Int32) : fpre f n d top bot 0 = f := by
  funext k
  simp [fpre]
theorem fpre_ge (f : Nat → Int32) (n : Nat) (d top bot : Int32) {t k : Nat} (h : t ≤ k) : fpre f n d top bot t k = f k := by
  unfold fpre
  rw [if_neg (by omega)]
theorem fpre_step (f : Nat → Int32) (n : Nat) (d top bot : Int32) (t : Nat) {x : Int32} (hx : x = f t + (ent f n d top bot t - lea f n d bot t)) : upd (fpre f n d top bot t) t x = fpre f n d top bot (t + 1) := by
  funext k
  unfold upd fpre
  by_cases h : k = t
  · subst h
    rw [if_pos rfl, if_pos (by omega)]
    exact hx
  · rw [if_neg h]
    by_cases h2 : k < t
    · rw [if_pos h2, if_pos (by omega)]
    · rw [if_neg h2, if_neg (by omega)]
theorem fp_get (v : Mem) (K n : Nat) (d top bot : Int32) {t k : Nat} (h : t ≤ k) : va_up v K (fpre (v K) n d top bot t) K k = v K k := by
  rw [up_at, fpre_ge _ _ _ _ _ h]
theorem fp_set (v : Mem) (K n : Nat) (d top bot : Int32) (t : Nat) {x : Int32} (hx : x = v K t + (ent (v K) n d top bot t - lea (v K) n d bot t)) : st (va_up v K (fpre (v K) n d top bot t)) K t x = va_up v K (fpre (v K) n d top bot (t + 1)) := by
  rw [st_up, fpre_step _ _ _ _ _ _ hx]
theorem imn_self (a : Int32) : imn a a = a := by
  unfold imn
  by_cases h : a < a <;> simp [h]
theorem ne_ab {i j k l : Nat} (hj : j < 10) (hl : l < 10) : ba i j ≠ bo k l := by
  unfold ba bo
  omega
theorem ne_bl {i j k : Nat} (hk : k < 100) : bo i j ≠ k := by
  unfold bo
  omega
theorem ne_al {i j k : Nat} (hk : k < 100) : ba i j ≠ k := by
  unfold ba
  omega
def btop (E : Ev) (i j : Nat) (a : Int32) (v : Mem) : Int32 := (v (ba i j) 0 - a) * v 1 1 / 1000
def bbot (E : Ev) (i j : Nat) (a : Int32) (v : Mem) : Int32 := (v (ba i j) (eLn E j - 1) - a) * v 1 1 / 1000
/-- a board's drying hour at air a -/
def bdry (E : Ev) (i j : Nat) (a : Int32) (v : Mem) : Mem := va_up (st v (bo i j) 2 a) (ba i j) (flw (v (ba i j)) (eLn E j) (v 1 0) (btop E i j a v) (bbot E i j a v))
def brst (E : Ev) (i j : Nat) (d : Int32) (v : Mem) : Mem := va_up v (ba i j) (flw (v (ba i j)) (eLn E j) d 0 0)
/-- board j of load i takes the moistures of board j of load o -/
def bcpy (E : Ev) (i o j : Nat) (v : Mem) : Mem := va_up v (ba i j) (va_cpy (v (ba o j)) (v (ba i j)) 0 0 (eLn E j))
/-! loads -/
def lavg (E : Ev) (v : Mem) (i j : Nat) : Int32 := quo (psum (v (ba i j)) (eLn E j)) (nI (eLn E j))
def lwat (E : Ev) (v : Mem) (i : Nat) : Nat → Int32
  | 0 => 0
  | t + 1 => lwat E v i t + psum (v (ba i t)) (eLn E t)
def lwg (E : Ev) (v : Mem) (i : Nat) : Nat → Int32
  | 0 => -1
  | t + 1 => if lavg E v i t ≤ lwg E v i t then lwg E v i t else lavg E v i t
def lwb (E : Ev) (v : Mem) (i : Nat) : Nat → Int32
  | 0 => -1000005
  | t + 1 => if lavg E v i t ≤ lwg E v i t then lwb E v i t else nI t
def lga (E : Ev) (v : Mem) (i : Nat) : Nat → Int32
  | 0 => 0
  | t + 1 => imx (lga E v i t) (lavg E v i t)
def iwt (E : Ev) (v : Mem) (i : Nat) (a : Int32) : Int32 := if lga E v i (eNb E i) ≤ a then 0 else 1
def lgg (E : Ev) (v : Mem) (i : Nat) : Nat → Int32
  | 0 => 0
  | t + 1 => imx (lgg E v i t) (pstr (v (ba i t)) (eLn E t))
def lms (E : Ev) (v : Mem) (i : Nat) (a : Int32) : Nat → Int32
  | 0 => 0
  | t + 1 => if a >>> (nI t &&& 31) &&& 1 = 1 then lms E v i a t + lavg E v i t else lms E v i a t
def bsh (x y : Int32) : Int32 := (x.toUInt32 >>> (y.toUInt32 &&& Int32.toUInt32 31)).toInt32
def bc1 (x : Int32) : Int32 := x - (bsh x 1 &&& 1431655765)
def bc2 (x : Int32) : Int32 := (x &&& 858993459) + (bsh x 2 &&& 858993459)
def bc3 (x : Int32) : Int32 := (x + bsh x 4) &&& 252645135
def bc4 (x : Int32) : Int32 := x + bsh x 8
def bc5 (x : Int32) : Int32 := x + bsh x 16
def bitc (x : Int32) : Int32 := bc5 (bc4 (bc3 (bc2 (bc1 x)))) &&& 63
def lmean (E : Ev) (v : Mem) (i : Nat) (a : Int32) : Int32 := quo (lms E v i a (eNb E i)) (bitc a)
/-- which board the air meets as the t-th -/
def lnum (E : Ev) (i : Nat) (w : Mem) (t : Nat) : Nat := if w (5 + i) 0 = 0 then t else eNb E i - 1 - t
def lair (a g k : Int32) : Int32 := imx 0 (a + quo g k)
def ldp (E : Ev) (i : Nat) (a : Int32) (v : Mem) : Nat → Mem × Int32
  | 0 => (v, 0)
  | t + 1 => (bdry E i (lnum E i (ldp E i a v t).1 t) (lair a (ldp E i a v t).2 ((ldp E i a v t).1 1 2)) (ldp E i a v t).1, (ldp E i a v t).2 + (btop E i (lnum E i (ldp E i a v t).1 t) (lair a (ldp E i a v t).2 ((ldp E i a v t).1 1 2)) (ldp E i a v t).1 + bbot E i (lnum E i (ldp E i a v t).1 t) (lair a (ldp E i a v t).2 ((ldp E i a v t).1 1 2)) (ldp E i a v t).1))
def ntg (x : Int32) : Int32 := if x = 0 then 1 else 0
def lcnt (i : Nat) (q : Int32) (v : Mem) : Mem :=
  if q ≤ 0 then st v (5 + i) 1 (v (5 + i) 1 + 1)
  else if (v (5 + i) 1 + 1) - (v (5 + i) 1 + 1) / q * q = 0 then st (st v (5 + i) 1 (v (5 + i) 1 + 1)) (5 + i) 0 (ntg (v (5 + i) 0))
  else st v (5 + i) 1 (v (5 + i) 1 + 1)
/-- a load's drying hour -/
def ldry (E : Ev) (i : Nat) (a : Int32) (v : Mem) : Mem := lcnt i ((ldp E i a v (eNb E i)).1 1 5) (ldp E i a v (eNb E i)).1
def lgiv (E : Ev) (i : Nat) (a : Int32) (v : Mem) : Int32 := (ldp E i a v (eNb E i)).2
def lrs (E : Ev) (i : Nat) (v : Mem) : Nat → Mem
  | 0 => v
  | t + 1 => brst E i t (lrs E i v t 1 0) (lrs E i v t)
def lrst (E : Ev) (i : Nat) (v : Mem) : Mem := lrs E i v (eNb E i)
def lrc (E : Ev) (i : Nat) (lim h : Int32) (v : Mem) : Nat → Mem × Int32
  | 0 => (v, 0)
  | t + 1 => if (lrc E i lim h v t).1 (bo i t) 1 = -1000005 then (if pstr ((lrc E i lim h v t).1 (ba i t)) (eLn E t) ≤ lim then lrc E i lim h v t else (st (lrc E i lim h v t).1 (bo i t) 1 h, (lrc E i lim h v t).2 + 1)) else lrc E i lim h v t
def lcp (E : Ev) (i o : Nat) (v : Mem) : Nat → Mem
  | 0 => v
  | t + 1 => bcpy E i o t (lcp E i o v t)
theorem lcp_ne (E : Ev) (i o : Nat) (v : Mem) {q : Nat} (hq : ∀ j, q ≠ ba i j) : ∀ t, lcp E i o v t q = v q
  | 0 => rfl
  | t + 1 => by
    show bcpy E i o t (lcp E i o v t) q = v q
    rw [bcpy, up_ne _ _ (hq t), lcp_ne E i o v hq t]
def lcpy (E : Ev) (i o : Nat) (v : Mem) : Mem := st (st (lcp E i o v (eNb E i)) (5 + i) 0 (v (5 + o) 0)) (5 + i) 1 (v (5 + o) 1)
def lhas (E : Ev) (i : Nat) (a : Int32) : Int32 := if a < 0 then 0 else if nI (eNb E i) ≤ a then 0 else 1
/-! the schedule -/
def sst (v : Mem) (a : Int32) : Nat → Int32
  | 0 => -1000005
  | t + 1 => if v 3 t < a then sst v a t else nI t
def sinl (v : Mem) (a b : Int32) : Int32 := if a < 0 then b else if 8 ≤ a then b else v 4 a.toNatClampNeg
def sapp (v : Mem) (ns : Nat) (a b : Int32) : Mem := st (st (st v 3 ns a) 4 ns b) 2 2 (nI (ns + 1))
def sappr (v : Mem) (ns : Nat) (a : Int32) : Int32 := if 0 < ns ∧ ¬ a < v 3 (ns - 1) then -1000003 else if ns < 8 then nI ns else -1000004
def sappm (v : Mem) (ns : Nat) (a b : Int32) : Mem := if 0 < ns ∧ ¬ a < v 3 (ns - 1) then v else if ns < 8 then sapp v ns a b else v
def isB (x : Int32) : Prop := x = 0 ∨ x = 1
theorem isB.n {x : Int32} (h : isB x) : narrow .boolean (.int x) = .int x := by
  rcases h with rfl | rfl <;> rfl
theorem isB.f {x : Int32} (h : isB x) : fits .boolean (.int x) = true := by
  rcases h with rfl | rfl <;> rfl
end
section
set_option maxHeartbeats 4000000 in
set_option maxRecDepth 100000 in
theorem c_X4_isOutside (l : Launch) (E : Ev) (hE : EO E) (v : Mem) (a : Int32) (b : Int32) (d : Int32) : Ci l yX4_isOutside wsX4_isOutside ({ frames := 0, cells := 0, slots := 0, locals := 0 } : Room) E [.int a, .int b, .int d] v (out a b d) v := by
  refine Ci.of (cc := cX4_isOutside) (maxL := 3) (ret := (some .boolean)) (own := RX4) (by decide) rfl rfl (Nat.le_of_ble_eq_true rfl) ?_
  intro p e s m below meth c F hr hlk ls hl hH
  obtain ⟨hx, hb, hml, hown, hts⟩ := id F.1
  have hl : lv_has ls 3 [(0, .int a), (1, .int b), (2, .int d)] := hl
  refine lv_iload_n hx hb dX4_isOutside_0 rfl (lv_at hl 0 rfl) ?_
  refine lv_iload_n hx hb dX4_isOutside_1 rfl (lv_at hl 1 rfl) ?_
  refine lv_icmp_lt (tgt := 10) hx hb dX4_isOutside_2 (by decide) (fun c1 => ?_) (fun c1 => ?_)
  · skip
    refine lv_iconst (v := 1) hx hb dX4_isOutside_10 (by decide) ?_
    refine lv_goto (tgt := 15) hx hb dX4_isOutside_11 (by decide) ?_
    exact g_zret F hr hlk hH (by rfl) (by first | rfl | (simp only [out, c1, if_true, if_false, ↓reduceIte]; done) | (simp only [out, c1, if_true, if_false, ↓reduceIte]; rfl)) (by first | rfl | (simp only [out, c1, if_true, if_false, ↓reduceIte]; done) | (simp only [out, c1, if_true, if_false, ↓reduceIte]; rfl)) dX4_isOutside_15
  · skip
    refine lv_iload_n hx hb dX4_isOutside_5 rfl (lv_at hl 0 rfl) ?_
    refine lv_iload_n hx hb dX4_isOutside_6 rfl (lv_at hl 2 rfl) ?_
    refine lv_icmp_le (tgt := 14) hx hb dX4_isOutside_7 (by decide) (fun c2 => ?_) (fun c2 => ?_)
    · skip
      refine lv_iconst (v := 0) hx hb dX4_isOutside_14 (by decide) ?_
      exact g_zret F hr hlk hH (by rfl) (by first | rfl | (simp only [out, c1, c2, if_true, if_false, ↓reduceIte]; done) | (simp only [out, c1, c2, if_true, if_false, ↓reduceIte]; rfl)) (by first | rfl | (simp only [out, c1, c2, if_true, if_false, ↓reduceIte]; done) | (simp only [out, c1, c2, if_true, if_false, ↓reduceIte]; rfl)) dX4_isOutside_15
    · skip
      refine lv_iconst (v := 1) hx hb dX4_isOutside_10 (by decide) ?_
      refine lv_goto (tgt := 15) hx hb dX4_isOutside_11 (by decide) ?_
      exact g_zret F hr hlk hH (by rfl) (by first | rfl | (simp only [out, c1, c2, if_true, if_false, ↓reduceIte]; done) | (simp only [out, c1, c2, if_true, if_false, ↓reduceIte]; rfl)) (by first | rfl | (simp only [out, c1, c2, if_true, if_false, ↓reduceIte]; done) | (simp only [out, c1, c2, if_true, if_false, ↓reduceIte]; rfl)) dX4_isOutside_15

set_option maxHeartbeats 4000000 in
set_option maxRecDepth 100000 in
theorem c_X4_quotient (l : Launch) (E : Ev) (hE : EO E) (v : Mem) (a : Int32) (b : Int32) : Ci l yX4_quotient wsX4_quotient ({ frames := 0, cells := 0, slots := 0, locals := 0 } : Room) E [.int a, .int b] v (quo a b) v := by
  refine Ci.of (cc := cX4_quotient) (maxL := 2) (ret := (some .int)) (own := RX4) (by decide) rfl rfl (Nat.le_of_ble_eq_true rfl) ?_
  intro p e s m below meth c F hr hlk ls hl hH
  obtain ⟨hx, hb, hml, hown, hts⟩ := id F.1
  have hl : lv_has ls 2 [(0, .int a), (1, .int b)] := hl
  refine lv_iload_n hx hb dX4_quotient_0 rfl (lv_at hl 1 rfl) ?_
  refine lv_if_ne (tgt := 8) hx hb dX4_quotient_1 (by decide) (fun c1 => ?_) (fun c1 => ?_)
  · skip
    refine lv_iload_n hx hb dX4_quotient_8 rfl (lv_at hl 0 rfl) ?_
    refine lv_iload_n hx hb dX4_quotient_9 rfl (lv_at hl 1 rfl) ?_
    refine lv_idiv hx hb dX4_quotient_10 (by assumption) ?_
    exact g_iret F hr hlk hH (by first | rfl | (simp only [quo, c1, if_true, if_false, ↓reduceIte]; done) | (simp only [quo, c1, if_true, if_false, ↓reduceIte]; rfl)) (by first | rfl | (simp only [quo, c1, if_true, if_false, ↓reduceIte]; done) | (simp only [quo, c1, if_true, if_false, ↓reduceIte]; rfl)) dX4_quotient_11
  · skip
    refine lv_iconst (v := 0) hx hb dX4_quotient_4 (by decide) ?_
    refine lv_goto (tgt := 11) hx hb dX4_quotient_5 (by decide) ?_
    exact g_iret F hr hlk hH (by first | rfl | (simp only [quo, c1, if_true, if_false, ↓reduceIte]; done) | (simp only [quo, c1, if_true, if_false, ↓reduceIte]; rfl)) (by first | rfl | (simp only [quo, c1, if_true, if_false, ↓reduceIte]; done) | (simp only [quo, c1, if_true, if_false, ↓reduceIte]; rfl)) dX4_quotient_11

set_option maxHeartbeats 4000000 in
set_option maxRecDepth 100000 in
theorem c_X0_water (l : Launch) (E : Ev) (hE : EO E) (v : Mem) (i : Nat) (j : Nat) (hi : i < 3) (hj : j < eNb E i) : Ci l yX0_water wsX0_water ({ frames := 0, cells := 0, slots := 0, locals := 0 } : Room) E [.ref (eAd E (bo i j))] v (psum (v (ba i j)) (eLn E j)) v := by
  refine Ci.of (cc := cX0_water) (maxL := 3) (ret := (some .int)) (own := RX0) (by decide) rfl rfl (Nat.le_of_ble_eq_true rfl) ?_
  intro p e s m below meth c F hr hlk ls hl hH
  obtain ⟨hx, hb, hml, hown, hts⟩ := id F.1
  have hl : lv_has ls 3 [(0, .ref (eAd E (bo i j)))] := hl
  have inX0 : ∀ w ∈ wsX00, w ∈ wsX0_water := fun w h => List.mem_cons_of_mem _ (List.mem_append_right _ h)
  have hnb := hE.2.2.2.2.1 i (by omega)
  have hln := hE.2.2.2.2.2.1 j (by omega)
  refine lv_iconst (v := 0) hx hb dX0_water_0 (by decide) ?_
  refine lv_istore_n (lv' := [(1, .int 0), (0, .ref (eAd E (bo i j)))]) hx hb dX0_water_1 rfl hl (by decide) rfl (fun ls hl => ?_)
  refine lv_iconst (v := 0) hx hb dX0_water_2 (by decide) ?_
  refine lv_istore_n (lv' := [(2, .int 0), (1, .int 0), (0, .ref (eAd E (bo i j)))]) hx hb dX0_water_3 rfl hl (by decide) rfl (fun ls hl => ?_)
  have loop4 : ∀ (n t : Nat), t + n = eLn E j → ∀ (H : Heap) (locs : List Loc) (ls : Array Slot), HS E s.heap v H locs → lv_has ls 3 [(0, .ref (eAd E (bo i j))), (1, .int (psum (v (ba i j)) t)), (2, .int (nI t))] → W p l e ({ frames := 0, cells := 0, slots := 0, locals := 0 } : Room) s m ([.ref (eAd E (bo i j))] : List Value).toArray below meth c H locs 0 0 (Zi below E ([.ref (eAd E (bo i j))] : List Value).toArray s (psum (v (ba i j)) (eLn E j)) v) (F0 m 4 ls []) := by
    intro n
    induction n with
    | zero =>
      intro t ht H locs ls hH hl
      obtain rfl : eLn E j = t := by omega
      refine lv_iload_n hx hb dX0_water_4 rfl (lv_at hl 2 rfl) ?_
      refine lv_aload_n hx hb dX0_water_5 rfl (lv_at hl 0 rfl) ?_
      refine g_get (x := .ref (eAd E (ba i j))) F hH inX0 (hE.2.2.2.1 i j hi (by omega)).1 (cq_bo E _ (by omega)) rfl 0 (by decide) (hts (.fieldLink RX0 19 "DryingKiln$Board" "moisture" "[I") (by decide +kernel)) (fun _ h => h) rfl dX0_water_6 ?_
      refine g_alen (n := eLn E j) F hH (hE.2.2.2.1 i j hi (by omega)).2 (cq_ba E _ (by omega)) dX0_water_9 ?_
      refine lv_icmp_ge (tgt := 28) hx hb dX0_water_10 (by decide) (fun c1 => ?_) (fun c1 => ?_)
      · skip
        refine lv_iload_n hx hb dX0_water_28 rfl (lv_at hl 1 rfl) ?_
        exact g_iret F hr hlk hH (by first | rfl | (simp only [c1, if_true, if_false, ↓reduceIte]; done) | (simp only [c1, if_true, if_false, ↓reduceIte]; rfl)) (by first | rfl | (simp only [c1, if_true, if_false, ↓reduceIte]; done) | (simp only [c1, if_true, if_false, ↓reduceIte]; rfl)) dX0_water_29
      · skip
        exact absurd (nI_le (Nat.le_refl _) (by omega)) c1
    | succ n ih =>
      intro t ht H locs ls hH hl
      have htN : t < eLn E j := by omega
      refine lv_iload_n hx hb dX0_water_4 rfl (lv_at hl 2 rfl) ?_
      refine lv_aload_n hx hb dX0_water_5 rfl (lv_at hl 0 rfl) ?_
      refine g_get (x := .ref (eAd E (ba i j))) F hH inX0 (hE.2.2.2.1 i j hi (by omega)).1 (cq_bo E _ (by omega)) rfl 0 (by decide) (hts (.fieldLink RX0 19 "DryingKiln$Board" "moisture" "[I") (by decide +kernel)) (fun _ h => h) rfl dX0_water_6 ?_
      refine g_alen (n := eLn E j) F hH (hE.2.2.2.1 i j hi (by omega)).2 (cq_ba E _ (by omega)) dX0_water_9 ?_
      refine lv_icmp_ge (tgt := 28) hx hb dX0_water_10 (by decide) (fun c2 => ?_) (fun c2 => ?_)
      · skip
        exact absurd c2 (nI_ge htN (by omega))
      · skip
        refine lv_iload_n hx hb dX0_water_13 rfl (lv_at hl 1 rfl) ?_
        refine lv_aload_n hx hb dX0_water_14 rfl (lv_at hl 0 rfl) ?_
        refine g_get (x := .ref (eAd E (ba i j))) F hH inX0 (hE.2.2.2.1 i j hi (by omega)).1 (cq_bo E _ (by omega)) rfl 0 (by decide) (hts (.fieldLink RX0 19 "DryingKiln$Board" "moisture" "[I") (by decide +kernel)) (fun _ h => h) rfl dX0_water_15 ?_
        refine lv_iload_n hx hb dX0_water_18 rfl (lv_at hl 2 rfl) ?_
        refine g_iald (n := eLn E j) (x := v (ba i j) t) F hH (hE.2.2.2.1 i j hi (by omega)).2 (cq_ba E _ (by omega)) t rfl (by omega) (by omega) rfl dX0_water_19 ?_
        refine lv_iadd hx hb dX0_water_20 ?_
        refine lv_istore_n (lv' := [(1, .int ((psum (v (ba i j)) t) + (v (ba i j) t))), (0, .ref (eAd E (bo i j))), (2, .int (nI t))]) hx hb dX0_water_21 rfl hl (by decide) rfl (fun ls hl => ?_)
        refine lv_iinc (v := nI (t + 1)) (lv' := [(2, .int (nI (t + 1))), (1, .int ((psum (v (ba i j)) t) + (v (ba i j) t))), (0, .ref (eAd E (bo i j)))]) hx hb dX0_water_22 hl (k := 2) rfl (nI_1 _) (by decide) rfl (fun ls hl => ?_)
        refine lv_goto (tgt := 4) hx hb dX0_water_25 (by decide) ?_
        exact ih (t + 1) (by omega) _ _ ls (by first | exact hH | (simp only [c2, if_true, if_false, ↓reduceIte]; exact hH)) (by first | exact lv_sub hl [2, 1, 0] rfl | (have h := lv_sub hl [2, 1, 0] rfl; simp only [c2, if_true, if_false, ↓reduceIte]; exact h))
  exact loop4 (eLn E j) 0 (Nat.zero_add _) _ _ ls hH (lv_sub hl [2, 1, 0] rfl)

set_option maxHeartbeats 4000000 in
set_option maxRecDepth 100000 in
theorem c_X0_average (l : Launch) (E : Ev) (hE : EO E) (v : Mem) (i : Nat) (j : Nat) (hi : i < 3) (hj : j < eNb E i) : Ci l yX0_average wsX0_average ({ frames := 1, cells := 0, slots := 0, locals := 22 } : Room) E [.ref (eAd E (bo i j))] v (lavg E v i j) v := by
  refine Ci.of (cc := cX0_average) (maxL := 1) (ret := (some .int)) (own := RX0) (by decide) rfl rfl (Nat.le_of_ble_eq_true rfl) ?_
  intro p e s m below meth c F hr hlk ls hl hH
  obtain ⟨hx, hb, hml, hown, hts⟩ := id F.1
  have hl : lv_has ls 1 [(0, .ref (eAd E (bo i j)))] := hl
  have inX0 : ∀ w ∈ wsX00, w ∈ wsX0_average := fun w h => List.mem_cons_of_mem _ (List.mem_append_right _ h)
  have hnb := hE.2.2.2.2.1 i (by omega)
  have hln := hE.2.2.2.2.2.1 j (by omega)
  refine lv_aload_n hx hb dX0_average_0 rfl (lv_at hl 0 rfl) ?_
  refine g_vi (As := []) F hH (c_X0_water l E hE v i j (by first | assumption | omega | decide) (by first | assumption | omega | decide)) (cwV 0 hts gX0_average_X0_water rfl rfl rfl (by decide +kernel) ⟨Nat.le_of_ble_eq_true rfl, Nat.le_of_ble_eq_true rfl⟩) (hE.2.2.2.1 i j hi (by omega)).1 (cq_bo E _ (by omega)) rfl rfl hl.1 [] rfl (Nat.le_of_ble_eq_true rfl) dX0_average_1 ⟨Nat.zero_le _, Nat.zero_le _⟩ (fun H locs hH => ?_)
  refine lv_aload_n hx hb dX0_average_4 rfl (lv_at hl 0 rfl) ?_
  refine g_get (x := .ref (eAd E (ba i j))) F hH inX0 (hE.2.2.2.1 i j hi (by omega)).1 (cq_bo E _ (by omega)) rfl 0 (by decide) (hts (.fieldLink RX0 19 "DryingKiln$Board" "moisture" "[I") (by decide +kernel)) (fun _ h => h) rfl dX0_average_5 ?_
  refine g_alen (n := eLn E j) F hH (hE.2.2.2.1 i j hi (by omega)).2 (cq_ba E _ (by omega)) dX0_average_8 ?_
  refine g_sni (As := [.int (psum (v (ba i j)) (eLn E j)), .int (nI (eLn E j))]) F hH (c_X4_quotient l E hE v (psum (v (ba i j)) (eLn E j)) (nI (eLn E j))) ⟨va_cnB 2 hts gX0_average_X4_quotient_n33 rfl rfl rfl F.2.2.2.1.1 (hts (.initialized RX4) (by decide +kernel)) (by decide +kernel) ⟨Nat.le_of_ble_eq_true rfl, Nat.le_of_ble_eq_true rfl⟩, (hts (.static yX4_quotient) (by decide +kernel)), trivial⟩ rfl hl.1 [] rfl (Nat.le_of_ble_eq_true rfl) dX0_average_9 ⟨Nat.zero_le _, Nat.zero_le _⟩ (fun H locs hH => ?_)
  exact g_iret F hr hlk hH (by first | rfl | (simp only [if_true, if_false, ↓reduceIte]; done) | (simp only [if_true, if_false, ↓reduceIte]; rfl)) (by first | rfl | (simp only [if_true, if_false, ↓reduceIte]; done) | (simp only [if_true, if_false, ↓reduceIte]; rfl)) dX0_average_12

set_option maxHeartbeats 4000000 in
set_option maxRecDepth 100000 in
theorem c_X0_gradient (l : Launch) (E : Ev) (hE : EO E) (v : Mem) (i : Nat) (j : Nat) (hi : i < 3) (hj : j < eNb E i) : Ci l yX0_gradient wsX0_gradient ({ frames := 1, cells := 0, slots := 0, locals := 24 } : Room) E [.ref (eAd E (bo i j))] v (pstr (v (ba i j)) (eLn E j)) v := by
  refine Ci.of (cc := cX0_gradient) (maxL := 3) (ret := (some .int)) (own := RX0) (by decide) rfl rfl (Nat.le_of_ble_eq_true rfl) ?_
  intro p e s m below meth c F hr hlk ls hl hH
  obtain ⟨hx, hb, hml, hown, hts⟩ := id F.1
  have hl : lv_has ls 3 [(0, .ref (eAd E (bo i j)))] := hl
  have inX0 : ∀ w ∈ wsX00, w ∈ wsX0_gradient := fun w h => List.mem_cons_of_mem _ (List.mem_append_right _ h)
  have hnb := hE.2.2.2.2.1 i (by omega)
  have hln := hE.2.2.2.2.2.1 j (by omega)
  refine lv_iconst (v := 0) hx hb dX0_gradient_0 (by decide) ?_
  refine lv_istore_n (lv' := [(1, .int 0), (0, .ref (eAd E (bo i j)))]) hx hb dX0_gradient_1 rfl hl (by decide) rfl (fun ls hl => ?_)
  refine lv_iconst (v := 0) hx hb dX0_gradient_2 (by decide) ?_
  refine lv_istore_n (lv' := [(2, .int 0), (1, .int 0), (0, .ref (eAd E (bo i j)))]) hx hb dX0_gradient_3 rfl hl (by decide) rfl (fun ls hl => ?_)
  have loop4 : ∀ (n t : Nat), t + n = eLn E j → ∀ (H : Heap) (locs : List Loc) (ls : Array Slot), HS E s.heap v H locs → lv_has ls 3 [(0, .ref (eAd E (bo i j))), (1, .int (pmx (v (ba i j)) t)), (2, .int (nI t))] → W p l e ({ frames := 1, cells := 0, slots := 0, locals := 24 } : Room) s m ([.ref (eAd E (bo i j))] : List Value).toArray below meth c H locs 0 0 (Zi below E ([.ref (eAd E (bo i j))] : List Value).toArray s (pstr (v (ba i j)) (eLn E j)) v) (F0 m 4 ls []) := by
    intro n
    induction n with
    | zero =>
      intro t ht H locs ls hH hl
      obtain rfl : eLn E j = t := by omega
      refine lv_iload_n hx hb dX0_gradient_4 rfl (lv_at hl 2 rfl) ?_
      refine lv_aload_n hx hb dX0_gradient_5 rfl (lv_at hl 0 rfl) ?_
      refine g_get (x := .ref (eAd E (ba i j))) F hH inX0 (hE.2.2.2.1 i j hi (by omega)).1 (cq_bo E _ (by omega)) rfl 0 (by decide) (hts (.fieldLink RX0 19 "DryingKiln$Board" "moisture" "[I") (by decide +kernel)) (fun _ h => h) rfl dX0_gradient_6 ?_
      refine g_alen (n := eLn E j) F hH (hE.2.2.2.1 i j hi (by omega)).2 (cq_ba E _ (by omega)) dX0_gradient_9 ?_
      refine lv_icmp_ge (tgt := 30) hx hb dX0_gradient_10 (by decide) (fun c1 => ?_) (fun c1 => ?_)
      · skip
        refine lv_iload_n hx hb dX0_gradient_30 rfl (lv_at hl 1 rfl) ?_
        refine lv_aload_n hx hb dX0_gradient_31 rfl (lv_at hl 0 rfl) ?_
        refine g_get (x := .ref (eAd E (ba i j))) F hH inX0 (hE.2.2.2.1 i j hi (by omega)).1 (cq_bo E _ (by omega)) rfl 0 (by decide) (hts (.fieldLink RX0 19 "DryingKiln$Board" "moisture" "[I") (by decide +kernel)) (fun _ h => h) rfl dX0_gradient_32 ?_
        refine lv_iconst (v := 0) hx hb dX0_gradient_35 (by decide) ?_
        refine g_iald (n := eLn E j) (x := v (ba i j) 0) F hH (hE.2.2.2.1 i j hi (by omega)).2 (cq_ba E _ (by omega)) 0 rfl (by omega) (by omega) rfl dX0_gradient_36 ?_
        refine lv_aload_n hx hb dX0_gradient_37 rfl (lv_at hl 0 rfl) ?_
        refine g_get (x := .ref (eAd E (ba i j))) F hH inX0 (hE.2.2.2.1 i j hi (by omega)).1 (cq_bo E _ (by omega)) rfl 0 (by decide) (hts (.fieldLink RX0 19 "DryingKiln$Board" "moisture" "[I") (by decide +kernel)) (fun _ h => h) rfl dX0_gradient_38 ?_
        refine lv_aload_n hx hb dX0_gradient_41 rfl (lv_at hl 0 rfl) ?_
        refine g_get (x := .ref (eAd E (ba i j))) F hH inX0 (hE.2.2.2.1 i j hi (by omega)).1 (cq_bo E _ (by omega)) rfl 0 (by decide) (hts (.fieldLink RX0 19 "DryingKiln$Board" "moisture" "[I") (by decide +kernel)) (fun _ h => h) rfl dX0_gradient_42 ?_
        refine g_alen (n := eLn E j) F hH (hE.2.2.2.1 i j hi (by omega)).2 (cq_ba E _ (by omega)) dX0_gradient_45 ?_
        refine lv_iconst (v := 1) hx hb dX0_gradient_46 (by decide) ?_
        refine lv_isub hx hb dX0_gradient_47 ?_
        rw [show (nI (eLn E j)) - 1 = nI (eLn E j - 1) from nI_m1 (by omega)]
        refine g_iald (n := eLn E j) (x := v (ba i j) (eLn E j - 1)) F hH (hE.2.2.2.1 i j hi (by omega)).2 (cq_ba E _ (by omega)) (eLn E j - 1) rfl (by omega) (by omega) rfl dX0_gradient_48 ?_
        refine va_mmin hx hb (by rw [hml]; exact hl.1.symm) hown (hts (.methodLink RX0 42 Lib.Math.min.name) (by decide +kernel)) (hts (.static Lib.Math.min.name) (by decide +kernel)) (hts (.initialized "java/lang/Math") (by decide +kernel)) (hts (.code Lib.Math.min.name Lib.Math.min.code 2 (some .int)) (by decide +kernel)) (Nat.le_of_ble_eq_true rfl) (Nat.le_of_ble_eq_true rfl) (Nat.zero_le _) (Nat.zero_le _) dX0_gradient_49 ?_
        rw [← imn_eq (v (ba i j) 0) (v (ba i j) (eLn E j - 1))]
        refine lv_isub hx hb dX0_gradient_52 ?_
        exact g_iret F hr hlk hH (by first | rfl | (simp only [c1, if_true, if_false, ↓reduceIte]; done) | (simp only [c1, if_true, if_false, ↓reduceIte]; rfl)) (by first | rfl | (simp only [c1, if_true, if_false, ↓reduceIte]; done) | (simp only [c1, if_true, if_false, ↓reduceIte]; rfl)) dX0_gradient_53
      · skip
        exact absurd (nI_le (Nat.le_refl _) (by omega)) c1
    | succ n ih =>
      intro t ht H locs ls hH hl
      have htN : t < eLn E j := by omega
      refine lv_iload_n hx hb dX0_gradient_4 rfl (lv_at hl 2 rfl) ?_
      refine lv_aload_n hx hb dX0_gradient_5 rfl (lv_at hl 0 rfl) ?_
      refine g_get (x := .ref (eAd E (ba i j))) F hH inX0 (hE.2.2.2.1 i j hi (by omega)).1 (cq_bo E _ (by omega)) rfl 0 (by decide) (hts (.fieldLink RX0 19 "DryingKiln$Board" "moisture" "[I") (by decide +kernel)) (fun _ h => h) rfl dX0_gradient_6 ?_
      refine g_alen (n := eLn E j) F hH (hE.2.2.2.1 i j hi (by omega)).2 (cq_ba E _ (by omega)) dX0_gradient_9 ?_
      refine lv_icmp_ge (tgt := 30) hx hb dX0_gradient_10 (by decide) (fun c2 => ?_) (fun c2 => ?_)
      · skip
        exact absurd c2 (nI_ge htN (by omega))
      · skip
        refine lv_iload_n hx hb dX0_gradient_13 rfl (lv_at hl 1 rfl) ?_
        refine lv_aload_n hx hb dX0_gradient_14 rfl (lv_at hl 0 rfl) ?_
        refine g_get (x := .ref (eAd E (ba i j))) F hH inX0 (hE.2.2.2.1 i j hi (by omega)).1 (cq_bo E _ (by omega)) rfl 0 (by decide) (hts (.fieldLink RX0 19 "DryingKiln$Board" "moisture" "[I") (by decide +kernel)) (fun _ h => h) rfl dX0_gradient_15 ?_
        refine lv_iload_n hx hb dX0_gradient_18 rfl (lv_at hl 2 rfl) ?_
        refine g_iald (n := eLn E j) (x := v (ba i j) t) F hH (hE.2.2.2.1 i j hi (by omega)).2 (cq_ba E _ (by omega)) t rfl (by omega) (by omega) rfl dX0_gradient_19 ?_
        refine va_mmax hx hb (by rw [hml]; exact hl.1.symm) hown (hts (.methodLink RX0 37 Lib.Math.max.name) (by decide +kernel)) (hts (.static Lib.Math.max.name) (by decide +kernel)) (hts (.initialized "java/lang/Math") (by decide +kernel)) (hts (.code Lib.Math.max.name Lib.Math.max.code 2 (some .int)) (by decide +kernel)) (Nat.le_of_ble_eq_true rfl) (Nat.le_of_ble_eq_true rfl) (Nat.zero_le _) (Nat.zero_le _) dX0_gradient_20 ?_
        rw [← imx_eq (pmx (v (ba i j)) t) (v (ba i j) t)]
        refine lv_istore_n (lv' := [(1, .int (imx (pmx (v (ba i j)) t) (v (ba i j) t))), (0, .ref (eAd E (bo i j))), (2, .int (nI t))]) hx hb dX0_gradient_23 rfl hl (by decide) rfl (fun ls hl => ?_)
        refine lv_iinc (v := nI (t + 1)) (lv' := [(2, .int (nI (t + 1))), (1, .int (imx (pmx (v (ba i j)) t) (v (ba i j) t))), (0, .ref (eAd E (bo i j)))]) hx hb dX0_gradient_24 hl (k := 2) rfl (nI_1 _) (by decide) rfl (fun ls hl => ?_)
        refine lv_goto (tgt := 4) hx hb dX0_gradient_27 (by decide) ?_
        exact ih (t + 1) (by omega) _ _ ls (by first | exact hH | (simp only [c2, if_true, if_false, ↓reduceIte]; exact hH)) (by first | exact lv_sub hl [2, 1, 0] rfl | (have h := lv_sub hl [2, 1, 0] rfl; simp only [c2, if_true, if_false, ↓reduceIte]; exact h))
  exact loop4 (eLn E j) 0 (Nat.zero_add _) _ _ ls hH (lv_sub hl [2, 1, 0] rfl)

set_option maxHeartbeats 4000000 in
set_option maxRecDepth 100000 in
theorem c_X0_applyFlows (l : Launch) (E : Ev) (hE : EO E) (v : Mem) (i : Nat) (j : Nat) (a : Int32) (b : Int32) (d : Int32) (hi : i < 3) (hj : j < eNb E i) : Cv l yX0_applyFlows wsX0_applyFlows ({ frames := 0, cells := 0, slots := 0, locals := 0 } : Room) E [.ref (eAd E (bo i j)), .int a, .int b, .int d] v (va_up v (ba i j) (flw (v (ba i j)) (eLn E j) d a b)) := by
  refine Cv.of (cc := cX0_applyFlows) (maxL := 7) (ret := none) (own := RX0) (by decide) rfl rfl (Nat.le_of_ble_eq_true rfl) ?_
  intro p e s m below meth c F hr hlk ls hl hH
  obtain ⟨hx, hb, hml, hown, hts⟩ := id F.1
  have hl : lv_has ls 7 [(0, .ref (eAd E (bo i j))), (1, .int a), (2, .int b), (3, .int d)] := hl
  have inX0 : ∀ w ∈ wsX00, w ∈ wsX0_applyFlows := fun w h => List.mem_cons_of_mem _ (List.mem_append_right _ h)
  have hnb := hE.2.2.2.2.1 i (by omega)
  have hln := hE.2.2.2.2.2.1 j (by omega)
  refine lv_iload_n hx hb dX0_applyFlows_0 rfl (lv_at hl 1 rfl) ?_
  refine lv_ineg hx hb dX0_applyFlows_1 ?_
  refine lv_istore (lv' := [(4, .int (-a)), (0, .ref (eAd E (bo i j))), (1, .int a), (2, .int b), (3, .int d)]) hx hb dX0_applyFlows_2 hl (by decide) rfl (fun ls hl => ?_)
  refine lv_iconst (v := 0) hx hb dX0_applyFlows_4 (by decide) ?_
  refine lv_istore (lv' := [(5, .int 0), (4, .int (-a)), (0, .ref (eAd E (bo i j))), (1, .int a), (2, .int b), (3, .int d)]) hx hb dX0_applyFlows_5 hl (by decide) rfl (fun ls hl => ?_)
  have loop7 : ∀ (n t : Nat), t + n = eLn E j → ∀ (H : Heap) (locs : List Loc) (ls : Array Slot), HS E s.heap (va_up v (ba i j) (fpre (v (ba i j)) (eLn E j) d a b t)) H locs → lv_has ls 7 [(0, .ref (eAd E (bo i j))), (1, .int a), (2, .int b), (3, .int d), (4, .int (ent (v (ba i j)) (eLn E j) d a b t)), (5, .int (nI t))] → W p l e ({ frames := 0, cells := 0, slots := 0, locals := 0 } : Room) s m ([.ref (eAd E (bo i j)), .int a, .int b, .int d] : List Value).toArray below meth c H locs 0 0 (Zv below E ([.ref (eAd E (bo i j)), .int a, .int b, .int d] : List Value).toArray s (va_up v (ba i j) (flw (v (ba i j)) (eLn E j) d a b))) (F0 m 7 ls []) := by
    intro n
    induction n with
    | zero =>
      intro t ht H locs ls hH hl
      obtain rfl : eLn E j = t := by omega
      refine lv_iload hx hb dX0_applyFlows_7 (lv_at hl 5 rfl) ?_
      refine lv_aload_n hx hb dX0_applyFlows_9 rfl (lv_at hl 0 rfl) ?_
      refine g_get (x := .ref (eAd E (ba i j))) F hH inX0 (hE.2.2.2.1 i j hi (by omega)).1 (cq_bo E _ (by omega)) rfl 0 (by decide) (hts (.fieldLink RX0 19 "DryingKiln$Board" "moisture" "[I") (by decide +kernel)) (fun _ h => h) rfl dX0_applyFlows_10 ?_
      refine g_alen (n := eLn E j) F hH (hE.2.2.2.1 i j hi (by omega)).2 (cq_ba E _ (by omega)) dX0_applyFlows_13 ?_
      refine lv_icmp_ge (tgt := 83) hx hb dX0_applyFlows_14 (by decide) (fun c1 => ?_) (fun c1 => ?_)
      · skip
        exact g_vret F hr hlk hH rfl dX0_applyFlows_83
      · skip
        exact absurd (nI_le (Nat.le_refl _) (by omega)) c1
    | succ n ih =>
      intro t ht H locs ls hH hl
      have htN : t < eLn E j := by omega
      refine lv_iload hx hb dX0_applyFlows_7 (lv_at hl 5 rfl) ?_
      refine lv_aload_n hx hb dX0_applyFlows_9 rfl (lv_at hl 0 rfl) ?_
      refine g_get (x := .ref (eAd E (ba i j))) F hH inX0 (hE.2.2.2.1 i j hi (by omega)).1 (cq_bo E _ (by omega)) rfl 0 (by decide) (hts (.fieldLink RX0 19 "DryingKiln$Board" "moisture" "[I") (by decide +kernel)) (fun _ h => h) rfl dX0_applyFlows_10 ?_
      refine g_alen (n := eLn E j) F hH (hE.2.2.2.1 i j hi (by omega)).2 (cq_ba E _ (by omega)) dX0_applyFlows_13 ?_
      refine lv_icmp_ge (tgt := 83) hx hb dX0_applyFlows_14 (by decide) (fun c2 => ?_) (fun c2 => ?_)
      · skip
        exact absurd c2 (nI_ge htN (by omega))
      · skip
        refine lv_iload hx hb dX0_applyFlows_17 (lv_at hl 5 rfl) ?_
        refine lv_iconst (v := 1) hx hb dX0_applyFlows_19 (by decide) ?_
        refine lv_iadd hx hb dX0_applyFlows_20 ?_
        rw [nI_1 t]
        refine lv_aload_n hx hb dX0_applyFlows_21 rfl (lv_at hl 0 rfl) ?_
        refine g_get (x := .ref (eAd E (ba i j))) F hH inX0 (hE.2.2.2.1 i j hi (by omega)).1 (cq_bo E _ (by omega)) rfl 0 (by decide) (hts (.fieldLink RX0 19 "DryingKiln$Board" "moisture" "[I") (by decide +kernel)) (fun _ h => h) rfl dX0_applyFlows_22 ?_
        refine g_alen (n := eLn E j) F hH (hE.2.2.2.1 i j hi (by omega)).2 (cq_ba E _ (by omega)) dX0_applyFlows_25 ?_
        refine lv_icmp_ge (tgt := 55) hx hb dX0_applyFlows_26 (by decide) (fun c3 => ?_) (fun c3 => ?_)
        · skip
          have c3 : ¬ (t + 1 < eLn E j) := Nat.not_lt.mpr ((nI_leI (by omega) (by omega)).mp c3)
          refine lv_iload_n hx hb dX0_applyFlows_55 rfl (lv_at hl 2 rfl) ?_
          refine lv_istore (lv' := [(6, .int b), (0, .ref (eAd E (bo i j))), (1, .int a), (2, .int b), (3, .int d), (4, .int (ent (v (ba i j)) (eLn E j) d a b t)), (5, .int (nI t))]) hx hb dX0_applyFlows_56 hl (by decide) rfl (fun ls hl => ?_)
          refine lv_aload_n hx hb dX0_applyFlows_58 rfl (lv_at hl 1 rfl) ?_
          refine g_get (x := .ref (eAd E (ba i j))) F hH inX0 (hE.2.2.2.1 i j hi (by omega)).1 (cq_bo E _ (by omega)) rfl 0 (by decide) (hts (.fieldLink RX0 19 "DryingKiln$Board" "moisture" "[I") (by decide +kernel)) (fun _ h => h) rfl dX0_applyFlows_59 ?_
          refine lv_iload hx hb dX0_applyFlows_62 (lv_at hl 6 rfl) ?_
          refine lv_dup2_11 hx hb dX0_applyFlows_64 rfl rfl ?_
          refine g_iald (n := eLn E j) (x := v (ba i j) t) F hH (hE.2.2.2.1 i j hi (by omega)).2 (cq_ba E _ (by omega)) t rfl (by omega) (by omega) (fp_get v _ _ _ _ _ (Nat.le_refl t)) dX0_applyFlows_65 ?_
          refine lv_iload hx hb dX0_applyFlows_66 (lv_at hl 5 rfl) ?_
          refine lv_iload hx hb dX0_applyFlows_68 (lv_at hl 0 rfl) ?_
          refine lv_isub hx hb dX0_applyFlows_70 ?_
          refine lv_iadd hx hb dX0_applyFlows_71 ?_
          refine g_iast (n := eLn E j) F hH (hE.2.2.2.1 i j hi (by omega)).2 (fun _ => cq_ba E _ (by omega)) t rfl (by omega) (by omega) dX0_applyFlows_72 (fun H locs hH => ?_)
          rw [show st (va_up v (ba i j) (fpre (v (ba i j)) (eLn E j) d a b t)) (ba i j) t ((v (ba i j) t) + ((ent (v (ba i j)) (eLn E j) d a b t) - b)) = va_up v (ba i j) (fpre (v (ba i j)) (eLn E j) d a b (t + 1)) from fp_set v _ _ _ _ _ _ (by simp only [lea, c2, c3, if_true, if_false, ↓reduceIte])] at hH
          refine lv_iload hx hb dX0_applyFlows_73 (lv_at hl 0 rfl) ?_
          refine lv_istore (lv' := [(4, .int b), (6, .int b), (0, .ref (eAd E (bo i j))), (1, .int a), (2, .int b), (3, .int d), (5, .int (nI t))]) hx hb dX0_applyFlows_75 hl (by decide) rfl (fun ls hl => ?_)
          refine lv_iinc (v := nI (t + 1)) (lv' := [(5, .int (nI (t + 1))), (4, .int b), (6, .int b), (0, .ref (eAd E (bo i j))), (1, .int a), (2, .int b), (3, .int d)]) hx hb dX0_applyFlows_77 hl (k := 6) rfl (nI_1 _) (by decide) rfl (fun ls hl => ?_)
          refine lv_goto (tgt := 7) hx hb dX0_applyFlows_80 (by decide) ?_
          exact ih (t + 1) (by omega) _ _ ls (by first | exact hH | (simp only [ent, lea, c2, c3, if_true, if_false, ↓reduceIte]; exact hH)) (by first | exact lv_sub hl [3, 4, 5, 6, 1, 0] rfl | (have h := lv_sub hl [3, 4, 5, 6, 1, 0] rfl; simp only [ent, lea, c2, c3, if_true, if_false, ↓reduceIte]; exact h))
        · skip
          have c3 : t + 1 < eLn E j := Nat.not_le.mp (fun h => c3 ((nI_leI (by omega) (by omega)).mpr h))
          refine lv_aload_n hx hb dX0_applyFlows_29 rfl (lv_at hl 0 rfl) ?_
          refine g_get (x := .ref (eAd E (ba i j))) F hH inX0 (hE.2.2.2.1 i j hi (by omega)).1 (cq_bo E _ (by omega)) rfl 0 (by decide) (hts (.fieldLink RX0 19 "DryingKiln$Board" "moisture" "[I") (by decide +kernel)) (fun _ h => h) rfl dX0_applyFlows_30 ?_
          refine lv_iload hx hb dX0_applyFlows_33 (lv_at hl 5 rfl) ?_
          refine g_iald (n := eLn E j) (x := v (ba i j) t) F hH (hE.2.2.2.1 i j hi (by omega)).2 (cq_ba E _ (by omega)) t rfl (by omega) (by omega) (fp_get v _ _ _ _ _ (Nat.le_refl t)) dX0_applyFlows_35 ?_
          refine lv_aload_n hx hb dX0_applyFlows_36 rfl (lv_at hl 0 rfl) ?_
          refine g_get (x := .ref (eAd E (ba i j))) F hH inX0 (hE.2.2.2.1 i j hi (by omega)).1 (cq_bo E _ (by omega)) rfl 0 (by decide) (hts (.fieldLink RX0 19 "DryingKiln$Board" "moisture" "[I") (by decide +kernel)) (fun _ h => h) rfl dX0_applyFlows_37 ?_
          refine lv_iload hx hb dX0_applyFlows_40 (lv_at hl 5 rfl) ?_
          refine lv_iconst (v := 1) hx hb dX0_applyFlows_42 (by decide) ?_
          refine lv_iadd hx hb dX0_applyFlows_43 ?_
          rw [nI_1 t]
          refine g_iald (n := eLn E j) (x := v (ba i j) (t + 1)) F hH (hE.2.2.2.1 i j hi (by omega)).2 (cq_ba E _ (by omega)) (t + 1) rfl (by omega) (by omega) (fp_get v _ _ _ _ _ (Nat.le_succ t)) dX0_applyFlows_44 ?_
          refine lv_isub hx hb dX0_applyFlows_45 ?_
          refine lv_iload_n hx hb dX0_applyFlows_46 rfl (lv_at hl 3 rfl) ?_
          refine lv_imul hx hb dX0_applyFlows_47 ?_
          refine lv_sipush (v := 1000) hx hb dX0_applyFlows_48 (by decide) ?_
          refine lv_idiv hx hb dX0_applyFlows_51 (by decide) ?_
          refine lv_goto (tgt := 56) hx hb dX0_applyFlows_52 (by decide) ?_
          refine lv_istore (lv' := [(6, .int ((((v (ba i j) t) - (v (ba i j) (t + 1))) * d) / 1000)), (0, .ref (eAd E (bo i j))), (1, .int a), (2, .int b), (3, .int d), (4, .int (ent (v (ba i j)) (eLn E j) d a b t)), (5, .int (nI t))]) hx hb dX0_applyFlows_56 hl (by decide) rfl (fun ls hl => ?_)
          refine lv_aload_n hx hb dX0_applyFlows_58 rfl (lv_at hl 1 rfl) ?_
          refine g_get (x := .ref (eAd E (ba i j))) F hH inX0 (hE.2.2.2.1 i j hi (by omega)).1 (cq_bo E _ (by omega)) rfl 0 (by decide) (hts (.fieldLink RX0 19 "DryingKiln$Board" "moisture" "[I") (by decide +kernel)) (fun _ h => h) rfl dX0_applyFlows_59 ?_
          refine lv_iload hx hb dX0_applyFlows_62 (lv_at hl 6 rfl) ?_
          refine lv_dup2_11 hx hb dX0_applyFlows_64 rfl rfl ?_
          refine g_iald (n := eLn E j) (x := v (ba i j) t) F hH (hE.2.2.2.1 i j hi (by omega)).2 (cq_ba E _ (by omega)) t rfl (by omega) (by omega) (fp_get v _ _ _ _ _ (Nat.le_refl t)) dX0_applyFlows_65 ?_
          refine lv_iload hx hb dX0_applyFlows_66 (lv_at hl 5 rfl) ?_
          refine lv_iload hx hb dX0_applyFlows_68 (lv_at hl 0 rfl) ?_
          refine lv_isub hx hb dX0_applyFlows_70 ?_
          refine lv_iadd hx hb dX0_applyFlows_71 ?_
          refine g_iast (n := eLn E j) F hH (hE.2.2.2.1 i j hi (by omega)).2 (fun _ => cq_ba E _ (by omega)) t rfl (by omega) (by omega) dX0_applyFlows_72 (fun H locs hH => ?_)
          rw [show st (va_up v (ba i j) (fpre (v (ba i j)) (eLn E j) d a b t)) (ba i j) t ((v (ba i j) t) + ((ent (v (ba i j)) (eLn E j) d a b t) - ((((v (ba i j) t) - (v (ba i j) (t + 1))) * d) / 1000))) = va_up v (ba i j) (fpre (v (ba i j)) (eLn E j) d a b (t + 1)) from fp_set v _ _ _ _ _ _ (by simp only [lea, c2, c3, if_true, if_false, ↓reduceIte])] at hH
          refine lv_iload hx hb dX0_applyFlows_73 (lv_at hl 0 rfl) ?_
          refine lv_istore (lv' := [(4, .int ((((v (ba i j) t) - (v (ba i j) (t + 1))) * d) / 1000)), (6, .int ((((v (ba i j) t) - (v (ba i j) (t + 1))) * d) / 1000)), (0, .ref (eAd E (bo i j))), (1, .int a), (2, .int b), (3, .int d), (5, .int (nI t))]) hx hb dX0_applyFlows_75 hl (by decide) rfl (fun ls hl => ?_)
          refine lv_iinc (v := nI (t + 1)) (lv' := [(5, .int (nI (t + 1))), (4, .int ((((v (ba i j) t) - (v (ba i j) (t + 1))) * d) / 1000)), (6, .int ((((v (ba i j) t) - (v (ba i j) (t + 1))) * d) / 1000)), (0, .ref (eAd E (bo i j))), (1, .int a), (2, .int b), (3, .int d)]) hx hb dX0_applyFlows_77 hl (k := 6) rfl (nI_1 _) (by decide) rfl (fun ls hl => ?_)
          refine lv_goto (tgt := 7) hx hb dX0_applyFlows_80 (by decide) ?_
          exact ih (t + 1) (by omega) _ _ ls (by first | exact hH | (simp only [ent, lea, c2, c3, if_true, if_false, ↓reduceIte]; exact hH)) (by first | exact lv_sub hl [3, 4, 5, 6, 1, 0] rfl | (have h := lv_sub hl [3, 4, 5, 6, 1, 0] rfl; simp only [ent, lea, c2, c3, if_true, if_false, ↓reduceIte]; exact h))
  exact loop7 (eLn E j) 0 (Nat.zero_add _) _ _ ls (by rw [fpre_zero, up_self]; exact hH) (lv_sub hl [2, 3, 4, 5, 1, 0] rfl)

set_option maxHeartbeats 4000000 in
set_option maxRecDepth 100000 in
theorem c_X0_passDryingHour (l : Launch) (E : Ev) (hE : EO E) (v : Mem) (i : Nat) (j : Nat) (a : Int32) (hi : i < 3) (hj : j < eNb E i) : Ci l yX0_passDryingHour wsX0_passDryingHour ({ frames := 1, cells := 0, slots := 0, locals := 26 } : Room) E [.ref (eAd E (bo i j)), .int a, .ref (eAd E 1)] v (btop E i j a v + bbot E i j a v) (bdry E i j a v) := by
  refine Ci.of (cc := cX0_passDryingHour) (maxL := 5) (ret := (some .int)) (own := RX0) (by decide) rfl rfl (Nat.le_of_ble_eq_true rfl) ?_
  intro p e s m below meth c F hr hlk ls hl hH
  obtain ⟨hx, hb, hml, hown, hts⟩ := id F.1
  have hl : lv_has ls 5 [(0, .ref (eAd E (bo i j))), (1, .int a), (2, .ref (eAd E 1))] := hl
  have inX0 : ∀ w ∈ wsX00, w ∈ wsX0_passDryingHour := fun w h => List.mem_cons_of_mem _ (List.mem_append_left _ (List.mem_append_right _ h))
  have inX3 : ∀ w ∈ wsX30, w ∈ wsX0_passDryingHour := fun w h => List.mem_cons_of_mem _ (List.mem_append_right _ h)
  have hnb := hE.2.2.2.2.1 i (by omega)
  have hln := hE.2.2.2.2.2.1 j (by omega)
  refine lv_aload_n hx hb dX0_passDryingHour_0 rfl (lv_at hl 0 rfl) ?_
  refine lv_iload_n hx hb dX0_passDryingHour_1 rfl (lv_at hl 1 rfl) ?_
  refine g_put (ty := .int) (x := a) F hH inX0 tyX0 tyX0_ok nmX0 (hE.2.2.2.1 i j hi (by omega)).1 (cq_bo E _ (by omega)) rfl 2 (by decide) (hts (.fieldLink RX0 16 "DryingKiln$Board" "air" "I") (by decide +kernel)) (fun _ h => h) rfl (by decide +kernel) rfl rfl (Nat.le_of_ble_eq_true rfl) (cq_bo E _ (by omega)) dX0_passDryingHour_2 (fun H locs hH => ?_)
  refine lv_aload_n hx hb dX0_passDryingHour_5 rfl (lv_at hl 0 rfl) ?_
  refine g_get (x := .ref (eAd E (ba i j))) F hH inX0 (hE.2.2.2.1 i j hi (by omega)).1 (cq_bo E _ (by omega)) rfl 0 (by decide) (hts (.fieldLink RX0 19 "DryingKiln$Board" "moisture" "[I") (by decide +kernel)) (fun _ h => h) rfl dX0_passDryingHour_6 ?_
  refine lv_iconst (v := 0) hx hb dX0_passDryingHour_9 (by decide) ?_
  refine g_iald (n := eLn E j) (x := v (ba i j) 0) F hH (hE.2.2.2.1 i j hi (by omega)).2 (cq_ba E _ (by omega)) 0 rfl (by omega) (by omega) (by rw [st_ne _ _ _ (ne_ab (by omega) (by omega))]) dX0_passDryingHour_10 ?_
  refine lv_iload_n hx hb dX0_passDryingHour_11 rfl (lv_at hl 1 rfl) ?_
  refine lv_isub hx hb dX0_passDryingHour_12 ?_
  refine lv_aload_n hx hb dX0_passDryingHour_13 rfl (lv_at hl 2 rfl) ?_
  refine g_get (x := .int ((st v (bo i j) 2 a) 1 1)) F hH inX3 (hE.1 1 (by decide)) (cq_set E _) rfl 1 (by decide) (hts (.fieldLink RX0 45 "DryingKiln$Settings" "surface" "I") (by decide +kernel)) (fun _ h => h) rfl dX0_passDryingHour_14 ?_
  rw [show (st v (bo i j) 2 a) 1 1 = v 1 1 by rw [st_ne _ _ _ (Ne.symm (ne_bl (by decide)))]]
  refine lv_imul hx hb dX0_passDryingHour_17 ?_
  refine lv_sipush (v := 1000) hx hb dX0_passDryingHour_18 (by decide) ?_
  refine lv_idiv hx hb dX0_passDryingHour_21 (by decide) ?_
  refine lv_istore_n (lv' := [(3, .int ((((v (ba i j) 0) - a) * (v 1 1)) / 1000)), (0, .ref (eAd E (bo i j))), (1, .int a), (2, .ref (eAd E 1))]) hx hb dX0_passDryingHour_22 rfl hl (by decide) rfl (fun ls hl => ?_)
  refine lv_aload_n hx hb dX0_passDryingHour_23 rfl (lv_at hl 1 rfl) ?_
  refine g_get (x := .ref (eAd E (ba i j))) F hH inX0 (hE.2.2.2.1 i j hi (by omega)).1 (cq_bo E _ (by omega)) rfl 0 (by decide) (hts (.fieldLink RX0 19 "DryingKiln$Board" "moisture" "[I") (by decide +kernel)) (fun _ h => h) rfl dX0_passDryingHour_24 ?_
  refine lv_aload_n hx hb dX0_passDryingHour_27 rfl (lv_at hl 1 rfl) ?_
  refine g_get (x := .ref (eAd E (ba i j))) F hH inX0 (hE.2.2.2.1 i j hi (by omega)).1 (cq_bo E _ (by omega)) rfl 0 (by decide) (hts (.fieldLink RX0 19 "DryingKiln$Board" "moisture" "[I") (by decide +kernel)) (fun _ h => h) rfl dX0_passDryingHour_28 ?_
  refine g_alen (n := eLn E j) F hH (hE.2.2.2.1 i j hi (by omega)).2 (cq_ba E _ (by omega)) dX0_passDryingHour_31 ?_
  refine lv_iconst (v := 1) hx hb dX0_passDryingHour_32 (by decide) ?_
  refine lv_isub hx hb dX0_passDryingHour_33 ?_
  rw [show (nI (eLn E j)) - 1 = nI (eLn E j - 1) from nI_m1 (by omega)]
  refine g_iald (n := eLn E j) (x := v (ba i j) (eLn E j - 1)) F hH (hE.2.2.2.1 i j hi (by omega)).2 (cq_ba E _ (by omega)) (eLn E j - 1) rfl (by omega) (by omega) (by rw [st_ne _ _ _ (ne_ab (by omega) (by omega))]) dX0_passDryingHour_34 ?_
  refine lv_iload_n hx hb dX0_passDryingHour_35 rfl (lv_at hl 2 rfl) ?_
  refine lv_isub hx hb dX0_passDryingHour_36 ?_
  refine lv_aload_n hx hb dX0_passDryingHour_37 rfl (lv_at hl 3 rfl) ?_
  refine g_get (x := .int ((st v (bo i j) 2 a) 1 1)) F hH inX3 (hE.1 1 (by decide)) (cq_set E _) rfl 1 (by decide) (hts (.fieldLink RX0 45 "DryingKiln$Settings" "surface" "I") (by decide +kernel)) (fun _ h => h) rfl dX0_passDryingHour_38 ?_
  rw [show (st v (bo i j) 2 a) 1 1 = v 1 1 by rw [st_ne _ _ _ (Ne.symm (ne_bl (by decide)))]]
  refine lv_imul hx hb dX0_passDryingHour_41 ?_
  refine lv_sipush (v := 1000) hx hb dX0_passDryingHour_42 (by decide) ?_
  refine lv_idiv hx hb dX0_passDryingHour_45 (by decide) ?_
  refine lv_istore (lv' := [(4, .int ((((v (ba i j) (eLn E j - 1)) - a) * (v 1 1)) / 1000)), (3, .int ((((v (ba i j) 0) - a) * (v 1 1)) / 1000)), (0, .ref (eAd E (bo i j))), (1, .int a), (2, .ref (eAd E 1))]) hx hb dX0_passDryingHour_46 hl (by decide) rfl (fun ls hl => ?_)
  refine lv_aload_n hx hb dX0_passDryingHour_48 rfl (lv_at hl 2 rfl) ?_
  refine lv_iload_n hx hb dX0_passDryingHour_49 rfl (lv_at hl 1 rfl) ?_
  refine lv_iload hx hb dX0_passDryingHour_50 (lv_at hl 0 rfl) ?_
  refine lv_aload_n hx hb dX0_passDryingHour_52 rfl (lv_at hl 4 rfl) ?_
  refine g_get (x := .int ((st v (bo i j) 2 a) 1 0)) F hH inX3 (hE.1 1 (by decide)) (cq_set E _) rfl 0 (by decide) (hts (.fieldLink RX0 50 "DryingKiln$Settings" "diffusion" "I") (by decide +kernel)) (fun _ h => h) rfl dX0_passDryingHour_53 ?_
  rw [show (st v (bo i j) 2 a) 1 0 = v 1 0 by rw [st_ne _ _ _ (Ne.symm (ne_bl (by decide)))]]
  refine g_vv (As := [.int ((((v (ba i j) 0) - a) * (v 1 1)) / 1000), .int ((((v (ba i j) (eLn E j - 1)) - a) * (v 1 1)) / 1000), .int (v 1 0)]) F hH (c_X0_applyFlows l E hE (st v (bo i j) 2 a) i j ((((v (ba i j) 0) - a) * (v 1 1)) / 1000) ((((v (ba i j) (eLn E j - 1)) - a) * (v 1 1)) / 1000) (v 1 0) (by first | assumption | omega | decide) (by first | assumption | omega | decide)) (cwV 3 hts gX0_passDryingHour_X0_applyFlows rfl rfl rfl (by decide +kernel) ⟨Nat.le_of_ble_eq_true rfl, Nat.le_of_ble_eq_true rfl⟩) (hE.2.2.2.1 i j hi (by omega)).1 (cq_bo E _ (by omega)) rfl rfl hl.1 [] rfl (Nat.le_of_ble_eq_true rfl) dX0_passDryingHour_56 ⟨Nat.zero_le _, Nat.zero_le _⟩ (fun H locs hH => ?_)
  rw [show va_up (st v (bo i j) 2 a) (ba i j) (flw ((st v (bo i j) 2 a) (ba i j)) (eLn E j) (v 1 0) ((((v (ba i j) 0) - a) * (v 1 1)) / 1000) ((((v (ba i j) (eLn E j - 1)) - a) * (v 1 1)) / 1000)) = bdry E i j a v from (by unfold bdry btop bbot; rw [st_ne _ _ _ (ne_ab (by omega) (by omega))])] at hH
  refine lv_iload_n hx hb dX0_passDryingHour_59 rfl (lv_at hl 1 rfl) ?_
  refine lv_iload hx hb dX0_passDryingHour_60 (lv_at hl 0 rfl) ?_
  refine lv_iadd hx hb dX0_passDryingHour_62 ?_
  exact g_iret F hr hlk hH rfl rfl dX0_passDryingHour_63

set_option maxHeartbeats 4000000 in
set_option maxRecDepth 100000 in
theorem c_X0_passRestHour (l : Launch) (E : Ev) (hE : EO E) (v : Mem) (i : Nat) (j : Nat) (d : Int32) (hi : i < 3) (hj : j < eNb E i) : Cv l yX0_passRestHour wsX0_passRestHour ({ frames := 1, cells := 0, slots := 0, locals := 26 } : Room) E [.ref (eAd E (bo i j)), .int d] v (brst E i j d v) := by
  refine Cv.of (cc := cX0_passRestHour) (maxL := 2) (ret := none) (own := RX0) (by decide) rfl rfl (Nat.le_of_ble_eq_true rfl) ?_
  intro p e s m below meth c F hr hlk ls hl hH
  obtain ⟨hx, hb, hml, hown, hts⟩ := id F.1
  have hl : lv_has ls 2 [(0, .ref (eAd E (bo i j))), (1, .int d)] := hl
  have inX0 : ∀ w ∈ wsX00, w ∈ wsX0_passRestHour := fun w h => List.mem_cons_of_mem _ (List.mem_append_right _ h)
  have hnb := hE.2.2.2.2.1 i (by omega)
  have hln := hE.2.2.2.2.2.1 j (by omega)
  refine lv_aload_n hx hb dX0_passRestHour_0 rfl (lv_at hl 0 rfl) ?_
  refine lv_iconst (v := 0) hx hb dX0_passRestHour_1 (by decide) ?_
  refine lv_iconst (v := 0) hx hb dX0_passRestHour_2 (by decide) ?_
  refine lv_iload_n hx hb dX0_passRestHour_3 rfl (lv_at hl 1 rfl) ?_
  refine g_vv (As := [.int 0, .int 0, .int d]) F hH (c_X0_applyFlows l E hE v i j 0 0 d (by first | assumption | omega | decide) (by first | assumption | omega | decide)) (cwV 3 hts gX0_passRestHour_X0_applyFlows rfl rfl rfl (by decide +kernel) ⟨Nat.le_of_ble_eq_true rfl, Nat.le_of_ble_eq_true rfl⟩) (hE.2.2.2.1 i j hi (by omega)).1 (cq_bo E _ (by omega)) rfl rfl hl.1 [] rfl (Nat.le_of_ble_eq_true rfl) dX0_passRestHour_4 ⟨Nat.zero_le _, Nat.zero_le _⟩ (fun H locs hH => ?_)
  exact g_vret F hr hlk hH rfl dX0_passRestHour_7

set_option maxHeartbeats 4000000 in
set_option maxRecDepth 100000 in
theorem c_X0_copyMoistureFrom (l : Launch) (E : Ev) (hE : EO E) (v : Mem) (i : Nat) (o : Nat) (j : Nat) (hi : i < 3) (ho : o < 3) (hj : j < eNb E i) (hjo : j < eNb E o) : Cv l yX0_copyMoistureFrom wsX0_copyMoistureFrom ({ frames := 1, cells := 0, slots := 0, locals := 60 } : Room) E [.ref (eAd E (bo i j)), .ref (eAd E (bo o j))] v (bcpy E i o j v) := by
  refine Cv.of (cc := cX0_copyMoistureFrom) (maxL := 3) (ret := none) (own := RX0) (by decide) rfl rfl (Nat.le_of_ble_eq_true rfl) ?_
  intro p e s m below meth c F hr hlk ls hl hH
  obtain ⟨hx, hb, hml, hown, hts⟩ := id F.1
  have hl : lv_has ls 3 [(0, .ref (eAd E (bo i j))), (1, .ref (eAd E (bo o j)))] := hl
  have inX0 : ∀ w ∈ wsX00, w ∈ wsX0_copyMoistureFrom := fun w h => List.mem_cons_of_mem _ (List.mem_append_right _ h)
  have hnb := hE.2.2.2.2.1 i (by omega)
  have hln := hE.2.2.2.2.2.1 j (by omega)
  have hnbo := hE.2.2.2.2.1 o (by omega)
  refine lv_aload_n hx hb dX0_copyMoistureFrom_0 rfl (lv_at hl 0 rfl) ?_
  refine g_get (x := .ref (eAd E (ba i j))) F hH inX0 (hE.2.2.2.1 i j hi (by omega)).1 (cq_bo E _ (by omega)) rfl 0 (by decide) (hts (.fieldLink RX0 19 "DryingKiln$Board" "moisture" "[I") (by decide +kernel)) (fun _ h => h) rfl dX0_copyMoistureFrom_1 ?_
  refine g_alen (n := eLn E j) F hH (hE.2.2.2.1 i j hi (by omega)).2 (cq_ba E _ (by omega)) dX0_copyMoistureFrom_4 ?_
  refine lv_aload_n hx hb dX0_copyMoistureFrom_5 rfl (lv_at hl 1 rfl) ?_
  refine g_get (x := .ref (eAd E (ba o j))) F hH inX0 (hE.2.2.2.1 o j ho (by omega)).1 (cq_bo E _ (by omega)) rfl 0 (by decide) (hts (.fieldLink RX0 19 "DryingKiln$Board" "moisture" "[I") (by decide +kernel)) (fun _ h => h) rfl dX0_copyMoistureFrom_6 ?_
  refine g_alen (n := eLn E j) F hH (hE.2.2.2.1 o j ho (by omega)).2 (cq_ba E _ (by omega)) dX0_copyMoistureFrom_9 ?_
  refine va_mmin hx hb (by rw [hml]; exact hl.1.symm) hown (hts (.methodLink RX0 42 Lib.Math.min.name) (by decide +kernel)) (hts (.static Lib.Math.min.name) (by decide +kernel)) (hts (.initialized "java/lang/Math") (by decide +kernel)) (hts (.code Lib.Math.min.name Lib.Math.min.code 2 (some .int)) (by decide +kernel)) (Nat.le_of_ble_eq_true rfl) (Nat.le_of_ble_eq_true rfl) (Nat.zero_le _) (Nat.zero_le _) dX0_copyMoistureFrom_10 ?_
  rw [← imn_eq (nI (eLn E j)) (nI (eLn E j))]
  rw [show imn (nI (eLn E j)) (nI (eLn E j)) = nI (eLn E j) from imn_self _]
  refine lv_istore_n (lv' := [(2, .int (nI (eLn E j))), (0, .ref (eAd E (bo i j))), (1, .ref (eAd E (bo o j)))]) hx hb dX0_copyMoistureFrom_13 rfl hl (by decide) rfl (fun ls hl => ?_)
  refine lv_aload_n hx hb dX0_copyMoistureFrom_14 rfl (lv_at hl 2 rfl) ?_
  refine g_get (x := .ref (eAd E (ba o j))) F hH inX0 (hE.2.2.2.1 o j ho (by omega)).1 (cq_bo E _ (by omega)) rfl 0 (by decide) (hts (.fieldLink RX0 19 "DryingKiln$Board" "moisture" "[I") (by decide +kernel)) (fun _ h => h) rfl dX0_copyMoistureFrom_15 ?_
  refine lv_iconst (v := 0) hx hb dX0_copyMoistureFrom_18 (by decide) ?_
  refine lv_aload_n hx hb dX0_copyMoistureFrom_19 rfl (lv_at hl 1 rfl) ?_
  refine g_get (x := .ref (eAd E (ba i j))) F hH inX0 (hE.2.2.2.1 i j hi (by omega)).1 (cq_bo E _ (by omega)) rfl 0 (by decide) (hts (.fieldLink RX0 19 "DryingKiln$Board" "moisture" "[I") (by decide +kernel)) (fun _ h => h) rfl dX0_copyMoistureFrom_20 ?_
  refine lv_iconst (v := 0) hx hb dX0_copyMoistureFrom_23 (by decide) ?_
  refine lv_iload_n hx hb dX0_copyMoistureFrom_24 rfl (lv_at hl 0 rfl) ?_
  refine g_copy (n := eLn E j) (n2 := eLn E j) F hH (by rw [hml]; exact hl.1.symm) (hE.2.2.2.1 i j hi (by omega)).2 (fun _ => cq_ba E _ (by omega)) (hE.2.2.2.1 o j ho (by omega)).2 (cq_ba E _ (by omega)) (hts (.methodLink RX0 57 arraycopyName) (by decide +kernel)) (hts (.native arraycopyName) (by decide +kernel)) (hts (.static arraycopyName) (by decide +kernel)) (hts (.initialized "java/lang/System") (by decide +kernel)) (eLn E j) rfl (by omega) (by omega) (by omega) (Nat.le_of_ble_eq_true rfl) (Nat.le_of_ble_eq_true rfl) dX0_copyMoistureFrom_25 (fun H locs hH => ?_)
  exact g_vret F hr hlk hH rfl dX0_copyMoistureFrom_28

set_option maxHeartbeats 4000000 in
set_option maxRecDepth 100000 in
theorem c_Jx4a65c_size_8abf5 (l : Launch) (E : Ev) (hE : EO E) (v : Mem) (i : Nat) (hi : i < 3) : Ci l yJx4a65c_size_8abf5 wsJx4a65c_size_8abf5 ({ frames := 0, cells := 0, slots := 0, locals := 0 } : Room) E [.ref (eAd E (8 + i))] v (nI (eNb E i)) v := by
  refine Ci.of (cc := cJx4a65c_size_8abf5) (maxL := 1) (ret := (some .int)) (own := RJx4a65c) (by decide) rfl rfl (Nat.le_of_ble_eq_true rfl) ?_
  intro p e s m below meth c F hr hlk ls hl hH
  obtain ⟨hx, hb, hml, hown, hts⟩ := id F.1
  have hl : lv_has ls 1 [(0, .ref (eAd E (8 + i)))] := hl
  have inJx4a65c : ∀ w ∈ wsJx4a65c0, w ∈ wsJx4a65c_size_8abf5 := fun w h => List.mem_cons_of_mem _ (List.mem_append_right _ h)
  refine lv_aload_n hx hb dJx4a65c_size_8abf5_0 rfl (lv_at hl 0 rfl) ?_
  refine g_get (x := .int (nI (eNb E i))) F hH inJx4a65c (hE.1 _ (by have := hi; omega)) (cq_li E _ hi) rfl 2 (by decide) (hts (.fieldLink RJx4a65c 48 "java/util/ArrayList" "size" "I") (by decide +kernel)) (fun _ h => h) rfl dJx4a65c_size_8abf5_1 ?_
  exact g_iret F hr hlk hH (by first | rfl | (simp only [if_true, if_false, ↓reduceIte]; done) | (simp only [if_true, if_false, ↓reduceIte]; rfl)) (by first | rfl | (simp only [if_true, if_false, ↓reduceIte]; done) | (simp only [if_true, if_false, ↓reduceIte]; rfl)) dJx4a65c_size_8abf5_4

set_option maxHeartbeats 4000000 in
set_option maxRecDepth 100000 in
theorem c_J3_checkIndex_8e157 (l : Launch) (E : Ev) (hE : EO E) (v : Mem) (a : Int32) (b : Int32) (h0 : ¬ a < 0) (h1 : a < b) : Ci l yJ3_checkIndex_8e157 wsJ3_checkIndex_8e157 ({ frames := 0, cells := 0, slots := 0, locals := 0 } : Room) E [.int a, .int b, .null] v a v := by
  refine Ci.of (cc := cJ3_checkIndex_8e157) (maxL := 3) (ret := (some .int)) (own := RJ3) (by decide) rfl rfl (Nat.le_of_ble_eq_true rfl) ?_
  intro p e s m below meth c F hr hlk ls hl hH
  obtain ⟨hx, hb, hml, hown, hts⟩ := id F.1
  have hl : lv_has ls 3 [(0, .int a), (1, .int b), (2, .null)] := hl
  refine lv_iload_n hx hb dJ3_checkIndex_8e157_0 rfl (lv_at hl 0 rfl) ?_
  refine lv_if_lt (tgt := 9) hx hb dJ3_checkIndex_8e157_1 (by decide) (fun c1 => ?_) (fun c1 => ?_)
  · skip
    exact absurd c1 h0
  · skip
    refine lv_iload_n hx hb dJ3_checkIndex_8e157_4 rfl (lv_at hl 0 rfl) ?_
    refine lv_iload_n hx hb dJ3_checkIndex_8e157_5 rfl (lv_at hl 1 rfl) ?_
    refine lv_icmp_lt (tgt := 16) hx hb dJ3_checkIndex_8e157_6 (by decide) (fun c2 => ?_) (fun c2 => ?_)
    · skip
      refine lv_iload_n hx hb dJ3_checkIndex_8e157_16 rfl (lv_at hl 0 rfl) ?_
      exact g_iret F hr hlk hH (by first | rfl | (simp only [c1, c2, if_true, if_false, ↓reduceIte]; done) | (simp only [c1, c2, if_true, if_false, ↓reduceIte]; rfl)) (by first | rfl | (simp only [c1, c2, if_true, if_false, ↓reduceIte]; done) | (simp only [c1, c2, if_true, if_false, ↓reduceIte]; rfl)) dJ3_checkIndex_8e157_17
    · skip
      exact absurd h1 c2

set_option maxHeartbeats 4000000 in
set_option maxRecDepth 100000 in
theorem c_J15_checkIndex_7cf53 (l : Launch) (E : Ev) (hE : EO E) (v : Mem) (a : Int32) (b : Int32) (h0 : ¬ a < 0) (h1 : a < b) : Ci l yJ15_checkIndex_7cf53 wsJ15_checkIndex_7cf53 ({ frames := 1, cells := 0, slots := 0, locals := 22 } : Room) E [.int a, .int b] v a v := by
  refine Ci.of (cc := cJ15_checkIndex_7cf53) (maxL := 2) (ret := (some .int)) (own := RJ15) (by decide) rfl rfl (Nat.le_of_ble_eq_true rfl) ?_
  intro p e s m below meth c F hr hlk ls hl hH
  obtain ⟨hx, hb, hml, hown, hts⟩ := id F.1
  have hl : lv_has ls 2 [(0, .int a), (1, .int b)] := hl
  refine lv_iload_n hx hb dJ15_checkIndex_7cf53_0 rfl (lv_at hl 0 rfl) ?_
  refine lv_iload_n hx hb dJ15_checkIndex_7cf53_1 rfl (lv_at hl 1 rfl) ?_
  refine lv_null hx hb dJ15_checkIndex_7cf53_2 ?_
  refine g_si (As := [.int a, .int b, .null]) F hH (c_J3_checkIndex_8e157 l E hE v a b (by first | assumption | omega | decide) (by first | assumption | omega | decide)) (va_cwS 3 hts gJ15_checkIndex_7cf53_J3_checkIndex_8e157 rfl rfl rfl (by decide +kernel) ⟨Nat.le_of_ble_eq_true rfl, Nat.le_of_ble_eq_true rfl⟩) rfl hl.1 [] rfl (Nat.le_of_ble_eq_true rfl) dJ15_checkIndex_7cf53_3 ⟨Nat.zero_le _, Nat.zero_le _⟩ (fun H locs hH => ?_)
  exact g_iret F hr hlk hH (by first | rfl | (simp only [if_true, if_false, ↓reduceIte]; done) | (simp only [if_true, if_false, ↓reduceIte]; rfl)) (by first | rfl | (simp only [if_true, if_false, ↓reduceIte]; done) | (simp only [if_true, if_false, ↓reduceIte]; rfl)) dJ15_checkIndex_7cf53_6

set_option maxHeartbeats 4000000 in
set_option maxRecDepth 100000 in
theorem c_Jx4a65c_elementData_915e3 (l : Launch) (E : Ev) (hE : EO E) (v : Mem) (i : Nat) (j : Nat) (hi : i < 3) (hj : j < eNb E i) : Cr l yJx4a65c_elementData_915e3 wsJx4a65c_elementData_915e3 ({ frames := 0, cells := 0, slots := 0, locals := 0 } : Room) E [.ref (eAd E (8 + i)), .int (nI j)] v (eAd E (bo i j)) v := by
  refine Cr.of (cc := cJx4a65c_elementData_915e3) (maxL := 2) (ret := (some (.object "java/lang/Object"))) (own := RJx4a65c) (by decide) rfl rfl (Nat.le_of_ble_eq_true rfl) ?_
  intro p e s m below meth c F hr hlk ls hl hH
  obtain ⟨hx, hb, hml, hown, hts⟩ := id F.1
  have hl : lv_has ls 2 [(0, .ref (eAd E (8 + i))), (1, .int (nI j))] := hl
  have inJx4a65c : ∀ w ∈ wsJx4a65c0, w ∈ wsJx4a65c_elementData_915e3 := fun w h => List.mem_cons_of_mem _ (List.mem_append_right _ h)
  have hnb := hE.2.2.2.2.1 i (by omega)
  refine lv_aload_n hx hb dJx4a65c_elementData_915e3_0 rfl (lv_at hl 0 rfl) ?_
  refine g_get (x := .ref (eEl E i)) F hH inJx4a65c (hE.1 _ (by have := hi; omega)) (cq_li E _ hi) rfl 1 (by decide) (hts (.fieldLink RJx4a65c 9 "java/util/ArrayList" "elementData" "[Ljava/lang/Object;") (by decide +kernel)) (fun _ h => h) rfl dJx4a65c_elementData_915e3_1 ?_
  rw [show (eEl E i) = eAd E (12 + i) from if_neg (by omega)]
  refine lv_iload_n hx hb dJx4a65c_elementData_915e3_4 rfl (lv_at hl 1 rfl) ?_
  refine g_aald (n := 10) (a := eAd E (bo i j)) F hH (hE.2.2.1 i hi (by omega)) (cq_el E _ hi) j rfl (by omega) (by omega) (if_pos hj) dJx4a65c_elementData_915e3_5 ?_
  exact g_aret F hr (Or.inl ⟨_, rfl⟩) hlk hH (by first | rfl | (simp only [if_true, if_false, ↓reduceIte]; done) | (simp only [if_true, if_false, ↓reduceIte]; rfl)) (by first | rfl | (simp only [if_true, if_false, ↓reduceIte]; done) | (simp only [if_true, if_false, ↓reduceIte]; rfl)) dJx4a65c_elementData_915e3_6

set_option maxHeartbeats 4000000 in
set_option maxRecDepth 100000 in
theorem c_Jx4a65c_get_915e3 (l : Launch) (E : Ev) (hE : EO E) (v : Mem) (i : Nat) (j : Nat) (hi : i < 3) (hj : j < eNb E i) : Cr l yJx4a65c_get_915e3 wsJx4a65c_get_915e3 ({ frames := 2, cells := 0, slots := 0, locals := 43 } : Room) E [.ref (eAd E (8 + i)), .int (nI j)] v (eAd E (bo i j)) v := by
  refine Cr.of (cc := cJx4a65c_get_915e3) (maxL := 2) (ret := (some (.object "java/lang/Object"))) (own := RJx4a65c) (by decide) rfl rfl (Nat.le_of_ble_eq_true rfl) ?_
  intro p e s m below meth c F hr hlk ls hl hH
  obtain ⟨hx, hb, hml, hown, hts⟩ := id F.1
  have hl : lv_has ls 2 [(0, .ref (eAd E (8 + i))), (1, .int (nI j))] := hl
  have inJx4a65c : ∀ w ∈ wsJx4a65c0, w ∈ wsJx4a65c_get_915e3 := fun w h => List.mem_cons_of_mem _ (List.mem_append_right _ h)
  have hnb := hE.2.2.2.2.1 i (by omega)
  refine lv_iload_n hx hb dJx4a65c_get_915e3_0 rfl (lv_at hl 1 rfl) ?_
  refine lv_aload_n hx hb dJx4a65c_get_915e3_1 rfl (lv_at hl 0 rfl) ?_
  refine g_get (x := .int (nI (eNb E i))) F hH inJx4a65c (hE.1 _ (by have := hi; omega)) (cq_li E _ hi) rfl 2 (by decide) (hts (.fieldLink RJx4a65c 48 "java/util/ArrayList" "size" "I") (by decide +kernel)) (fun _ h => h) rfl dJx4a65c_get_915e3_2 ?_
  refine g_si (As := [.int (nI j), .int (nI (eNb E i))]) F hH (c_J15_checkIndex_7cf53 l E hE v (nI j) (nI (eNb E i)) (nI_pos (by omega)) (nI_lt hj (by omega))) (va_cwS 2 hts gJx4a65c_get_915e3_J15_checkIndex_7cf53 rfl rfl rfl (by decide +kernel) ⟨Nat.le_of_ble_eq_true rfl, Nat.le_of_ble_eq_true rfl⟩) rfl hl.1 [] rfl (Nat.le_of_ble_eq_true rfl) dJx4a65c_get_915e3_5 ⟨Nat.zero_le _, Nat.zero_le _⟩ (fun H locs hH => ?_)
  refine lv_pop hx hb dJx4a65c_get_915e3_8 rfl ?_
  refine lv_aload_n hx hb dJx4a65c_get_915e3_9 rfl (lv_at hl 0 rfl) ?_
  refine lv_iload_n hx hb dJx4a65c_get_915e3_10 rfl (lv_at hl 1 rfl) ?_
  refine g_vr (As := [.int (nI j)]) F hH (c_Jx4a65c_elementData_915e3 l E hE v i j (by first | assumption | omega | decide) (by first | assumption | omega | decide)) (cwV 1 hts gJx4a65c_get_915e3_Jx4a65c_elementData_915e3 rfl rfl rfl (by decide +kernel) ⟨Nat.le_of_ble_eq_true rfl, Nat.le_of_ble_eq_true rfl⟩) (hE.1 _ (by have := hi; omega)) (cq_li E _ hi) rfl rfl hl.1 [] rfl (Nat.le_of_ble_eq_true rfl) dJx4a65c_get_915e3_11 ⟨Nat.zero_le _, Nat.zero_le _⟩ (fun H locs hH => ?_)
  exact g_aret F hr (Or.inl ⟨_, rfl⟩) hlk hH (by first | rfl | (simp only [if_true, if_false, ↓reduceIte]; done) | (simp only [if_true, if_false, ↓reduceIte]; rfl)) (by first | rfl | (simp only [if_true, if_false, ↓reduceIte]; done) | (simp only [if_true, if_false, ↓reduceIte]; rfl)) dJx4a65c_get_915e3_14
end
section
set_option maxHeartbeats 4000000 in
set_option maxRecDepth 100000 in
theorem c_X1_size (l : Launch) (E : Ev) (hE : EO E) (v : Mem) (i : Nat) (hi : i < 3) : Ci l yX1_size wsX1_size ({ frames := 1, cells := 0, slots := 0, locals := 20 } : Room) E [.ref (eAd E (5 + i))] v (nI (eNb E i)) v := by
  refine Ci.of (cc := cX1_size) (maxL := 1) (ret := (some .int)) (own := RX1) (by decide) rfl rfl (Nat.le_of_ble_eq_true rfl) ?_
  intro p e s m below meth c F hr hlk ls hl hH
  obtain ⟨hx, hb, hml, hown, hts⟩ := id F.1
  have hl : lv_has ls 1 [(0, .ref (eAd E (5 + i)))] := hl
  have inJx4a65c : ∀ w ∈ wsJx4a65c0, w ∈ wsX1_size := fun w h => List.mem_cons_of_mem _ (List.mem_append_right _ h)
  have inX1 : ∀ w ∈ wsX10, w ∈ wsX1_size := fun w h => List.mem_cons_of_mem _ (List.mem_append_left _ (List.mem_append_right _ h))
  refine lv_aload_n hx hb dX1_size_0 rfl (lv_at hl 0 rfl) ?_
  refine g_get (x := .ref (eAd E (8 + i))) F hH inX1 (hE.1 _ (by have := hi; omega)) (cq_ld E _ hi) rfl 2 (by decide) (hts (.fieldLink RX1 22 "DryingKiln$Load" "boards" "Ljava/util/ArrayList;") (by decide +kernel)) (fun _ h => h) rfl dX1_size_1 ?_
  refine g_vi (As := []) F hH (c_Jx4a65c_size_8abf5 l E hE v i (by first | assumption | omega | decide)) (cwV 0 hts gX1_size_Jx4a65c_size_8abf5 rfl rfl rfl (by decide +kernel) ⟨Nat.le_of_ble_eq_true rfl, Nat.le_of_ble_eq_true rfl⟩) (hE.1 _ (by have := hi; omega)) (cq_li E _ hi) rfl rfl hl.1 [] rfl (Nat.le_of_ble_eq_true rfl) dX1_size_4 ⟨Nat.zero_le _, Nat.zero_le _⟩ (fun H locs hH => ?_)
  exact g_iret F hr hlk hH (by first | rfl | (simp only [if_true, if_false, ↓reduceIte]; done) | (simp only [if_true, if_false, ↓reduceIte]; rfl)) (by first | rfl | (simp only [if_true, if_false, ↓reduceIte]; done) | (simp only [if_true, if_false, ↓reduceIte]; rfl)) dX1_size_7

set_option maxHeartbeats 4000000 in
set_option maxRecDepth 100000 in
theorem c_X1_has (l : Launch) (E : Ev) (hE : EO E) (v : Mem) (i : Nat) (a : Int32) (hi : i < 3) : Ci l yX1_has wsX1_has ({ frames := 1, cells := 0, slots := 0, locals := 20 } : Room) E [.ref (eAd E (5 + i)), .int a] v (lhas E i a) v := by
  refine Ci.of (cc := cX1_has) (maxL := 2) (ret := (some .boolean)) (own := RX1) (by decide) rfl rfl (Nat.le_of_ble_eq_true rfl) ?_
  intro p e s m below meth c F hr hlk ls hl hH
  obtain ⟨hx, hb, hml, hown, hts⟩ := id F.1
  have hl : lv_has ls 2 [(0, .ref (eAd E (5 + i))), (1, .int a)] := hl
  have inJx4a65c : ∀ w ∈ wsJx4a65c0, w ∈ wsX1_has := fun w h => List.mem_cons_of_mem _ (List.mem_append_right _ h)
  have inX1 : ∀ w ∈ wsX10, w ∈ wsX1_has := fun w h => List.mem_cons_of_mem _ (List.mem_append_left _ (List.mem_append_right _ h))
  refine lv_iload_n hx hb dX1_has_0 rfl (lv_at hl 1 rfl) ?_
  refine lv_if_lt (tgt := 19) hx hb dX1_has_1 (by decide) (fun c1 => ?_) (fun c1 => ?_)
  · skip
    refine lv_iconst (v := 0) hx hb dX1_has_19 (by decide) ?_
    exact g_zret F hr hlk hH (by rfl) (by first | rfl | (simp only [lhas, c1, if_true, if_false, ↓reduceIte]; done) | (simp only [lhas, c1, if_true, if_false, ↓reduceIte]; rfl)) (by first | rfl | (simp only [lhas, c1, if_true, if_false, ↓reduceIte]; done) | (simp only [lhas, c1, if_true, if_false, ↓reduceIte]; rfl)) dX1_has_20
  · skip
    refine lv_iload_n hx hb dX1_has_4 rfl (lv_at hl 1 rfl) ?_
    refine lv_aload_n hx hb dX1_has_5 rfl (lv_at hl 0 rfl) ?_
    refine g_get (x := .ref (eAd E (8 + i))) F hH inX1 (hE.1 _ (by have := hi; omega)) (cq_ld E _ hi) rfl 2 (by decide) (hts (.fieldLink RX1 22 "DryingKiln$Load" "boards" "Ljava/util/ArrayList;") (by decide +kernel)) (fun _ h => h) rfl dX1_has_6 ?_
    refine g_vi (As := []) F hH (c_Jx4a65c_size_8abf5 l E hE v i (by first | assumption | omega | decide)) (cwV 0 hts gX1_has_Jx4a65c_size_8abf5 rfl rfl rfl (by decide +kernel) ⟨Nat.le_of_ble_eq_true rfl, Nat.le_of_ble_eq_true rfl⟩) (hE.1 _ (by have := hi; omega)) (cq_li E _ hi) rfl rfl hl.1 [.int a] rfl (Nat.le_of_ble_eq_true rfl) dX1_has_9 ⟨Nat.zero_le _, Nat.zero_le _⟩ (fun H locs hH => ?_)
    refine lv_icmp_ge (tgt := 19) hx hb dX1_has_12 (by decide) (fun c2 => ?_) (fun c2 => ?_)
    · skip
      refine lv_iconst (v := 0) hx hb dX1_has_19 (by decide) ?_
      exact g_zret F hr hlk hH (by rfl) (by first | rfl | (simp only [lhas, c1, c2, if_true, if_false, ↓reduceIte]; done) | (simp only [lhas, c1, c2, if_true, if_false, ↓reduceIte]; rfl)) (by first | rfl | (simp only [lhas, c1, c2, if_true, if_false, ↓reduceIte]; done) | (simp only [lhas, c1, c2, if_true, if_false, ↓reduceIte]; rfl)) dX1_has_20
    · skip
      refine lv_iconst (v := 1) hx hb dX1_has_15 (by decide) ?_
      refine lv_goto (tgt := 20) hx hb dX1_has_16 (by decide) ?_
      exact g_zret F hr hlk hH (by rfl) (by first | rfl | (simp only [lhas, c1, c2, if_true, if_false, ↓reduceIte]; done) | (simp only [lhas, c1, c2, if_true, if_false, ↓reduceIte]; rfl)) (by first | rfl | (simp only [lhas, c1, c2, if_true, if_false, ↓reduceIte]; done) | (simp only [lhas, c1, c2, if_true, if_false, ↓reduceIte]; rfl)) dX1_has_20

set_option maxHeartbeats 4000000 in
set_option maxRecDepth 100000 in
theorem c_X1_boardAt (l : Launch) (E : Ev) (hE : EO E) (v : Mem) (i : Nat) (j : Nat) (hi : i < 3) (hj : j < eNb E i) : Cr l yX1_boardAt wsX1_boardAt ({ frames := 3, cells := 0, slots := 0, locals := 64 } : Room) E [.ref (eAd E (5 + i)), .int (nI j)] v (eAd E (bo i j)) v := by
  refine Cr.of (cc := cX1_boardAt) (maxL := 2) (ret := (some (.object "DryingKiln$Board"))) (own := RX1) (by decide) rfl rfl (Nat.le_of_ble_eq_true rfl) ?_
  intro p e s m below meth c F hr hlk ls hl hH
  obtain ⟨hx, hb, hml, hown, hts⟩ := id F.1
  have hl : lv_has ls 2 [(0, .ref (eAd E (5 + i))), (1, .int (nI j))] := hl
  have inJx4a65c : ∀ w ∈ wsJx4a65c0, w ∈ wsX1_boardAt := fun w h => List.mem_cons_of_mem _ (List.mem_append_right _ h)
  have inX1 : ∀ w ∈ wsX10, w ∈ wsX1_boardAt := fun w h => List.mem_cons_of_mem _ (List.mem_append_left _ (List.mem_append_right _ h))
  have hnb := hE.2.2.2.2.1 i (by omega)
  refine lv_aload_n hx hb dX1_boardAt_0 rfl (lv_at hl 0 rfl) ?_
  refine g_get (x := .ref (eAd E (8 + i))) F hH inX1 (hE.1 _ (by have := hi; omega)) (cq_ld E _ hi) rfl 2 (by decide) (hts (.fieldLink RX1 22 "DryingKiln$Load" "boards" "Ljava/util/ArrayList;") (by decide +kernel)) (fun _ h => h) rfl dX1_boardAt_1 ?_
  refine lv_iload_n hx hb dX1_boardAt_4 rfl (lv_at hl 1 rfl) ?_
  refine g_vr (As := [.int (nI j)]) F hH (c_Jx4a65c_get_915e3 l E hE v i j (by first | assumption | omega | decide) (by first | assumption | omega | decide)) (cwV 1 hts gX1_boardAt_Jx4a65c_get_915e3 rfl rfl rfl (by decide +kernel) ⟨Nat.le_of_ble_eq_true rfl, Nat.le_of_ble_eq_true rfl⟩) (hE.1 _ (by have := hi; omega)) (cq_li E _ hi) rfl rfl hl.1 [] rfl (Nat.le_of_ble_eq_true rfl) dX1_boardAt_5 ⟨Nat.zero_le _, Nat.zero_le _⟩ (fun H locs hH => ?_)
  refine g_cast F hH (hE.2.2.2.1 i j hi hj).1 (cq_bo E _ (by omega)) (by rfl) (hts (.classLink RX1 34 "DryingKiln$Board") (by decide +kernel)) dX1_boardAt_8 ?_
  exact g_aret F hr (Or.inl ⟨_, rfl⟩) hlk hH (by first | rfl | (simp only [if_true, if_false, ↓reduceIte]; done) | (simp only [if_true, if_false, ↓reduceIte]; rfl)) (by first | rfl | (simp only [if_true, if_false, ↓reduceIte]; done) | (simp only [if_true, if_false, ↓reduceIte]; rfl)) dX1_boardAt_11

set_option maxHeartbeats 4000000 in
set_option maxRecDepth 100000 in
theorem c_X1_water (l : Launch) (E : Ev) (hE : EO E) (v : Mem) (i : Nat) (hi : i < 3) : Ci l yX1_water wsX1_water ({ frames := 3, cells := 0, slots := 0, locals := 64 } : Room) E [.ref (eAd E (5 + i))] v (lwat E v i (eNb E i)) v := by
  refine Ci.of (cc := cX1_water) (maxL := 3) (ret := (some .int)) (own := RX1) (by decide) rfl rfl (Nat.le_of_ble_eq_true rfl) ?_
  intro p e s m below meth c F hr hlk ls hl hH
  obtain ⟨hx, hb, hml, hown, hts⟩ := id F.1
  have hl : lv_has ls 3 [(0, .ref (eAd E (5 + i)))] := hl
  have inJx4a65c : ∀ w ∈ wsJx4a65c0, w ∈ wsX1_water := fun w h => List.mem_cons_of_mem _ (List.mem_append_left _ (List.mem_append_right _ h))
  have inX0 : ∀ w ∈ wsX00, w ∈ wsX1_water := fun w h => List.mem_cons_of_mem _ (List.mem_append_right _ h)
  have inX1 : ∀ w ∈ wsX10, w ∈ wsX1_water := fun w h => List.mem_cons_of_mem _ (List.mem_append_left _ (List.mem_append_left _ (List.mem_append_right _ h)))
  have hnb := hE.2.2.2.2.1 i (by omega)
  refine lv_iconst (v := 0) hx hb dX1_water_0 (by decide) ?_
  refine lv_istore_n (lv' := [(1, .int 0), (0, .ref (eAd E (5 + i)))]) hx hb dX1_water_1 rfl hl (by decide) rfl (fun ls hl => ?_)
  refine lv_iconst (v := 0) hx hb dX1_water_2 (by decide) ?_
  refine lv_istore_n (lv' := [(2, .int 0), (1, .int 0), (0, .ref (eAd E (5 + i)))]) hx hb dX1_water_3 rfl hl (by decide) rfl (fun ls hl => ?_)
  have loop4 : ∀ (n t : Nat), t + n = eNb E i → ∀ (H : Heap) (locs : List Loc) (ls : Array Slot), HS E s.heap v H locs → lv_has ls 3 [(0, .ref (eAd E (5 + i))), (1, .int (lwat E v i t)), (2, .int (nI t))] → W p l e ({ frames := 3, cells := 0, slots := 0, locals := 64 } : Room) s m ([.ref (eAd E (5 + i))] : List Value).toArray below meth c H locs 0 0 (Zi below E ([.ref (eAd E (5 + i))] : List Value).toArray s (lwat E v i (eNb E i)) v) (F0 m 4 ls []) := by
    intro n
    induction n with
    | zero =>
      intro t ht H locs ls hH hl
      obtain rfl : eNb E i = t := by omega
      refine lv_iload_n hx hb dX1_water_4 rfl (lv_at hl 2 rfl) ?_
      refine lv_aload_n hx hb dX1_water_5 rfl (lv_at hl 0 rfl) ?_
      refine g_get (x := .ref (eAd E (8 + i))) F hH inX1 (hE.1 _ (by have := hi; omega)) (cq_ld E _ hi) rfl 2 (by decide) (hts (.fieldLink RX1 22 "DryingKiln$Load" "boards" "Ljava/util/ArrayList;") (by decide +kernel)) (fun _ h => h) rfl dX1_water_6 ?_
      refine g_vi (As := []) F hH (c_Jx4a65c_size_8abf5 l E hE v i (by first | assumption | omega | decide)) (cwV 0 hts gX1_water_Jx4a65c_size_8abf5 rfl rfl rfl (by decide +kernel) ⟨Nat.le_of_ble_eq_true rfl, Nat.le_of_ble_eq_true rfl⟩) (hE.1 _ (by have := hi; omega)) (cq_li E _ hi) rfl rfl hl.1 [.int (nI (eNb E i))] rfl (Nat.le_of_ble_eq_true rfl) dX1_water_9 ⟨Nat.zero_le _, Nat.zero_le _⟩ (fun H locs hH => ?_)
      refine lv_icmp_ge (tgt := 38) hx hb dX1_water_12 (by decide) (fun c1 => ?_) (fun c1 => ?_)
      · skip
        refine lv_iload_n hx hb dX1_water_38 rfl (lv_at hl 1 rfl) ?_
        exact g_iret F hr hlk hH (by first | rfl | (simp only [c1, if_true, if_false, ↓reduceIte]; done) | (simp only [c1, if_true, if_false, ↓reduceIte]; rfl)) (by first | rfl | (simp only [c1, if_true, if_false, ↓reduceIte]; done) | (simp only [c1, if_true, if_false, ↓reduceIte]; rfl)) dX1_water_39
      · skip
        exact absurd (nI_le (Nat.le_refl _) (by omega)) c1
    | succ n ih =>
      intro t ht H locs ls hH hl
      have htN : t < eNb E i := by omega
      refine lv_iload_n hx hb dX1_water_4 rfl (lv_at hl 2 rfl) ?_
      refine lv_aload_n hx hb dX1_water_5 rfl (lv_at hl 0 rfl) ?_
      refine g_get (x := .ref (eAd E (8 + i))) F hH inX1 (hE.1 _ (by have := hi; omega)) (cq_ld E _ hi) rfl 2 (by decide) (hts (.fieldLink RX1 22 "DryingKiln$Load" "boards" "Ljava/util/ArrayList;") (by decide +kernel)) (fun _ h => h) rfl dX1_water_6 ?_
      refine g_vi (As := []) F hH (c_Jx4a65c_size_8abf5 l E hE v i (by first | assumption | omega | decide)) (cwV 0 hts gX1_water_Jx4a65c_size_8abf5 rfl rfl rfl (by decide +kernel) ⟨Nat.le_of_ble_eq_true rfl, Nat.le_of_ble_eq_true rfl⟩) (hE.1 _ (by have := hi; omega)) (cq_li E _ hi) rfl rfl hl.1 [.int (nI t)] rfl (Nat.le_of_ble_eq_true rfl) dX1_water_9 ⟨Nat.zero_le _, Nat.zero_le _⟩ (fun H locs hH => ?_)
      refine lv_icmp_ge (tgt := 38) hx hb dX1_water_12 (by decide) (fun c2 => ?_) (fun c2 => ?_)
      · skip
        exact absurd c2 (nI_ge htN (by omega))
      · skip
        refine lv_iload_n hx hb dX1_water_15 rfl (lv_at hl 1 rfl) ?_
        refine lv_aload_n hx hb dX1_water_16 rfl (lv_at hl 0 rfl) ?_
        refine g_get (x := .ref (eAd E (8 + i))) F hH inX1 (hE.1 _ (by have := hi; omega)) (cq_ld E _ hi) rfl 2 (by decide) (hts (.fieldLink RX1 22 "DryingKiln$Load" "boards" "Ljava/util/ArrayList;") (by decide +kernel)) (fun _ h => h) rfl dX1_water_17 ?_
        refine lv_iload_n hx hb dX1_water_20 rfl (lv_at hl 2 rfl) ?_
        refine g_vr (As := [.int (nI t)]) F hH (c_Jx4a65c_get_915e3 l E hE v i t (by first | assumption | omega | decide) (by first | assumption | omega | decide)) (cwV 1 hts gX1_water_Jx4a65c_get_915e3 rfl rfl rfl (by decide +kernel) ⟨Nat.le_of_ble_eq_true rfl, Nat.le_of_ble_eq_true rfl⟩) (hE.1 _ (by have := hi; omega)) (cq_li E _ hi) rfl rfl hl.1 [.int (lwat E v i t)] rfl (Nat.le_of_ble_eq_true rfl) dX1_water_21 ⟨Nat.zero_le _, Nat.zero_le _⟩ (fun H locs hH => ?_)
        refine g_cast F hH (hE.2.2.2.1 i t hi (by omega)).1 (cq_bo E _ (by omega)) (by rfl) (hts (.classLink RX1 34 "DryingKiln$Board") (by decide +kernel)) dX1_water_24 ?_
        refine g_vi (As := []) F hH (c_X0_water l E hE v i t (by first | assumption | omega | decide) (by first | assumption | omega | decide)) (cwV 0 hts gX1_water_X0_water rfl rfl rfl (by decide +kernel) ⟨Nat.le_of_ble_eq_true rfl, Nat.le_of_ble_eq_true rfl⟩) (hE.2.2.2.1 i t hi (by omega)).1 (cq_bo E _ (by omega)) rfl rfl hl.1 [.int (lwat E v i t)] rfl (Nat.le_of_ble_eq_true rfl) dX1_water_27 ⟨Nat.zero_le _, Nat.zero_le _⟩ (fun H locs hH => ?_)
        refine lv_iadd hx hb dX1_water_30 ?_
        refine lv_istore_n (lv' := [(1, .int ((lwat E v i t) + (psum (v (ba i t)) (eLn E t)))), (0, .ref (eAd E (5 + i))), (2, .int (nI t))]) hx hb dX1_water_31 rfl hl (by decide) rfl (fun ls hl => ?_)
        refine lv_iinc (v := nI (t + 1)) (lv' := [(2, .int (nI (t + 1))), (1, .int ((lwat E v i t) + (psum (v (ba i t)) (eLn E t)))), (0, .ref (eAd E (5 + i)))]) hx hb dX1_water_32 hl (k := 2) rfl (nI_1 _) (by decide) rfl (fun ls hl => ?_)
        refine lv_goto (tgt := 4) hx hb dX1_water_35 (by decide) ?_
        exact ih (t + 1) (by omega) _ _ ls (by first | exact hH | (simp only [c2, if_true, if_false, ↓reduceIte]; exact hH)) (by first | exact lv_sub hl [2, 1, 0] rfl | (have h := lv_sub hl [2, 1, 0] rfl; simp only [c2, if_true, if_false, ↓reduceIte]; exact h))
  exact loop4 (eNb E i) 0 (Nat.zero_add _) _ _ ls hH (lv_sub hl [2, 1, 0] rfl)

set_option maxHeartbeats 4000000 in
set_option maxRecDepth 100000 in
theorem c_X1_wettest (l : Launch) (E : Ev) (hE : EO E) (v : Mem) (i : Nat) (hi : i < 3) : Ci l yX1_wettest wsX1_wettest ({ frames := 3, cells := 0, slots := 0, locals := 64 } : Room) E [.ref (eAd E (5 + i))] v (lwb E v i (eNb E i)) v := by
  refine Ci.of (cc := cX1_wettest) (maxL := 5) (ret := (some .int)) (own := RX1) (by decide) rfl rfl (Nat.le_of_ble_eq_true rfl) ?_
  intro p e s m below meth c F hr hlk ls hl hH
  obtain ⟨hx, hb, hml, hown, hts⟩ := id F.1
  have hl : lv_has ls 5 [(0, .ref (eAd E (5 + i)))] := hl
  have inJx4a65c : ∀ w ∈ wsJx4a65c0, w ∈ wsX1_wettest := fun w h => List.mem_cons_of_mem _ (List.mem_append_left _ (List.mem_append_right _ h))
  have inX0 : ∀ w ∈ wsX00, w ∈ wsX1_wettest := fun w h => List.mem_cons_of_mem _ (List.mem_append_right _ h)
  have inX1 : ∀ w ∈ wsX10, w ∈ wsX1_wettest := fun w h => List.mem_cons_of_mem _ (List.mem_append_left _ (List.mem_append_left _ (List.mem_append_right _ h)))
  have hnb := hE.2.2.2.2.1 i (by omega)
  refine lv_ldc (v := -1000005) hx hb hown (hts (.constant RX1 47 (-1000005)) (by decide +kernel)) dX1_wettest_0 ?_
  refine lv_istore_n (lv' := [(1, .int (-1000005)), (0, .ref (eAd E (5 + i)))]) hx hb dX1_wettest_2 rfl hl (by decide) rfl (fun ls hl => ?_)
  refine lv_iconst (v := -1) hx hb dX1_wettest_3 (by decide) ?_
  refine lv_istore_n (lv' := [(2, .int (-1)), (1, .int (-1000005)), (0, .ref (eAd E (5 + i)))]) hx hb dX1_wettest_4 rfl hl (by decide) rfl (fun ls hl => ?_)
  refine lv_iconst (v := 0) hx hb dX1_wettest_5 (by decide) ?_
  refine lv_istore_n (lv' := [(3, .int 0), (2, .int (-1)), (1, .int (-1000005)), (0, .ref (eAd E (5 + i)))]) hx hb dX1_wettest_6 rfl hl (by decide) rfl (fun ls hl => ?_)
  have loop7 : ∀ (n t : Nat), t + n = eNb E i → ∀ (H : Heap) (locs : List Loc) (ls : Array Slot), HS E s.heap v H locs → lv_has ls 5 [(0, .ref (eAd E (5 + i))), (1, .int (lwb E v i t)), (2, .int (lwg E v i t)), (3, .int (nI t))] → W p l e ({ frames := 3, cells := 0, slots := 0, locals := 64 } : Room) s m ([.ref (eAd E (5 + i))] : List Value).toArray below meth c H locs 0 0 (Zi below E ([.ref (eAd E (5 + i))] : List Value).toArray s (lwb E v i (eNb E i)) v) (F0 m 7 ls []) := by
    intro n
    induction n with
    | zero =>
      intro t ht H locs ls hH hl
      obtain rfl : eNb E i = t := by omega
      refine lv_iload_n hx hb dX1_wettest_7 rfl (lv_at hl 3 rfl) ?_
      refine lv_aload_n hx hb dX1_wettest_8 rfl (lv_at hl 0 rfl) ?_
      refine g_get (x := .ref (eAd E (8 + i))) F hH inX1 (hE.1 _ (by have := hi; omega)) (cq_ld E _ hi) rfl 2 (by decide) (hts (.fieldLink RX1 22 "DryingKiln$Load" "boards" "Ljava/util/ArrayList;") (by decide +kernel)) (fun _ h => h) rfl dX1_wettest_9 ?_
      refine g_vi (As := []) F hH (c_Jx4a65c_size_8abf5 l E hE v i (by first | assumption | omega | decide)) (cwV 0 hts gX1_wettest_Jx4a65c_size_8abf5 rfl rfl rfl (by decide +kernel) ⟨Nat.le_of_ble_eq_true rfl, Nat.le_of_ble_eq_true rfl⟩) (hE.1 _ (by have := hi; omega)) (cq_li E _ hi) rfl rfl hl.1 [.int (nI (eNb E i))] rfl (Nat.le_of_ble_eq_true rfl) dX1_wettest_12 ⟨Nat.zero_le _, Nat.zero_le _⟩ (fun H locs hH => ?_)
      refine lv_icmp_ge (tgt := 51) hx hb dX1_wettest_15 (by decide) (fun c1 => ?_) (fun c1 => ?_)
      · skip
        refine lv_iload_n hx hb dX1_wettest_51 rfl (lv_at hl 1 rfl) ?_
        exact g_iret F hr hlk hH (by first | rfl | (simp only [lwb, lwg, c1, if_true, if_false, ↓reduceIte]; done) | (simp only [lwb, lwg, c1, if_true, if_false, ↓reduceIte]; rfl)) (by first | rfl | (simp only [lwb, lwg, c1, if_true, if_false, ↓reduceIte]; done) | (simp only [lwb, lwg, c1, if_true, if_false, ↓reduceIte]; rfl)) dX1_wettest_52
      · skip
        exact absurd (nI_le (Nat.le_refl _) (by omega)) c1
    | succ n ih =>
      intro t ht H locs ls hH hl
      have htN : t < eNb E i := by omega
      refine lv_iload_n hx hb dX1_wettest_7 rfl (lv_at hl 3 rfl) ?_
      refine lv_aload_n hx hb dX1_wettest_8 rfl (lv_at hl 0 rfl) ?_
      refine g_get (x := .ref (eAd E (8 + i))) F hH inX1 (hE.1 _ (by have := hi; omega)) (cq_ld E _ hi) rfl 2 (by decide) (hts (.fieldLink RX1 22 "DryingKiln$Load" "boards" "Ljava/util/ArrayList;") (by decide +kernel)) (fun _ h => h) rfl dX1_wettest_9 ?_
      refine g_vi (As := []) F hH (c_Jx4a65c_size_8abf5 l E hE v i (by first | assumption | omega | decide)) (cwV 0 hts gX1_wettest_Jx4a65c_size_8abf5 rfl rfl rfl (by decide +kernel) ⟨Nat.le_of_ble_eq_true rfl, Nat.le_of_ble_eq_true rfl⟩) (hE.1 _ (by have := hi; omega)) (cq_li E _ hi) rfl rfl hl.1 [.int (nI t)] rfl (Nat.le_of_ble_eq_true rfl) dX1_wettest_12 ⟨Nat.zero_le _, Nat.zero_le _⟩ (fun H locs hH => ?_)
      refine lv_icmp_ge (tgt := 51) hx hb dX1_wettest_15 (by decide) (fun c2 => ?_) (fun c2 => ?_)
      · skip
        exact absurd c2 (nI_ge htN (by omega))
      · skip
        refine lv_aload_n hx hb dX1_wettest_18 rfl (lv_at hl 0 rfl) ?_
        refine g_get (x := .ref (eAd E (8 + i))) F hH inX1 (hE.1 _ (by have := hi; omega)) (cq_ld E _ hi) rfl 2 (by decide) (hts (.fieldLink RX1 22 "DryingKiln$Load" "boards" "Ljava/util/ArrayList;") (by decide +kernel)) (fun _ h => h) rfl dX1_wettest_19 ?_
        refine lv_iload_n hx hb dX1_wettest_22 rfl (lv_at hl 3 rfl) ?_
        refine g_vr (As := [.int (nI t)]) F hH (c_Jx4a65c_get_915e3 l E hE v i t (by first | assumption | omega | decide) (by first | assumption | omega | decide)) (cwV 1 hts gX1_wettest_Jx4a65c_get_915e3 rfl rfl rfl (by decide +kernel) ⟨Nat.le_of_ble_eq_true rfl, Nat.le_of_ble_eq_true rfl⟩) (hE.1 _ (by have := hi; omega)) (cq_li E _ hi) rfl rfl hl.1 [] rfl (Nat.le_of_ble_eq_true rfl) dX1_wettest_23 ⟨Nat.zero_le _, Nat.zero_le _⟩ (fun H locs hH => ?_)
        refine g_cast F hH (hE.2.2.2.1 i t hi (by omega)).1 (cq_bo E _ (by omega)) (by rfl) (hts (.classLink RX1 34 "DryingKiln$Board") (by decide +kernel)) dX1_wettest_26 ?_
        refine g_vi (As := []) F hH (c_X0_average l E hE v i t (by first | assumption | omega | decide) (by first | assumption | omega | decide)) (cwV 0 hts gX1_wettest_X0_average rfl rfl rfl (by decide +kernel) ⟨Nat.le_of_ble_eq_true rfl, Nat.le_of_ble_eq_true rfl⟩) (hE.2.2.2.1 i t hi (by omega)).1 (cq_bo E _ (by omega)) rfl rfl hl.1 [] rfl (Nat.le_of_ble_eq_true rfl) dX1_wettest_29 ⟨Nat.zero_le _, Nat.zero_le _⟩ (fun H locs hH => ?_)
        refine lv_istore (lv' := [(4, .int (lavg E v i t)), (0, .ref (eAd E (5 + i))), (1, .int (lwb E v i t)), (2, .int (lwg E v i t)), (3, .int (nI t))]) hx hb dX1_wettest_32 hl (by decide) rfl (fun ls hl => ?_)
        refine lv_iload hx hb dX1_wettest_34 (lv_at hl 0 rfl) ?_
        refine lv_iload_n hx hb dX1_wettest_36 rfl (lv_at hl 3 rfl) ?_
        refine lv_icmp_le (tgt := 45) hx hb dX1_wettest_37 (by decide) (fun c3 => ?_) (fun c3 => ?_)
        · skip
          refine lv_iinc (v := nI (t + 1)) (lv' := [(3, .int (nI (t + 1))), (4, .int (lavg E v i t)), (0, .ref (eAd E (5 + i))), (1, .int (lwb E v i t)), (2, .int (lwg E v i t))]) hx hb dX1_wettest_45 hl (k := 4) rfl (nI_1 _) (by decide) rfl (fun ls hl => ?_)
          refine lv_goto (tgt := 7) hx hb dX1_wettest_48 (by decide) ?_
          exact ih (t + 1) (by omega) _ _ ls (by first | exact hH | (simp only [lwb, lwg, c2, c3, if_true, if_false, ↓reduceIte]; exact hH)) (by first | exact lv_sub hl [2, 3, 4, 0] rfl | (have h := lv_sub hl [2, 3, 4, 0] rfl; simp only [lwb, lwg, c2, c3, if_true, if_false, ↓reduceIte]; exact h))
        · skip
          refine lv_iload_n hx hb dX1_wettest_40 rfl (lv_at hl 4 rfl) ?_
          refine lv_istore_n (lv' := [(1, .int (nI t)), (4, .int (lavg E v i t)), (0, .ref (eAd E (5 + i))), (2, .int (lwg E v i t)), (3, .int (nI t))]) hx hb dX1_wettest_41 rfl hl (by decide) rfl (fun ls hl => ?_)
          refine lv_iload hx hb dX1_wettest_42 (lv_at hl 1 rfl) ?_
          refine lv_istore_n (lv' := [(2, .int (lavg E v i t)), (1, .int (nI t)), (4, .int (lavg E v i t)), (0, .ref (eAd E (5 + i))), (3, .int (nI t))]) hx hb dX1_wettest_44 rfl hl (by decide) rfl (fun ls hl => ?_)
          refine lv_iinc (v := nI (t + 1)) (lv' := [(3, .int (nI (t + 1))), (2, .int (lavg E v i t)), (1, .int (nI t)), (4, .int (lavg E v i t)), (0, .ref (eAd E (5 + i)))]) hx hb dX1_wettest_45 hl (k := 4) rfl (nI_1 _) (by decide) rfl (fun ls hl => ?_)
          refine lv_goto (tgt := 7) hx hb dX1_wettest_48 (by decide) ?_
          exact ih (t + 1) (by omega) _ _ ls (by first | exact hH | (simp only [lwb, lwg, c2, c3, if_true, if_false, ↓reduceIte]; exact hH)) (by first | exact lv_sub hl [4, 2, 1, 0] rfl | (have h := lv_sub hl [4, 2, 1, 0] rfl; simp only [lwb, lwg, c2, c3, if_true, if_false, ↓reduceIte]; exact h))
  exact loop7 (eNb E i) 0 (Nat.zero_add _) _ _ ls hH (lv_sub hl [3, 2, 1, 0] rfl)

set_option maxHeartbeats 4000000 in
set_option maxRecDepth 100000 in
theorem c_X1_greatestAverage (l : Launch) (E : Ev) (hE : EO E) (v : Mem) (i : Nat) (hi : i < 3) : Ci l yX1_greatestAverage wsX1_greatestAverage ({ frames := 3, cells := 0, slots := 0, locals := 64 } : Room) E [.ref (eAd E (5 + i))] v (lga E v i (eNb E i)) v := by
  refine Ci.of (cc := cX1_greatestAverage) (maxL := 3) (ret := (some .int)) (own := RX1) (by decide) rfl rfl (Nat.le_of_ble_eq_true rfl) ?_
  intro p e s m below meth c F hr hlk ls hl hH
  obtain ⟨hx, hb, hml, hown, hts⟩ := id F.1
  have hl : lv_has ls 3 [(0, .ref (eAd E (5 + i)))] := hl
  have inJx4a65c : ∀ w ∈ wsJx4a65c0, w ∈ wsX1_greatestAverage := fun w h => List.mem_cons_of_mem _ (List.mem_append_left _ (List.mem_append_right _ h))
  have inX0 : ∀ w ∈ wsX00, w ∈ wsX1_greatestAverage := fun w h => List.mem_cons_of_mem _ (List.mem_append_right _ h)
  have inX1 : ∀ w ∈ wsX10, w ∈ wsX1_greatestAverage := fun w h => List.mem_cons_of_mem _ (List.mem_append_left _ (List.mem_append_left _ (List.mem_append_right _ h)))
  have hnb := hE.2.2.2.2.1 i (by omega)
  refine lv_iconst (v := 0) hx hb dX1_greatestAverage_0 (by decide) ?_
  refine lv_istore_n (lv' := [(1, .int 0), (0, .ref (eAd E (5 + i)))]) hx hb dX1_greatestAverage_1 rfl hl (by decide) rfl (fun ls hl => ?_)
  refine lv_iconst (v := 0) hx hb dX1_greatestAverage_2 (by decide) ?_
  refine lv_istore_n (lv' := [(2, .int 0), (1, .int 0), (0, .ref (eAd E (5 + i)))]) hx hb dX1_greatestAverage_3 rfl hl (by decide) rfl (fun ls hl => ?_)
  have loop4 : ∀ (n t : Nat), t + n = eNb E i → ∀ (H : Heap) (locs : List Loc) (ls : Array Slot), HS E s.heap v H locs → lv_has ls 3 [(0, .ref (eAd E (5 + i))), (1, .int (lga E v i t)), (2, .int (nI t))] → W p l e ({ frames := 3, cells := 0, slots := 0, locals := 64 } : Room) s m ([.ref (eAd E (5 + i))] : List Value).toArray below meth c H locs 0 0 (Zi below E ([.ref (eAd E (5 + i))] : List Value).toArray s (lga E v i (eNb E i)) v) (F0 m 4 ls []) := by
    intro n
    induction n with
    | zero =>
      intro t ht H locs ls hH hl
      obtain rfl : eNb E i = t := by omega
      refine lv_iload_n hx hb dX1_greatestAverage_4 rfl (lv_at hl 2 rfl) ?_
      refine lv_aload_n hx hb dX1_greatestAverage_5 rfl (lv_at hl 0 rfl) ?_
      refine g_get (x := .ref (eAd E (8 + i))) F hH inX1 (hE.1 _ (by have := hi; omega)) (cq_ld E _ hi) rfl 2 (by decide) (hts (.fieldLink RX1 22 "DryingKiln$Load" "boards" "Ljava/util/ArrayList;") (by decide +kernel)) (fun _ h => h) rfl dX1_greatestAverage_6 ?_
      refine g_vi (As := []) F hH (c_Jx4a65c_size_8abf5 l E hE v i (by first | assumption | omega | decide)) (cwV 0 hts gX1_greatestAverage_Jx4a65c_size_8abf5 rfl rfl rfl (by decide +kernel) ⟨Nat.le_of_ble_eq_true rfl, Nat.le_of_ble_eq_true rfl⟩) (hE.1 _ (by have := hi; omega)) (cq_li E _ hi) rfl rfl hl.1 [.int (nI (eNb E i))] rfl (Nat.le_of_ble_eq_true rfl) dX1_greatestAverage_9 ⟨Nat.zero_le _, Nat.zero_le _⟩ (fun H locs hH => ?_)
      refine lv_icmp_ge (tgt := 40) hx hb dX1_greatestAverage_12 (by decide) (fun c1 => ?_) (fun c1 => ?_)
      · skip
        refine lv_iload_n hx hb dX1_greatestAverage_40 rfl (lv_at hl 1 rfl) ?_
        exact g_iret F hr hlk hH (by first | rfl | (simp only [c1, if_true, if_false, ↓reduceIte]; done) | (simp only [c1, if_true, if_false, ↓reduceIte]; rfl)) (by first | rfl | (simp only [c1, if_true, if_false, ↓reduceIte]; done) | (simp only [c1, if_true, if_false, ↓reduceIte]; rfl)) dX1_greatestAverage_41
      · skip
        exact absurd (nI_le (Nat.le_refl _) (by omega)) c1
    | succ n ih =>
      intro t ht H locs ls hH hl
      have htN : t < eNb E i := by omega
      refine lv_iload_n hx hb dX1_greatestAverage_4 rfl (lv_at hl 2 rfl) ?_
      refine lv_aload_n hx hb dX1_greatestAverage_5 rfl (lv_at hl 0 rfl) ?_
      refine g_get (x := .ref (eAd E (8 + i))) F hH inX1 (hE.1 _ (by have := hi; omega)) (cq_ld E _ hi) rfl 2 (by decide) (hts (.fieldLink RX1 22 "DryingKiln$Load" "boards" "Ljava/util/ArrayList;") (by decide +kernel)) (fun _ h => h) rfl dX1_greatestAverage_6 ?_
      refine g_vi (As := []) F hH (c_Jx4a65c_size_8abf5 l E hE v i (by first | assumption | omega | decide)) (cwV 0 hts gX1_greatestAverage_Jx4a65c_size_8abf5 rfl rfl rfl (by decide +kernel) ⟨Nat.le_of_ble_eq_true rfl, Nat.le_of_ble_eq_true rfl⟩) (hE.1 _ (by have := hi; omega)) (cq_li E _ hi) rfl rfl hl.1 [.int (nI t)] rfl (Nat.le_of_ble_eq_true rfl) dX1_greatestAverage_9 ⟨Nat.zero_le _, Nat.zero_le _⟩ (fun H locs hH => ?_)
      refine lv_icmp_ge (tgt := 40) hx hb dX1_greatestAverage_12 (by decide) (fun c2 => ?_) (fun c2 => ?_)
      · skip
        exact absurd c2 (nI_ge htN (by omega))
      · skip
        refine lv_iload_n hx hb dX1_greatestAverage_15 rfl (lv_at hl 1 rfl) ?_
        refine lv_aload_n hx hb dX1_greatestAverage_16 rfl (lv_at hl 0 rfl) ?_
        refine g_get (x := .ref (eAd E (8 + i))) F hH inX1 (hE.1 _ (by have := hi; omega)) (cq_ld E _ hi) rfl 2 (by decide) (hts (.fieldLink RX1 22 "DryingKiln$Load" "boards" "Ljava/util/ArrayList;") (by decide +kernel)) (fun _ h => h) rfl dX1_greatestAverage_17 ?_
        refine lv_iload_n hx hb dX1_greatestAverage_20 rfl (lv_at hl 2 rfl) ?_
        refine g_vr (As := [.int (nI t)]) F hH (c_Jx4a65c_get_915e3 l E hE v i t (by first | assumption | omega | decide) (by first | assumption | omega | decide)) (cwV 1 hts gX1_greatestAverage_Jx4a65c_get_915e3 rfl rfl rfl (by decide +kernel) ⟨Nat.le_of_ble_eq_true rfl, Nat.le_of_ble_eq_true rfl⟩) (hE.1 _ (by have := hi; omega)) (cq_li E _ hi) rfl rfl hl.1 [.int (lga E v i t)] rfl (Nat.le_of_ble_eq_true rfl) dX1_greatestAverage_21 ⟨Nat.zero_le _, Nat.zero_le _⟩ (fun H locs hH => ?_)
        refine g_cast F hH (hE.2.2.2.1 i t hi (by omega)).1 (cq_bo E _ (by omega)) (by rfl) (hts (.classLink RX1 34 "DryingKiln$Board") (by decide +kernel)) dX1_greatestAverage_24 ?_
        refine g_vi (As := []) F hH (c_X0_average l E hE v i t (by first | assumption | omega | decide) (by first | assumption | omega | decide)) (cwV 0 hts gX1_greatestAverage_X0_average rfl rfl rfl (by decide +kernel) ⟨Nat.le_of_ble_eq_true rfl, Nat.le_of_ble_eq_true rfl⟩) (hE.2.2.2.1 i t hi (by omega)).1 (cq_bo E _ (by omega)) rfl rfl hl.1 [.int (lga E v i t)] rfl (Nat.le_of_ble_eq_true rfl) dX1_greatestAverage_27 ⟨Nat.zero_le _, Nat.zero_le _⟩ (fun H locs hH => ?_)
        refine va_mmax hx hb (by rw [hml]; exact hl.1.symm) hown (hts (.methodLink RX1 51 Lib.Math.max.name) (by decide +kernel)) (hts (.static Lib.Math.max.name) (by decide +kernel)) (hts (.initialized "java/lang/Math") (by decide +kernel)) (hts (.code Lib.Math.max.name Lib.Math.max.code 2 (some .int)) (by decide +kernel)) (Nat.le_of_ble_eq_true rfl) (Nat.le_of_ble_eq_true rfl) (Nat.zero_le _) (Nat.zero_le _) dX1_greatestAverage_30 ?_
        rw [← imx_eq (lga E v i t) (lavg E v i t)]
        refine lv_istore_n (lv' := [(1, .int (imx (lga E v i t) (lavg E v i t))), (0, .ref (eAd E (5 + i))), (2, .int (nI t))]) hx hb dX1_greatestAverage_33 rfl hl (by decide) rfl (fun ls hl => ?_)
        refine lv_iinc (v := nI (t + 1)) (lv' := [(2, .int (nI (t + 1))), (1, .int (imx (lga E v i t) (lavg E v i t))), (0, .ref (eAd E (5 + i)))]) hx hb dX1_greatestAverage_34 hl (k := 2) rfl (nI_1 _) (by decide) rfl (fun ls hl => ?_)
        refine lv_goto (tgt := 4) hx hb dX1_greatestAverage_37 (by decide) ?_
        exact ih (t + 1) (by omega) _ _ ls (by first | exact hH | (simp only [c2, if_true, if_false, ↓reduceIte]; exact hH)) (by first | exact lv_sub hl [2, 1, 0] rfl | (have h := lv_sub hl [2, 1, 0] rfl; simp only [c2, if_true, if_false, ↓reduceIte]; exact h))
  exact loop4 (eNb E i) 0 (Nat.zero_add _) _ _ ls hH (lv_sub hl [2, 1, 0] rfl)

set_option maxHeartbeats 4000000 in
set_option maxRecDepth 100000 in
theorem c_X1_isWetterThan (l : Launch) (E : Ev) (hE : EO E) (v : Mem) (i : Nat) (a : Int32) (hi : i < 3) : Ci l yX1_isWetterThan wsX1_isWetterThan ({ frames := 4, cells := 0, slots := 0, locals := 86 } : Room) E [.ref (eAd E (5 + i)), .int a] v (iwt E v i a) v := by
  refine Ci.of (cc := cX1_isWetterThan) (maxL := 2) (ret := (some .boolean)) (own := RX1) (by decide) rfl rfl (Nat.le_of_ble_eq_true rfl) ?_
  intro p e s m below meth c F hr hlk ls hl hH
  obtain ⟨hx, hb, hml, hown, hts⟩ := id F.1
  have hl : lv_has ls 2 [(0, .ref (eAd E (5 + i))), (1, .int a)] := hl
  have inJx4a65c : ∀ w ∈ wsJx4a65c0, w ∈ wsX1_isWetterThan := fun w h => List.mem_cons_of_mem _ (List.mem_append_left _ (List.mem_append_right _ h))
  have inX0 : ∀ w ∈ wsX00, w ∈ wsX1_isWetterThan := fun w h => List.mem_cons_of_mem _ (List.mem_append_right _ h)
  have inX1 : ∀ w ∈ wsX10, w ∈ wsX1_isWetterThan := fun w h => List.mem_cons_of_mem _ (List.mem_append_left _ (List.mem_append_left _ (List.mem_append_right _ h)))
  refine lv_aload_n hx hb dX1_isWetterThan_0 rfl (lv_at hl 0 rfl) ?_
  refine g_vi (As := []) F hH (c_X1_greatestAverage l E hE v i (by first | assumption | omega | decide)) (cwV 0 hts gX1_isWetterThan_X1_greatestAverage rfl rfl rfl (by decide +kernel) ⟨Nat.le_of_ble_eq_true rfl, Nat.le_of_ble_eq_true rfl⟩) (hE.1 _ (by have := hi; omega)) (cq_ld E _ hi) rfl rfl hl.1 [] rfl (Nat.le_of_ble_eq_true rfl) dX1_isWetterThan_1 ⟨Nat.zero_le _, Nat.zero_le _⟩ (fun H locs hH => ?_)
  refine lv_iload_n hx hb dX1_isWetterThan_4 rfl (lv_at hl 1 rfl) ?_
  refine lv_icmp_le (tgt := 12) hx hb dX1_isWetterThan_5 (by decide) (fun c1 => ?_) (fun c1 => ?_)
  · skip
    refine lv_iconst (v := 0) hx hb dX1_isWetterThan_12 (by decide) ?_
    exact g_zret F hr hlk hH (by rfl) (by first | rfl | (simp only [iwt, c1, if_true, if_false, ↓reduceIte]; done) | (simp only [iwt, c1, if_true, if_false, ↓reduceIte]; rfl)) (by first | rfl | (simp only [iwt, c1, if_true, if_false, ↓reduceIte]; done) | (simp only [iwt, c1, if_true, if_false, ↓reduceIte]; rfl)) dX1_isWetterThan_13
  · skip
    refine lv_iconst (v := 1) hx hb dX1_isWetterThan_8 (by decide) ?_
    refine lv_goto (tgt := 13) hx hb dX1_isWetterThan_9 (by decide) ?_
    exact g_zret F hr hlk hH (by rfl) (by first | rfl | (simp only [iwt, c1, if_true, if_false, ↓reduceIte]; done) | (simp only [iwt, c1, if_true, if_false, ↓reduceIte]; rfl)) (by first | rfl | (simp only [iwt, c1, if_true, if_false, ↓reduceIte]; done) | (simp only [iwt, c1, if_true, if_false, ↓reduceIte]; rfl)) dX1_isWetterThan_13

set_option maxHeartbeats 4000000 in
set_option maxRecDepth 100000 in
theorem c_X1_greatestGradient (l : Launch) (E : Ev) (hE : EO E) (v : Mem) (i : Nat) (hi : i < 3) : Ci l yX1_greatestGradient wsX1_greatestGradient ({ frames := 3, cells := 0, slots := 0, locals := 64 } : Room) E [.ref (eAd E (5 + i))] v (lgg E v i (eNb E i)) v := by
  refine Ci.of (cc := cX1_greatestGradient) (maxL := 3) (ret := (some .int)) (own := RX1) (by decide) rfl rfl (Nat.le_of_ble_eq_true rfl) ?_
  intro p e s m below meth c F hr hlk ls hl hH
  obtain ⟨hx, hb, hml, hown, hts⟩ := id F.1
  have hl : lv_has ls 3 [(0, .ref (eAd E (5 + i)))] := hl
  have inJx4a65c : ∀ w ∈ wsJx4a65c0, w ∈ wsX1_greatestGradient := fun w h => List.mem_cons_of_mem _ (List.mem_append_left _ (List.mem_append_right _ h))
  have inX0 : ∀ w ∈ wsX00, w ∈ wsX1_greatestGradient := fun w h => List.mem_cons_of_mem _ (List.mem_append_right _ h)
  have inX1 : ∀ w ∈ wsX10, w ∈ wsX1_greatestGradient := fun w h => List.mem_cons_of_mem _ (List.mem_append_left _ (List.mem_append_left _ (List.mem_append_right _ h)))
  have hnb := hE.2.2.2.2.1 i (by omega)
  refine lv_iconst (v := 0) hx hb dX1_greatestGradient_0 (by decide) ?_
  refine lv_istore_n (lv' := [(1, .int 0), (0, .ref (eAd E (5 + i)))]) hx hb dX1_greatestGradient_1 rfl hl (by decide) rfl (fun ls hl => ?_)
  refine lv_iconst (v := 0) hx hb dX1_greatestGradient_2 (by decide) ?_
  refine lv_istore_n (lv' := [(2, .int 0), (1, .int 0), (0, .ref (eAd E (5 + i)))]) hx hb dX1_greatestGradient_3 rfl hl (by decide) rfl (fun ls hl => ?_)
  have loop4 : ∀ (n t : Nat), t + n = eNb E i → ∀ (H : Heap) (locs : List Loc) (ls : Array Slot), HS E s.heap v H locs → lv_has ls 3 [(0, .ref (eAd E (5 + i))), (1, .int (lgg E v i t)), (2, .int (nI t))] → W p l e ({ frames := 3, cells := 0, slots := 0, locals := 64 } : Room) s m ([.ref (eAd E (5 + i))] : List Value).toArray below meth c H locs 0 0 (Zi below E ([.ref (eAd E (5 + i))] : List Value).toArray s (lgg E v i (eNb E i)) v) (F0 m 4 ls []) := by
    intro n
    induction n with
    | zero =>
      intro t ht H locs ls hH hl
      obtain rfl : eNb E i = t := by omega
      refine lv_iload_n hx hb dX1_greatestGradient_4 rfl (lv_at hl 2 rfl) ?_
      refine lv_aload_n hx hb dX1_greatestGradient_5 rfl (lv_at hl 0 rfl) ?_
      refine g_get (x := .ref (eAd E (8 + i))) F hH inX1 (hE.1 _ (by have := hi; omega)) (cq_ld E _ hi) rfl 2 (by decide) (hts (.fieldLink RX1 22 "DryingKiln$Load" "boards" "Ljava/util/ArrayList;") (by decide +kernel)) (fun _ h => h) rfl dX1_greatestGradient_6 ?_
      refine g_vi (As := []) F hH (c_Jx4a65c_size_8abf5 l E hE v i (by first | assumption | omega | decide)) (cwV 0 hts gX1_greatestGradient_Jx4a65c_size_8abf5 rfl rfl rfl (by decide +kernel) ⟨Nat.le_of_ble_eq_true rfl, Nat.le_of_ble_eq_true rfl⟩) (hE.1 _ (by have := hi; omega)) (cq_li E _ hi) rfl rfl hl.1 [.int (nI (eNb E i))] rfl (Nat.le_of_ble_eq_true rfl) dX1_greatestGradient_9 ⟨Nat.zero_le _, Nat.zero_le _⟩ (fun H locs hH => ?_)
      refine lv_icmp_ge (tgt := 40) hx hb dX1_greatestGradient_12 (by decide) (fun c1 => ?_) (fun c1 => ?_)
      · skip
        refine lv_iload_n hx hb dX1_greatestGradient_40 rfl (lv_at hl 1 rfl) ?_
        exact g_iret F hr hlk hH (by first | rfl | (simp only [c1, if_true, if_false, ↓reduceIte]; done) | (simp only [c1, if_true, if_false, ↓reduceIte]; rfl)) (by first | rfl | (simp only [c1, if_true, if_false, ↓reduceIte]; done) | (simp only [c1, if_true, if_false, ↓reduceIte]; rfl)) dX1_greatestGradient_41
      · skip
        exact absurd (nI_le (Nat.le_refl _) (by omega)) c1
    | succ n ih =>
      intro t ht H locs ls hH hl
      have htN : t < eNb E i := by omega
      refine lv_iload_n hx hb dX1_greatestGradient_4 rfl (lv_at hl 2 rfl) ?_
      refine lv_aload_n hx hb dX1_greatestGradient_5 rfl (lv_at hl 0 rfl) ?_
      refine g_get (x := .ref (eAd E (8 + i))) F hH inX1 (hE.1 _ (by have := hi; omega)) (cq_ld E _ hi) rfl 2 (by decide) (hts (.fieldLink RX1 22 "DryingKiln$Load" "boards" "Ljava/util/ArrayList;") (by decide +kernel)) (fun _ h => h) rfl dX1_greatestGradient_6 ?_
      refine g_vi (As := []) F hH (c_Jx4a65c_size_8abf5 l E hE v i (by first | assumption | omega | decide)) (cwV 0 hts gX1_greatestGradient_Jx4a65c_size_8abf5 rfl rfl rfl (by decide +kernel) ⟨Nat.le_of_ble_eq_true rfl, Nat.le_of_ble_eq_true rfl⟩) (hE.1 _ (by have := hi; omega)) (cq_li E _ hi) rfl rfl hl.1 [.int (nI t)] rfl (Nat.le_of_ble_eq_true rfl) dX1_greatestGradient_9 ⟨Nat.zero_le _, Nat.zero_le _⟩ (fun H locs hH => ?_)
      refine lv_icmp_ge (tgt := 40) hx hb dX1_greatestGradient_12 (by decide) (fun c2 => ?_) (fun c2 => ?_)
      · skip
        exact absurd c2 (nI_ge htN (by omega))
      · skip
        refine lv_iload_n hx hb dX1_greatestGradient_15 rfl (lv_at hl 1 rfl) ?_
        refine lv_aload_n hx hb dX1_greatestGradient_16 rfl (lv_at hl 0 rfl) ?_
        refine g_get (x := .ref (eAd E (8 + i))) F hH inX1 (hE.1 _ (by have := hi; omega)) (cq_ld E _ hi) rfl 2 (by decide) (hts (.fieldLink RX1 22 "DryingKiln$Load" "boards" "Ljava/util/ArrayList;") (by decide +kernel)) (fun _ h => h) rfl dX1_greatestGradient_17 ?_
        refine lv_iload_n hx hb dX1_greatestGradient_20 rfl (lv_at hl 2 rfl) ?_
        refine g_vr (As := [.int (nI t)]) F hH (c_Jx4a65c_get_915e3 l E hE v i t (by first | assumption | omega | decide) (by first | assumption | omega | decide)) (cwV 1 hts gX1_greatestGradient_Jx4a65c_get_915e3 rfl rfl rfl (by decide +kernel) ⟨Nat.le_of_ble_eq_true rfl, Nat.le_of_ble_eq_true rfl⟩) (hE.1 _ (by have := hi; omega)) (cq_li E _ hi) rfl rfl hl.1 [.int (lgg E v i t)] rfl (Nat.le_of_ble_eq_true rfl) dX1_greatestGradient_21 ⟨Nat.zero_le _, Nat.zero_le _⟩ (fun H locs hH => ?_)
        refine g_cast F hH (hE.2.2.2.1 i t hi (by omega)).1 (cq_bo E _ (by omega)) (by rfl) (hts (.classLink RX1 34 "DryingKiln$Board") (by decide +kernel)) dX1_greatestGradient_24 ?_
        refine g_vi (As := []) F hH (c_X0_gradient l E hE v i t (by first | assumption | omega | decide) (by first | assumption | omega | decide)) (cwV 0 hts gX1_greatestGradient_X0_gradient rfl rfl rfl (by decide +kernel) ⟨Nat.le_of_ble_eq_true rfl, Nat.le_of_ble_eq_true rfl⟩) (hE.2.2.2.1 i t hi (by omega)).1 (cq_bo E _ (by omega)) rfl rfl hl.1 [.int (lgg E v i t)] rfl (Nat.le_of_ble_eq_true rfl) dX1_greatestGradient_27 ⟨Nat.zero_le _, Nat.zero_le _⟩ (fun H locs hH => ?_)
        refine va_mmax hx hb (by rw [hml]; exact hl.1.symm) hown (hts (.methodLink RX1 51 Lib.Math.max.name) (by decide +kernel)) (hts (.static Lib.Math.max.name) (by decide +kernel)) (hts (.initialized "java/lang/Math") (by decide +kernel)) (hts (.code Lib.Math.max.name Lib.Math.max.code 2 (some .int)) (by decide +kernel)) (Nat.le_of_ble_eq_true rfl) (Nat.le_of_ble_eq_true rfl) (Nat.zero_le _) (Nat.zero_le _) dX1_greatestGradient_30 ?_
        rw [← imx_eq (lgg E v i t) (pstr (v (ba i t)) (eLn E t))]
        refine lv_istore_n (lv' := [(1, .int (imx (lgg E v i t) (pstr (v (ba i t)) (eLn E t)))), (0, .ref (eAd E (5 + i))), (2, .int (nI t))]) hx hb dX1_greatestGradient_33 rfl hl (by decide) rfl (fun ls hl => ?_)
        refine lv_iinc (v := nI (t + 1)) (lv' := [(2, .int (nI (t + 1))), (1, .int (imx (lgg E v i t) (pstr (v (ba i t)) (eLn E t)))), (0, .ref (eAd E (5 + i)))]) hx hb dX1_greatestGradient_34 hl (k := 2) rfl (nI_1 _) (by decide) rfl (fun ls hl => ?_)
        refine lv_goto (tgt := 4) hx hb dX1_greatestGradient_37 (by decide) ?_
        exact ih (t + 1) (by omega) _ _ ls (by first | exact hH | (simp only [c2, if_true, if_false, ↓reduceIte]; exact hH)) (by first | exact lv_sub hl [2, 1, 0] rfl | (have h := lv_sub hl [2, 1, 0] rfl; simp only [c2, if_true, if_false, ↓reduceIte]; exact h))
  exact loop4 (eNb E i) 0 (Nat.zero_add _) _ _ ls hH (lv_sub hl [2, 1, 0] rfl)

set_option maxHeartbeats 4000000 in
set_option maxRecDepth 100000 in
theorem c_J6_bitCount_0f7a4 (l : Launch) (E : Ev) (hE : EO E) (v : Mem) (a : Int32) : Ci l yJ6_bitCount_0f7a4 wsJ6_bitCount_0f7a4 ({ frames := 0, cells := 0, slots := 0, locals := 0 } : Room) E [.int a] v (bitc a) v := by
  refine Ci.of (cc := cJ6_bitCount_0f7a4) (maxL := 1) (ret := (some .int)) (own := RJ6) (by decide) rfl rfl (Nat.le_of_ble_eq_true rfl) ?_
  intro p e s m below meth c F hr hlk ls hl hH
  obtain ⟨hx, hb, hml, hown, hts⟩ := id F.1
  have hl : lv_has ls 1 [(0, .int a)] := hl
  refine lv_iload_n hx hb dJ6_bitCount_0f7a4_0 rfl (lv_at hl 0 rfl) ?_
  refine lv_iload_n hx hb dJ6_bitCount_0f7a4_1 rfl (lv_at hl 0 rfl) ?_
  refine lv_iconst (v := 1) hx hb dJ6_bitCount_0f7a4_2 (by decide) ?_
  refine lv_iushr (v := bsh a 1) hx hb dJ6_bitCount_0f7a4_3 rfl ?_
  refine lv_ldcw (v := 1431655765) hx hb hown (hts (.constant RJ6 265 (1431655765)) (by decide +kernel)) dJ6_bitCount_0f7a4_4 ?_
  refine lv_iand hx hb dJ6_bitCount_0f7a4_7 ?_
  refine lv_isub hx hb dJ6_bitCount_0f7a4_8 ?_
  refine lv_istore_n (lv' := [(0, .int (a - ((bsh a 1) &&& 1431655765)))]) hx hb dJ6_bitCount_0f7a4_9 rfl hl (by decide) rfl (fun ls hl => ?_)
  refine lv_iload_n hx hb dJ6_bitCount_0f7a4_10 rfl (lv_at hl 0 rfl) ?_
  refine lv_ldcw (v := 858993459) hx hb hown (hts (.constant RJ6 266 (858993459)) (by decide +kernel)) dJ6_bitCount_0f7a4_11 ?_
  refine lv_iand hx hb dJ6_bitCount_0f7a4_14 ?_
  refine lv_iload_n hx hb dJ6_bitCount_0f7a4_15 rfl (lv_at hl 0 rfl) ?_
  refine lv_iconst (v := 2) hx hb dJ6_bitCount_0f7a4_16 (by decide) ?_
  refine lv_iushr (v := bsh (a - ((bsh a 1) &&& 1431655765)) 2) hx hb dJ6_bitCount_0f7a4_17 rfl ?_
  refine lv_ldcw (v := 858993459) hx hb hown (hts (.constant RJ6 266 (858993459)) (by decide +kernel)) dJ6_bitCount_0f7a4_18 ?_
  refine lv_iand hx hb dJ6_bitCount_0f7a4_21 ?_
  refine lv_iadd hx hb dJ6_bitCount_0f7a4_22 ?_
  refine lv_istore_n (lv' := [(0, .int (((a - ((bsh a 1) &&& 1431655765)) &&& 858993459) + ((bsh (a - ((bsh a 1) &&& 1431655765)) 2) &&& 858993459)))]) hx hb dJ6_bitCount_0f7a4_23 rfl hl (by decide) rfl (fun ls hl => ?_)
  refine lv_iload_n hx hb dJ6_bitCount_0f7a4_24 rfl (lv_at hl 0 rfl) ?_
  refine lv_iload_n hx hb dJ6_bitCount_0f7a4_25 rfl (lv_at hl 0 rfl) ?_
  refine lv_iconst (v := 4) hx hb dJ6_bitCount_0f7a4_26 (by decide) ?_
  refine lv_iushr (v := bsh (((a - ((bsh a 1) &&& 1431655765)) &&& 858993459) + ((bsh (a - ((bsh a 1) &&& 1431655765)) 2) &&& 858993459)) 4) hx hb dJ6_bitCount_0f7a4_27 rfl ?_
  refine lv_iadd hx hb dJ6_bitCount_0f7a4_28 ?_
  refine lv_ldcw (v := 252645135) hx hb hown (hts (.constant RJ6 267 (252645135)) (by decide +kernel)) dJ6_bitCount_0f7a4_29 ?_
  refine lv_iand hx hb dJ6_bitCount_0f7a4_32 ?_
  refine lv_istore_n (lv' := [(0, .int (((((a - ((bsh a 1) &&& 1431655765)) &&& 858993459) + ((bsh (a - ((bsh a 1) &&& 1431655765)) 2) &&& 858993459)) + (bsh (((a - ((bsh a 1) &&& 1431655765)) &&& 858993459) + ((bsh (a - ((bsh a 1) &&& 1431655765)) 2) &&& 858993459)) 4)) &&& 252645135))]) hx hb dJ6_bitCount_0f7a4_33 rfl hl (by decide) rfl (fun ls hl => ?_)
  refine lv_iload_n hx hb dJ6_bitCount_0f7a4_34 rfl (lv_at hl 0 rfl) ?_
  refine lv_iload_n hx hb dJ6_bitCount_0f7a4_35 rfl (lv_at hl 0 rfl) ?_
  refine lv_bipush (v := 8) hx hb dJ6_bitCount_0f7a4_36 (by decide) ?_
  refine lv_iushr (v := bsh (((((a - ((bsh a 1) &&& 1431655765)) &&& 858993459) + ((bsh (a - ((bsh a 1) &&& 1431655765)) 2) &&& 858993459)) + (bsh (((a - ((bsh a 1) &&& 1431655765)) &&& 858993459) + ((bsh (a - ((bsh a 1) &&& 1431655765)) 2) &&& 858993459)) 4)) &&& 252645135) 8) hx hb dJ6_bitCount_0f7a4_38 rfl ?_
  refine lv_iadd hx hb dJ6_bitCount_0f7a4_39 ?_
  refine lv_istore_n (lv' := [(0, .int ((((((a - ((bsh a 1) &&& 1431655765)) &&& 858993459) + ((bsh (a - ((bsh a 1) &&& 1431655765)) 2) &&& 858993459)) + (bsh (((a - ((bsh a 1) &&& 1431655765)) &&& 858993459) + ((bsh (a - ((bsh a 1) &&& 1431655765)) 2) &&& 858993459)) 4)) &&& 252645135) + (bsh (((((a - ((bsh a 1) &&& 1431655765)) &&& 858993459) + ((bsh (a - ((bsh a 1) &&& 1431655765)) 2) &&& 858993459)) + (bsh (((a - ((bsh a 1) &&& 1431655765)) &&& 858993459) + ((bsh (a - ((bsh a 1) &&& 1431655765)) 2) &&& 858993459)) 4)) &&& 252645135) 8)))]) hx hb dJ6_bitCount_0f7a4_40 rfl hl (by decide) rfl (fun ls hl => ?_)
  refine lv_iload_n hx hb dJ6_bitCount_0f7a4_41 rfl (lv_at hl 0 rfl) ?_
  refine lv_iload_n hx hb dJ6_bitCount_0f7a4_42 rfl (lv_at hl 0 rfl) ?_
  refine lv_bipush (v := 16) hx hb dJ6_bitCount_0f7a4_43 (by decide) ?_
  refine lv_iushr (v := bsh ((((((a - ((bsh a 1) &&& 1431655765)) &&& 858993459) + ((bsh (a - ((bsh a 1) &&& 1431655765)) 2) &&& 858993459)) + (bsh (((a - ((bsh a 1) &&& 1431655765)) &&& 858993459) + ((bsh (a - ((bsh a 1) &&& 1431655765)) 2) &&& 858993459)) 4)) &&& 252645135) + (bsh (((((a - ((bsh a 1) &&& 1431655765)) &&& 858993459) + ((bsh (a - ((bsh a 1) &&& 1431655765)) 2) &&& 858993459)) + (bsh (((a - ((bsh a 1) &&& 1431655765)) &&& 858993459) + ((bsh (a - ((bsh a 1) &&& 1431655765)) 2) &&& 858993459)) 4)) &&& 252645135) 8)) 16) hx hb dJ6_bitCount_0f7a4_45 rfl ?_
  refine lv_iadd hx hb dJ6_bitCount_0f7a4_46 ?_
  refine lv_istore_n (lv' := [(0, .int (((((((a - ((bsh a 1) &&& 1431655765)) &&& 858993459) + ((bsh (a - ((bsh a 1) &&& 1431655765)) 2) &&& 858993459)) + (bsh (((a - ((bsh a 1) &&& 1431655765)) &&& 858993459) + ((bsh (a - ((bsh a 1) &&& 1431655765)) 2) &&& 858993459)) 4)) &&& 252645135) + (bsh (((((a - ((bsh a 1) &&& 1431655765)) &&& 858993459) + ((bsh (a - ((bsh a 1) &&& 1431655765)) 2) &&& 858993459)) + (bsh (((a - ((bsh a 1) &&& 1431655765)) &&& 858993459) + ((bsh (a - ((bsh a 1) &&& 1431655765)) 2) &&& 858993459)) 4)) &&& 252645135) 8)) + (bsh ((((((a - ((bsh a 1) &&& 1431655765)) &&& 858993459) + ((bsh (a - ((bsh a 1) &&& 1431655765)) 2) &&& 858993459)) + (bsh (((a - ((bsh a 1) &&& 1431655765)) &&& 858993459) + ((bsh (a - ((bsh a 1) &&& 1431655765)) 2) &&& 858993459)) 4)) &&& 252645135) + (bsh (((((a - ((bsh a 1) &&& 1431655765)) &&& 858993459) + ((bsh (a - ((bsh a 1) &&& 1431655765)) 2) &&& 858993459)) + (bsh (((a - ((bsh a 1) &&& 1431655765)) &&& 858993459) + ((bsh (a - ((bsh a 1) &&& 1431655765)) 2) &&& 858993459)) 4)) &&& 252645135) 8)) 16)))]) hx hb dJ6_bitCount_0f7a4_47 rfl hl (by decide) rfl (fun ls hl => ?_)
  refine lv_iload_n hx hb dJ6_bitCount_0f7a4_48 rfl (lv_at hl 0 rfl) ?_
  refine lv_bipush (v := 63) hx hb dJ6_bitCount_0f7a4_49 (by decide) ?_
  refine lv_iand hx hb dJ6_bitCount_0f7a4_51 ?_
  exact g_iret F hr hlk hH rfl rfl dJ6_bitCount_0f7a4_52

set_option maxHeartbeats 4000000 in
set_option maxRecDepth 100000 in
theorem c_X1_meanOf (l : Launch) (E : Ev) (hE : EO E) (v : Mem) (i : Nat) (a : Int32) (hi : i < 3) : Ci l yX1_meanOf wsX1_meanOf ({ frames := 3, cells := 0, slots := 0, locals := 64 } : Room) E [.ref (eAd E (5 + i)), .int a] v (lmean E v i a) v := by
  refine Ci.of (cc := cX1_meanOf) (maxL := 4) (ret := (some .int)) (own := RX1) (by decide) rfl rfl (Nat.le_of_ble_eq_true rfl) ?_
  intro p e s m below meth c F hr hlk ls hl hH
  obtain ⟨hx, hb, hml, hown, hts⟩ := id F.1
  have hl : lv_has ls 4 [(0, .ref (eAd E (5 + i))), (1, .int a)] := hl
  have inJx4a65c : ∀ w ∈ wsJx4a65c0, w ∈ wsX1_meanOf := fun w h => List.mem_cons_of_mem _ (List.mem_append_left _ (List.mem_append_right _ h))
  have inX0 : ∀ w ∈ wsX00, w ∈ wsX1_meanOf := fun w h => List.mem_cons_of_mem _ (List.mem_append_right _ h)
  have inX1 : ∀ w ∈ wsX10, w ∈ wsX1_meanOf := fun w h => List.mem_cons_of_mem _ (List.mem_append_left _ (List.mem_append_left _ (List.mem_append_right _ h)))
  have hnb := hE.2.2.2.2.1 i (by omega)
  refine lv_iconst (v := 0) hx hb dX1_meanOf_0 (by decide) ?_
  refine lv_istore_n (lv' := [(2, .int 0), (0, .ref (eAd E (5 + i))), (1, .int a)]) hx hb dX1_meanOf_1 rfl hl (by decide) rfl (fun ls hl => ?_)
  refine lv_iconst (v := 0) hx hb dX1_meanOf_2 (by decide) ?_
  refine lv_istore_n (lv' := [(3, .int 0), (2, .int 0), (0, .ref (eAd E (5 + i))), (1, .int a)]) hx hb dX1_meanOf_3 rfl hl (by decide) rfl (fun ls hl => ?_)
  have loop4 : ∀ (n t : Nat), t + n = eNb E i → ∀ (H : Heap) (locs : List Loc) (ls : Array Slot), HS E s.heap v H locs → lv_has ls 4 [(0, .ref (eAd E (5 + i))), (1, .int a), (2, .int (lms E v i a t)), (3, .int (nI t))] → W p l e ({ frames := 3, cells := 0, slots := 0, locals := 64 } : Room) s m ([.ref (eAd E (5 + i)), .int a] : List Value).toArray below meth c H locs 0 0 (Zi below E ([.ref (eAd E (5 + i)), .int a] : List Value).toArray s (lmean E v i a) v) (F0 m 4 ls []) := by
    intro n
    induction n with
    | zero =>
      intro t ht H locs ls hH hl
      obtain rfl : eNb E i = t := by omega
      refine lv_iload_n hx hb dX1_meanOf_4 rfl (lv_at hl 3 rfl) ?_
      refine lv_aload_n hx hb dX1_meanOf_5 rfl (lv_at hl 0 rfl) ?_
      refine g_get (x := .ref (eAd E (8 + i))) F hH inX1 (hE.1 _ (by have := hi; omega)) (cq_ld E _ hi) rfl 2 (by decide) (hts (.fieldLink RX1 22 "DryingKiln$Load" "boards" "Ljava/util/ArrayList;") (by decide +kernel)) (fun _ h => h) rfl dX1_meanOf_6 ?_
      refine g_vi (As := []) F hH (c_Jx4a65c_size_8abf5 l E hE v i (by first | assumption | omega | decide)) (cwV 0 hts gX1_meanOf_Jx4a65c_size_8abf5 rfl rfl rfl (by decide +kernel) ⟨Nat.le_of_ble_eq_true rfl, Nat.le_of_ble_eq_true rfl⟩) (hE.1 _ (by have := hi; omega)) (cq_li E _ hi) rfl rfl hl.1 [.int (nI (eNb E i))] rfl (Nat.le_of_ble_eq_true rfl) dX1_meanOf_9 ⟨Nat.zero_le _, Nat.zero_le _⟩ (fun H locs hH => ?_)
      refine lv_icmp_ge (tgt := 47) hx hb dX1_meanOf_12 (by decide) (fun c1 => ?_) (fun c1 => ?_)
      · skip
        refine lv_iload_n hx hb dX1_meanOf_47 rfl (lv_at hl 2 rfl) ?_
        refine lv_iload_n hx hb dX1_meanOf_48 rfl (lv_at hl 1 rfl) ?_
        refine g_si (As := [.int a]) F hH (c_J6_bitCount_0f7a4 l E hE v a) (va_cwS 1 hts gX1_meanOf_J6_bitCount_0f7a4 rfl rfl rfl (by decide +kernel) ⟨Nat.le_of_ble_eq_true rfl, Nat.le_of_ble_eq_true rfl⟩) rfl hl.1 [.int (lms E v i a (eNb E i))] rfl (Nat.le_of_ble_eq_true rfl) dX1_meanOf_49 ⟨Nat.zero_le _, Nat.zero_le _⟩ (fun H locs hH => ?_)
        refine g_sni (As := [.int (lms E v i a (eNb E i)), .int (bitc a)]) F hH (c_X4_quotient l E hE v (lms E v i a (eNb E i)) (bitc a)) ⟨va_cnB 2 hts gX1_meanOf_X4_quotient_n69 rfl rfl rfl F.2.2.2.1.2.1 (hts (.initialized RX4) (by decide +kernel)) (by decide +kernel) ⟨Nat.le_of_ble_eq_true rfl, Nat.le_of_ble_eq_true rfl⟩, (hts (.static yX4_quotient) (by decide +kernel)), trivial⟩ rfl hl.1 [] rfl (Nat.le_of_ble_eq_true rfl) dX1_meanOf_52 ⟨Nat.zero_le _, Nat.zero_le _⟩ (fun H locs hH => ?_)
        exact g_iret F hr hlk hH rfl rfl dX1_meanOf_55
      · skip
        exact absurd (nI_le (Nat.le_refl _) (by omega)) c1
    | succ n ih =>
      intro t ht H locs ls hH hl
      have htN : t < eNb E i := by omega
      refine lv_iload_n hx hb dX1_meanOf_4 rfl (lv_at hl 3 rfl) ?_
      refine lv_aload_n hx hb dX1_meanOf_5 rfl (lv_at hl 0 rfl) ?_
      refine g_get (x := .ref (eAd E (8 + i))) F hH inX1 (hE.1 _ (by have := hi; omega)) (cq_ld E _ hi) rfl 2 (by decide) (hts (.fieldLink RX1 22 "DryingKiln$Load" "boards" "Ljava/util/ArrayList;") (by decide +kernel)) (fun _ h => h) rfl dX1_meanOf_6 ?_
      refine g_vi (As := []) F hH (c_Jx4a65c_size_8abf5 l E hE v i (by first | assumption | omega | decide)) (cwV 0 hts gX1_meanOf_Jx4a65c_size_8abf5 rfl rfl rfl (by decide +kernel) ⟨Nat.le_of_ble_eq_true rfl, Nat.le_of_ble_eq_true rfl⟩) (hE.1 _ (by have := hi; omega)) (cq_li E _ hi) rfl rfl hl.1 [.int (nI t)] rfl (Nat.le_of_ble_eq_true rfl) dX1_meanOf_9 ⟨Nat.zero_le _, Nat.zero_le _⟩ (fun H locs hH => ?_)
      refine lv_icmp_ge (tgt := 47) hx hb dX1_meanOf_12 (by decide) (fun c2 => ?_) (fun c2 => ?_)
      · skip
        exact absurd c2 (nI_ge htN (by omega))
      · skip
        refine lv_iload_n hx hb dX1_meanOf_15 rfl (lv_at hl 1 rfl) ?_
        refine lv_iload_n hx hb dX1_meanOf_16 rfl (lv_at hl 3 rfl) ?_
        refine lv_ishr hx hb dX1_meanOf_17 ?_
        refine lv_iconst (v := 1) hx hb dX1_meanOf_18 (by decide) ?_
        refine lv_iand hx hb dX1_meanOf_19 ?_
        refine lv_iconst (v := 1) hx hb dX1_meanOf_20 (by decide) ?_
        refine lv_icmp_ne (tgt := 41) hx hb dX1_meanOf_21 (by decide) (fun c3 => ?_) (fun c3 => ?_)
        · skip
          refine lv_iinc (v := nI (t + 1)) (lv' := [(3, .int (nI (t + 1))), (0, .ref (eAd E (5 + i))), (1, .int a), (2, .int (lms E v i a t))]) hx hb dX1_meanOf_41 hl (k := 3) rfl (nI_1 _) (by decide) rfl (fun ls hl => ?_)
          refine lv_goto (tgt := 4) hx hb dX1_meanOf_44 (by decide) ?_
          exact ih (t + 1) (by omega) _ _ ls (by first | exact hH | (simp only [lms, c2, c3, if_true, if_false, ↓reduceIte]; exact hH)) (by first | exact lv_sub hl [1, 2, 3, 0] rfl | (have h := lv_sub hl [1, 2, 3, 0] rfl; simp only [lms, c2, c3, if_true, if_false, ↓reduceIte]; exact h))
        · skip
          refine lv_iload_n hx hb dX1_meanOf_24 rfl (lv_at hl 2 rfl) ?_
          refine lv_aload_n hx hb dX1_meanOf_25 rfl (lv_at hl 0 rfl) ?_
          refine g_get (x := .ref (eAd E (8 + i))) F hH inX1 (hE.1 _ (by have := hi; omega)) (cq_ld E _ hi) rfl 2 (by decide) (hts (.fieldLink RX1 22 "DryingKiln$Load" "boards" "Ljava/util/ArrayList;") (by decide +kernel)) (fun _ h => h) rfl dX1_meanOf_26 ?_
          refine lv_iload_n hx hb dX1_meanOf_29 rfl (lv_at hl 3 rfl) ?_
          refine g_vr (As := [.int (nI t)]) F hH (c_Jx4a65c_get_915e3 l E hE v i t (by first | assumption | omega | decide) (by first | assumption | omega | decide)) (cwV 1 hts gX1_meanOf_Jx4a65c_get_915e3 rfl rfl rfl (by decide +kernel) ⟨Nat.le_of_ble_eq_true rfl, Nat.le_of_ble_eq_true rfl⟩) (hE.1 _ (by have := hi; omega)) (cq_li E _ hi) rfl rfl hl.1 [.int (lms E v i a t)] rfl (Nat.le_of_ble_eq_true rfl) dX1_meanOf_30 ⟨Nat.zero_le _, Nat.zero_le _⟩ (fun H locs hH => ?_)
          refine g_cast F hH (hE.2.2.2.1 i t hi (by omega)).1 (cq_bo E _ (by omega)) (by rfl) (hts (.classLink RX1 34 "DryingKiln$Board") (by decide +kernel)) dX1_meanOf_33 ?_
          refine g_vi (As := []) F hH (c_X0_average l E hE v i t (by first | assumption | omega | decide) (by first | assumption | omega | decide)) (cwV 0 hts gX1_meanOf_X0_average rfl rfl rfl (by decide +kernel) ⟨Nat.le_of_ble_eq_true rfl, Nat.le_of_ble_eq_true rfl⟩) (hE.2.2.2.1 i t hi (by omega)).1 (cq_bo E _ (by omega)) rfl rfl hl.1 [.int (lms E v i a t)] rfl (Nat.le_of_ble_eq_true rfl) dX1_meanOf_36 ⟨Nat.zero_le _, Nat.zero_le _⟩ (fun H locs hH => ?_)
          refine lv_iadd hx hb dX1_meanOf_39 ?_
          refine lv_istore_n (lv' := [(2, .int ((lms E v i a t) + (lavg E v i t))), (0, .ref (eAd E (5 + i))), (1, .int a), (3, .int (nI t))]) hx hb dX1_meanOf_40 rfl hl (by decide) rfl (fun ls hl => ?_)
          refine lv_iinc (v := nI (t + 1)) (lv' := [(3, .int (nI (t + 1))), (2, .int ((lms E v i a t) + (lavg E v i t))), (0, .ref (eAd E (5 + i))), (1, .int a)]) hx hb dX1_meanOf_41 hl (k := 3) rfl (nI_1 _) (by decide) rfl (fun ls hl => ?_)
          refine lv_goto (tgt := 4) hx hb dX1_meanOf_44 (by decide) ?_
          exact ih (t + 1) (by omega) _ _ ls (by first | exact hH | (simp only [lms, c2, c3, if_true, if_false, ↓reduceIte]; exact hH)) (by first | exact lv_sub hl [2, 3, 1, 0] rfl | (have h := lv_sub hl [2, 3, 1, 0] rfl; simp only [lms, c2, c3, if_true, if_false, ↓reduceIte]; exact h))
  exact loop4 (eNb E i) 0 (Nat.zero_add _) _ _ ls hH (lv_sub hl [2, 3, 1, 0] rfl)

set_option maxHeartbeats 4000000 in
set_option maxRecDepth 100000 in
theorem c_X1_countDryingHour (l : Launch) (E : Ev) (hE : EO E) (v : Mem) (i : Nat) (q : Int32) (hi : i < 3) : Cv l yX1_countDryingHour wsX1_countDryingHour ({ frames := 0, cells := 0, slots := 0, locals := 0 } : Room) E [.ref (eAd E (5 + i)), .int q] v (lcnt i q v) := by
  refine Cv.of (cc := cX1_countDryingHour) (maxL := 2) (ret := none) (own := RX1) (by decide) rfl rfl (Nat.le_of_ble_eq_true rfl) ?_
  intro p e s m below meth c F hr hlk ls hl hH
  obtain ⟨hx, hb, hml, hown, hts⟩ := id F.1
  have hl : lv_has ls 2 [(0, .ref (eAd E (5 + i))), (1, .int q)] := hl
  have inX1 : ∀ w ∈ wsX10, w ∈ wsX1_countDryingHour := fun w h => List.mem_cons_of_mem _ (List.mem_append_right _ h)
  refine lv_aload_n hx hb dX1_countDryingHour_0 rfl (lv_at hl 0 rfl) ?_
  refine lv_dup hx hb dX1_countDryingHour_1 rfl ?_
  refine g_get (x := .int (v (5 + i) 1)) F hH inX1 (hE.1 _ (by have := hi; omega)) (cq_ld E _ hi) rfl 1 (by decide) (hts (.fieldLink RX1 15 "DryingKiln$Load" "dryingHours" "I") (by decide +kernel)) (fun _ h => h) rfl dX1_countDryingHour_2 ?_
  refine lv_iconst (v := 1) hx hb dX1_countDryingHour_5 (by decide) ?_
  refine lv_iadd hx hb dX1_countDryingHour_6 ?_
  refine g_put (ty := .int) (x := (v (5 + i) 1) + 1) F hH inX1 tyX1 tyX1_ok nmX1 (hE.1 _ (by have := hi; omega)) (cq_ld E _ hi) rfl 1 (by decide) (hts (.fieldLink RX1 15 "DryingKiln$Load" "dryingHours" "I") (by decide +kernel)) (fun _ h => h) rfl (by decide +kernel) rfl rfl (Nat.le_of_ble_eq_true rfl) (cq_ld E _ hi) dX1_countDryingHour_7 (fun H locs hH => ?_)
  refine lv_iload_n hx hb dX1_countDryingHour_10 rfl (lv_at hl 1 rfl) ?_
  refine lv_if_le (tgt := 39) hx hb dX1_countDryingHour_11 (by decide) (fun c1 => ?_) (fun c1 => ?_)
  · skip
    exact g_vret F hr hlk hH (by first | rfl | (simp only [lcnt, ntg, c1, if_true, if_false, ↓reduceIte]; done) | (simp only [lcnt, ntg, c1, if_true, if_false, ↓reduceIte]; rfl)) dX1_countDryingHour_39
  · skip
    refine lv_aload_n hx hb dX1_countDryingHour_14 rfl (lv_at hl 0 rfl) ?_
    refine g_get (x := .int ((st v (5 + i) 1 ((v (5 + i) 1) + 1)) (5 + i) 1)) F hH inX1 (hE.1 _ (by have := hi; omega)) (cq_ld E _ hi) rfl 1 (by decide) (hts (.fieldLink RX1 15 "DryingKiln$Load" "dryingHours" "I") (by decide +kernel)) (fun _ h => h) rfl dX1_countDryingHour_15 ?_
    rw [show (st v (5 + i) 1 ((v (5 + i) 1) + 1)) (5 + i) 1 = (v (5 + i) 1) + 1 by rw [st_at]]
    refine lv_iload_n hx hb dX1_countDryingHour_18 rfl (lv_at hl 1 rfl) ?_
    refine lv_irem hx hb dX1_countDryingHour_19 (fun h => c1 (by rw [h]; decide)) ?_
    refine lv_if_ne (tgt := 39) hx hb dX1_countDryingHour_20 (by decide) (fun c2 => ?_) (fun c2 => ?_)
    · skip
      exact g_vret F hr hlk hH (by first | rfl | (simp only [lcnt, ntg, c1, c2, if_true, if_false, ↓reduceIte]; done) | (simp only [lcnt, ntg, c1, c2, if_true, if_false, ↓reduceIte]; rfl)) dX1_countDryingHour_39
    · skip
      refine lv_aload_n hx hb dX1_countDryingHour_23 rfl (lv_at hl 0 rfl) ?_
      refine lv_aload_n hx hb dX1_countDryingHour_24 rfl (lv_at hl 0 rfl) ?_
      refine g_get (x := .int ((st v (5 + i) 1 ((v (5 + i) 1) + 1)) (5 + i) 0)) F hH inX1 (hE.1 _ (by have := hi; omega)) (cq_ld E _ hi) rfl 0 (by decide) (hts (.fieldLink RX1 9 "DryingKiln$Load" "reversed" "Z") (by decide +kernel)) (fun _ h => h) rfl dX1_countDryingHour_25 ?_
      rw [show (st v (5 + i) 1 ((v (5 + i) 1) + 1)) (5 + i) 0 = v (5 + i) 0 by rw [st_nj _ _ _ (by decide)]]
      refine lv_if_ne (tgt := 35) hx hb dX1_countDryingHour_28 (by decide) (fun c3 => ?_) (fun c3 => ?_)
      · skip
        refine lv_iconst (v := 0) hx hb dX1_countDryingHour_35 (by decide) ?_
        refine g_put (ty := .boolean) (x := 0) F hH inX1 tyX1 tyX1_ok nmX1 (hE.1 _ (by have := hi; omega)) (cq_ld E _ hi) rfl 0 (by decide) (hts (.fieldLink RX1 9 "DryingKiln$Load" "reversed" "Z") (by decide +kernel)) (fun _ h => h) rfl (by decide +kernel) rfl rfl (Nat.le_of_ble_eq_true rfl) (cq_ld E _ hi) dX1_countDryingHour_36 (fun H locs hH => ?_)
        exact g_vret F hr hlk hH (by first | rfl | (simp only [lcnt, ntg, c1, c2, c3, if_true, if_false, ↓reduceIte]; done) | (simp only [lcnt, ntg, c1, c2, c3, if_true, if_false, ↓reduceIte]; rfl)) dX1_countDryingHour_39
      · skip
        refine lv_iconst (v := 1) hx hb dX1_countDryingHour_31 (by decide) ?_
        refine lv_goto (tgt := 36) hx hb dX1_countDryingHour_32 (by decide) ?_
        refine g_put (ty := .boolean) (x := 1) F hH inX1 tyX1 tyX1_ok nmX1 (hE.1 _ (by have := hi; omega)) (cq_ld E _ hi) rfl 0 (by decide) (hts (.fieldLink RX1 9 "DryingKiln$Load" "reversed" "Z") (by decide +kernel)) (fun _ h => h) rfl (by decide +kernel) rfl rfl (Nat.le_of_ble_eq_true rfl) (cq_ld E _ hi) dX1_countDryingHour_36 (fun H locs hH => ?_)
        exact g_vret F hr hlk hH (by first | rfl | (simp only [lcnt, ntg, c1, c2, c3, if_true, if_false, ↓reduceIte]; done) | (simp only [lcnt, ntg, c1, c2, c3, if_true, if_false, ↓reduceIte]; rfl)) dX1_countDryingHour_39

set_option maxHeartbeats 4000000 in
set_option maxRecDepth 100000 in
theorem c_X1_passDryingHour (l : Launch) (E : Ev) (hE : EO E) (v : Mem) (i : Nat) (a : Int32) (hi : i < 3) : Ci l yX1_passDryingHour wsX1_passDryingHour ({ frames := 3, cells := 0, slots := 0, locals := 64 } : Room) E [.ref (eAd E (5 + i)), .int a, .ref (eAd E 1)] v (lgiv E i a v) (ldry E i a v) := by
  refine Ci.of (cc := cX1_passDryingHour) (maxL := 7) (ret := (some .int)) (own := RX1) (by decide) rfl rfl (Nat.le_of_ble_eq_true rfl) ?_
  intro p e s m below meth c F hr hlk ls hl hH
  obtain ⟨hx, hb, hml, hown, hts⟩ := id F.1
  have hl : lv_has ls 7 [(0, .ref (eAd E (5 + i))), (1, .int a), (2, .ref (eAd E 1))] := hl
  have inJx4a65c : ∀ w ∈ wsJx4a65c0, w ∈ wsX1_passDryingHour := fun w h => List.mem_cons_of_mem _ (List.mem_append_left _ (List.mem_append_right _ h))
  have inX0 : ∀ w ∈ wsX00, w ∈ wsX1_passDryingHour := fun w h => List.mem_cons_of_mem _ (List.mem_append_right _ h)
  have inX1 : ∀ w ∈ wsX10, w ∈ wsX1_passDryingHour := fun w h => List.mem_cons_of_mem _ (List.mem_append_left _ (List.mem_append_left _ (List.mem_append_left _ (List.mem_append_right _ h))))
  have inX3 : ∀ w ∈ wsX30, w ∈ wsX1_passDryingHour := fun w h => List.mem_cons_of_mem _ (List.mem_append_left _ (List.mem_append_left _ (List.mem_append_right _ h)))
  have hnb := hE.2.2.2.2.1 i (by omega)
  refine lv_iconst (v := 0) hx hb dX1_passDryingHour_0 (by decide) ?_
  refine lv_istore_n (lv' := [(3, .int 0), (0, .ref (eAd E (5 + i))), (1, .int a), (2, .ref (eAd E 1))]) hx hb dX1_passDryingHour_1 rfl hl (by decide) rfl (fun ls hl => ?_)
  refine lv_iconst (v := 0) hx hb dX1_passDryingHour_2 (by decide) ?_
  refine lv_istore (lv' := [(4, .int 0), (3, .int 0), (0, .ref (eAd E (5 + i))), (1, .int a), (2, .ref (eAd E 1))]) hx hb dX1_passDryingHour_3 hl (by decide) rfl (fun ls hl => ?_)
  have loop5 : ∀ (n t : Nat), t + n = eNb E i → ∀ (H : Heap) (locs : List Loc) (ls : Array Slot), HS E s.heap ((ldp E i a v t).1) H locs → lv_has ls 7 [(0, .ref (eAd E (5 + i))), (1, .int a), (2, .ref (eAd E 1)), (3, .int ((ldp E i a v t).2)), (4, .int (nI t))] → W p l e ({ frames := 3, cells := 0, slots := 0, locals := 64 } : Room) s m ([.ref (eAd E (5 + i)), .int a, .ref (eAd E 1)] : List Value).toArray below meth c H locs 0 0 (Zi below E ([.ref (eAd E (5 + i)), .int a, .ref (eAd E 1)] : List Value).toArray s (lgiv E i a v) (ldry E i a v)) (F0 m 5 ls []) := by
    intro n
    induction n with
    | zero =>
      intro t ht H locs ls hH hl
      obtain rfl : eNb E i = t := by omega
      refine lv_iload hx hb dX1_passDryingHour_5 (lv_at hl 4 rfl) ?_
      refine lv_aload_n hx hb dX1_passDryingHour_7 rfl (lv_at hl 0 rfl) ?_
      refine g_get (x := .ref (eAd E (8 + i))) F hH inX1 (hE.1 _ (by have := hi; omega)) (cq_ld E _ hi) rfl 2 (by decide) (hts (.fieldLink RX1 22 "DryingKiln$Load" "boards" "Ljava/util/ArrayList;") (by decide +kernel)) (fun _ h => h) rfl dX1_passDryingHour_8 ?_
      refine g_vi (As := []) F hH (c_Jx4a65c_size_8abf5 l E hE ((ldp E i a v (eNb E i)).1) i (by first | assumption | omega | decide)) (cwV 0 hts gX1_passDryingHour_Jx4a65c_size_8abf5 rfl rfl rfl (by decide +kernel) ⟨Nat.le_of_ble_eq_true rfl, Nat.le_of_ble_eq_true rfl⟩) (hE.1 _ (by have := hi; omega)) (cq_li E _ hi) rfl rfl hl.1 [.int (nI (eNb E i))] rfl (Nat.le_of_ble_eq_true rfl) dX1_passDryingHour_11 ⟨Nat.zero_le _, Nat.zero_le _⟩ (fun H locs hH => ?_)
      refine lv_icmp_ge (tgt := 86) hx hb dX1_passDryingHour_14 (by decide) (fun c1 => ?_) (fun c1 => ?_)
      · skip
        refine lv_aload_n hx hb dX1_passDryingHour_86 rfl (lv_at hl 0 rfl) ?_
        refine lv_aload_n hx hb dX1_passDryingHour_87 rfl (lv_at hl 2 rfl) ?_
        refine g_get (x := .int (((ldp E i a v (eNb E i)).1) 1 5)) F hH inX3 (hE.1 1 (by decide)) (cq_set E _) rfl 5 (by decide) (hts (.fieldLink RX1 81 "DryingKiln$Settings" "reversalPeriod" "I") (by decide +kernel)) (fun _ h => h) rfl dX1_passDryingHour_88 ?_
        refine g_vv (As := [.int (((ldp E i a v (eNb E i)).1) 1 5)]) F hH (c_X1_countDryingHour l E hE ((ldp E i a v (eNb E i)).1) i (((ldp E i a v (eNb E i)).1) 1 5) (by first | assumption | omega | decide)) (cwV 1 hts gX1_passDryingHour_X1_countDryingHour rfl rfl rfl (by decide +kernel) ⟨Nat.le_of_ble_eq_true rfl, Nat.le_of_ble_eq_true rfl⟩) (hE.1 _ (by have := hi; omega)) (cq_ld E _ hi) rfl rfl hl.1 [] rfl (Nat.le_of_ble_eq_true rfl) dX1_passDryingHour_91 ⟨Nat.zero_le _, Nat.zero_le _⟩ (fun H locs hH => ?_)
        refine lv_iload_n hx hb dX1_passDryingHour_94 rfl (lv_at hl 3 rfl) ?_
        exact g_iret F hr hlk hH rfl rfl dX1_passDryingHour_95
      · skip
        exact absurd (nI_le (Nat.le_refl _) (by omega)) c1
    | succ n ih =>
      intro t ht H locs ls hH hl
      have htN : t < eNb E i := by omega
      refine lv_iload hx hb dX1_passDryingHour_5 (lv_at hl 4 rfl) ?_
      refine lv_aload_n hx hb dX1_passDryingHour_7 rfl (lv_at hl 0 rfl) ?_
      refine g_get (x := .ref (eAd E (8 + i))) F hH inX1 (hE.1 _ (by have := hi; omega)) (cq_ld E _ hi) rfl 2 (by decide) (hts (.fieldLink RX1 22 "DryingKiln$Load" "boards" "Ljava/util/ArrayList;") (by decide +kernel)) (fun _ h => h) rfl dX1_passDryingHour_8 ?_
      refine g_vi (As := []) F hH (c_Jx4a65c_size_8abf5 l E hE ((ldp E i a v t).1) i (by first | assumption | omega | decide)) (cwV 0 hts gX1_passDryingHour_Jx4a65c_size_8abf5 rfl rfl rfl (by decide +kernel) ⟨Nat.le_of_ble_eq_true rfl, Nat.le_of_ble_eq_true rfl⟩) (hE.1 _ (by have := hi; omega)) (cq_li E _ hi) rfl rfl hl.1 [.int (nI t)] rfl (Nat.le_of_ble_eq_true rfl) dX1_passDryingHour_11 ⟨Nat.zero_le _, Nat.zero_le _⟩ (fun H locs hH => ?_)
      refine lv_icmp_ge (tgt := 86) hx hb dX1_passDryingHour_14 (by decide) (fun c2 => ?_) (fun c2 => ?_)
      · skip
        exact absurd c2 (nI_ge htN (by omega))
      · skip
        refine lv_aload_n hx hb dX1_passDryingHour_17 rfl (lv_at hl 0 rfl) ?_
        refine g_get (x := .int (((ldp E i a v t).1) (5 + i) 0)) F hH inX1 (hE.1 _ (by have := hi; omega)) (cq_ld E _ hi) rfl 0 (by decide) (hts (.fieldLink RX1 9 "DryingKiln$Load" "reversed" "Z") (by decide +kernel)) (fun _ h => h) rfl dX1_passDryingHour_18 ?_
        refine lv_if_eq (tgt := 39) hx hb dX1_passDryingHour_21 (by decide) (fun c3 => ?_) (fun c3 => ?_)
        · skip
          refine lv_iload hx hb dX1_passDryingHour_39 (lv_at hl 4 rfl) ?_
          refine lv_istore (lv' := [(5, .int (nI t)), (0, .ref (eAd E (5 + i))), (1, .int a), (2, .ref (eAd E 1)), (3, .int ((ldp E i a v t).2)), (4, .int (nI t))]) hx hb dX1_passDryingHour_41 hl (by decide) rfl (fun ls hl => ?_)
          refine lv_iconst (v := 0) hx hb dX1_passDryingHour_43 (by decide) ?_
          refine lv_iload_n hx hb dX1_passDryingHour_44 rfl (lv_at hl 2 rfl) ?_
          refine lv_iload_n hx hb dX1_passDryingHour_45 rfl (lv_at hl 4 rfl) ?_
          refine lv_aload_n hx hb dX1_passDryingHour_46 rfl (lv_at hl 3 rfl) ?_
          refine g_get (x := .int (((ldp E i a v t).1) 1 2)) F hH inX3 (hE.1 1 (by decide)) (cq_set E _) rfl 2 (by decide) (hts (.fieldLink RX1 72 "DryingKiln$Settings" "capacity" "I") (by decide +kernel)) (fun _ h => h) rfl dX1_passDryingHour_47 ?_
          refine g_sni (As := [.int ((ldp E i a v t).2), .int (((ldp E i a v t).1) 1 2)]) F hH (c_X4_quotient l E hE ((ldp E i a v t).1) ((ldp E i a v t).2) (((ldp E i a v t).1) 1 2)) ⟨va_cnB 2 hts gX1_passDryingHour_X4_quotient_n69 rfl rfl rfl F.2.2.2.1.2.1 (hts (.initialized RX4) (by decide +kernel)) (by decide +kernel) ⟨Nat.le_of_ble_eq_true rfl, Nat.le_of_ble_eq_true rfl⟩, (hts (.static yX4_quotient) (by decide +kernel)), trivial⟩ rfl hl.1 [.int a, .int 0] rfl (Nat.le_of_ble_eq_true rfl) dX1_passDryingHour_50 ⟨Nat.zero_le _, Nat.zero_le _⟩ (fun H locs hH => ?_)
          refine lv_iadd hx hb dX1_passDryingHour_53 ?_
          refine va_mmax hx hb (by rw [hml]; exact hl.1.symm) hown (hts (.methodLink RX1 51 Lib.Math.max.name) (by decide +kernel)) (hts (.static Lib.Math.max.name) (by decide +kernel)) (hts (.initialized "java/lang/Math") (by decide +kernel)) (hts (.code Lib.Math.max.name Lib.Math.max.code 2 (some .int)) (by decide +kernel)) (Nat.le_of_ble_eq_true rfl) (Nat.le_of_ble_eq_true rfl) (Nat.zero_le _) (Nat.zero_le _) dX1_passDryingHour_54 ?_
          rw [← imx_eq 0 (a + (quo ((ldp E i a v t).2) (((ldp E i a v t).1) 1 2)))]
          refine lv_istore (lv' := [(6, .int (imx 0 (a + (quo ((ldp E i a v t).2) (((ldp E i a v t).1) 1 2))))), (5, .int (nI t)), (0, .ref (eAd E (5 + i))), (1, .int a), (2, .ref (eAd E 1)), (3, .int ((ldp E i a v t).2)), (4, .int (nI t))]) hx hb dX1_passDryingHour_57 hl (by decide) rfl (fun ls hl => ?_)
          refine lv_iload_n hx hb dX1_passDryingHour_59 rfl (lv_at hl 5 rfl) ?_
          refine lv_aload_n hx hb dX1_passDryingHour_60 rfl (lv_at hl 2 rfl) ?_
          refine g_get (x := .ref (eAd E (8 + i))) F hH inX1 (hE.1 _ (by have := hi; omega)) (cq_ld E _ hi) rfl 2 (by decide) (hts (.fieldLink RX1 22 "DryingKiln$Load" "boards" "Ljava/util/ArrayList;") (by decide +kernel)) (fun _ h => h) rfl dX1_passDryingHour_61 ?_
          refine lv_iload hx hb dX1_passDryingHour_64 (lv_at hl 1 rfl) ?_
          refine g_vr (As := [.int (nI t)]) F hH (c_Jx4a65c_get_915e3 l E hE ((ldp E i a v t).1) i t (by first | assumption | omega | decide) (by first | assumption | omega | decide)) (cwV 1 hts gX1_passDryingHour_Jx4a65c_get_915e3 rfl rfl rfl (by decide +kernel) ⟨Nat.le_of_ble_eq_true rfl, Nat.le_of_ble_eq_true rfl⟩) (hE.1 _ (by have := hi; omega)) (cq_li E _ hi) rfl rfl hl.1 [.int ((ldp E i a v t).2)] rfl (Nat.le_of_ble_eq_true rfl) dX1_passDryingHour_66 ⟨Nat.zero_le _, Nat.zero_le _⟩ (fun H locs hH => ?_)
          refine g_cast F hH (hE.2.2.2.1 i t hi (by omega)).1 (cq_bo E _ (by omega)) (by rfl) (hts (.classLink RX1 34 "DryingKiln$Board") (by decide +kernel)) dX1_passDryingHour_69 ?_
          refine lv_iload hx hb dX1_passDryingHour_72 (lv_at hl 0 rfl) ?_
          refine lv_aload_n hx hb dX1_passDryingHour_74 rfl (lv_at hl 4 rfl) ?_
          refine g_vi (As := [.int (imx 0 (a + (quo ((ldp E i a v t).2) (((ldp E i a v t).1) 1 2)))), .ref (eAd E 1)]) F hH (c_X0_passDryingHour l E hE ((ldp E i a v t).1) i t (imx 0 (a + (quo ((ldp E i a v t).2) (((ldp E i a v t).1) 1 2)))) (by first | assumption | omega | decide) (by first | assumption | omega | decide)) (cwV 2 hts gX1_passDryingHour_X0_passDryingHour rfl rfl rfl (by decide +kernel) ⟨Nat.le_of_ble_eq_true rfl, Nat.le_of_ble_eq_true rfl⟩) (hE.2.2.2.1 i t hi (by omega)).1 (cq_bo E _ (by omega)) rfl rfl hl.1 [.int ((ldp E i a v t).2)] rfl (Nat.le_of_ble_eq_true rfl) dX1_passDryingHour_75 ⟨Nat.zero_le _, Nat.zero_le _⟩ (fun H locs hH => ?_)
          refine lv_iadd hx hb dX1_passDryingHour_78 ?_
          refine lv_istore_n (lv' := [(3, .int (((ldp E i a v t).2) + (btop E i t (imx 0 (a + (quo ((ldp E i a v t).2) (((ldp E i a v t).1) 1 2)))) ((ldp E i a v t).1) + bbot E i t (imx 0 (a + (quo ((ldp E i a v t).2) (((ldp E i a v t).1) 1 2)))) ((ldp E i a v t).1)))), (6, .int (imx 0 (a + (quo ((ldp E i a v t).2) (((ldp E i a v t).1) 1 2))))), (5, .int (nI t)), (0, .ref (eAd E (5 + i))), (1, .int a), (2, .ref (eAd E 1)), (4, .int (nI t))]) hx hb dX1_passDryingHour_79 rfl hl (by decide) rfl (fun ls hl => ?_)
          refine lv_iinc (v := nI (t + 1)) (lv' := [(4, .int (nI (t + 1))), (3, .int (((ldp E i a v t).2) + (btop E i t (imx 0 (a + (quo ((ldp E i a v t).2) (((ldp E i a v t).1) 1 2)))) ((ldp E i a v t).1) + bbot E i t (imx 0 (a + (quo ((ldp E i a v t).2) (((ldp E i a v t).1) 1 2)))) ((ldp E i a v t).1)))), (6, .int (imx 0 (a + (quo ((ldp E i a v t).2) (((ldp E i a v t).1) 1 2))))), (5, .int (nI t)), (0, .ref (eAd E (5 + i))), (1, .int a), (2, .ref (eAd E 1))]) hx hb dX1_passDryingHour_80 hl (k := 6) rfl (nI_1 _) (by decide) rfl (fun ls hl => ?_)
          refine lv_goto (tgt := 5) hx hb dX1_passDryingHour_83 (by decide) ?_
          exact ih (t + 1) (by omega) _ _ ls (by first | exact hH | (simp only [ldp, lnum, lair, c2, c3, if_true, if_false, ↓reduceIte]; exact hH)) (by first | exact lv_sub hl [4, 5, 6, 1, 0] rfl | (have h := lv_sub hl [4, 5, 6, 1, 0] rfl; simp only [ldp, lnum, lair, c2, c3, if_true, if_false, ↓reduceIte]; exact h))
        · skip
          refine lv_aload_n hx hb dX1_passDryingHour_24 rfl (lv_at hl 0 rfl) ?_
          refine g_get (x := .ref (eAd E (8 + i))) F hH inX1 (hE.1 _ (by have := hi; omega)) (cq_ld E _ hi) rfl 2 (by decide) (hts (.fieldLink RX1 22 "DryingKiln$Load" "boards" "Ljava/util/ArrayList;") (by decide +kernel)) (fun _ h => h) rfl dX1_passDryingHour_25 ?_
          refine g_vi (As := []) F hH (c_Jx4a65c_size_8abf5 l E hE ((ldp E i a v t).1) i (by first | assumption | omega | decide)) (cwV 0 hts gX1_passDryingHour_Jx4a65c_size_8abf5 rfl rfl rfl (by decide +kernel) ⟨Nat.le_of_ble_eq_true rfl, Nat.le_of_ble_eq_true rfl⟩) (hE.1 _ (by have := hi; omega)) (cq_li E _ hi) rfl rfl hl.1 [] rfl (Nat.le_of_ble_eq_true rfl) dX1_passDryingHour_28 ⟨Nat.zero_le _, Nat.zero_le _⟩ (fun H locs hH => ?_)
          refine lv_iconst (v := 1) hx hb dX1_passDryingHour_31 (by decide) ?_
          refine lv_isub hx hb dX1_passDryingHour_32 ?_
          rw [show (nI (eNb E i)) - 1 = nI (eNb E i - 1) from nI_m1 (by omega)]
          refine lv_iload hx hb dX1_passDryingHour_33 (lv_at hl 4 rfl) ?_
          refine lv_isub hx hb dX1_passDryingHour_35 ?_
          rw [show (nI (eNb E i - 1)) - (nI t) = nI (eNb E i - 1 - t) from pk_sub (by omega)]
          refine lv_goto (tgt := 41) hx hb dX1_passDryingHour_36 (by decide) ?_
          refine lv_istore (lv' := [(5, .int (nI (eNb E i - 1 - t))), (0, .ref (eAd E (5 + i))), (1, .int a), (2, .ref (eAd E 1)), (3, .int ((ldp E i a v t).2)), (4, .int (nI t))]) hx hb dX1_passDryingHour_41 hl (by decide) rfl (fun ls hl => ?_)
          refine lv_iconst (v := 0) hx hb dX1_passDryingHour_43 (by decide) ?_
          refine lv_iload_n hx hb dX1_passDryingHour_44 rfl (lv_at hl 2 rfl) ?_
          refine lv_iload_n hx hb dX1_passDryingHour_45 rfl (lv_at hl 4 rfl) ?_
          refine lv_aload_n hx hb dX1_passDryingHour_46 rfl (lv_at hl 3 rfl) ?_
          refine g_get (x := .int (((ldp E i a v t).1) 1 2)) F hH inX3 (hE.1 1 (by decide)) (cq_set E _) rfl 2 (by decide) (hts (.fieldLink RX1 72 "DryingKiln$Settings" "capacity" "I") (by decide +kernel)) (fun _ h => h) rfl dX1_passDryingHour_47 ?_
          refine g_sni (As := [.int ((ldp E i a v t).2), .int (((ldp E i a v t).1) 1 2)]) F hH (c_X4_quotient l E hE ((ldp E i a v t).1) ((ldp E i a v t).2) (((ldp E i a v t).1) 1 2)) ⟨va_cnB 2 hts gX1_passDryingHour_X4_quotient_n69 rfl rfl rfl F.2.2.2.1.2.1 (hts (.initialized RX4) (by decide +kernel)) (by decide +kernel) ⟨Nat.le_of_ble_eq_true rfl, Nat.le_of_ble_eq_true rfl⟩, (hts (.static yX4_quotient) (by decide +kernel)), trivial⟩ rfl hl.1 [.int a, .int 0] rfl (Nat.le_of_ble_eq_true rfl) dX1_passDryingHour_50 ⟨Nat.zero_le _, Nat.zero_le _⟩ (fun H locs hH => ?_)
          refine lv_iadd hx hb dX1_passDryingHour_53 ?_
          refine va_mmax hx hb (by rw [hml]; exact hl.1.symm) hown (hts (.methodLink RX1 51 Lib.Math.max.name) (by decide +kernel)) (hts (.static Lib.Math.max.name) (by decide +kernel)) (hts (.initialized "java/lang/Math") (by decide +kernel)) (hts (.code Lib.Math.max.name Lib.Math.max.code 2 (some .int)) (by decide +kernel)) (Nat.le_of_ble_eq_true rfl) (Nat.le_of_ble_eq_true rfl) (Nat.zero_le _) (Nat.zero_le _) dX1_passDryingHour_54 ?_
          rw [← imx_eq 0 (a + (quo ((ldp E i a v t).2) (((ldp E i a v t).1) 1 2)))]
          refine lv_istore (lv' := [(6, .int (imx 0 (a + (quo ((ldp E i a v t).2) (((ldp E i a v t).1) 1 2))))), (5, .int (nI (eNb E i - 1 - t))), (0, .ref (eAd E (5 + i))), (1, .int a), (2, .ref (eAd E 1)), (3, .int ((ldp E i a v t).2)), (4, .int (nI t))]) hx hb dX1_passDryingHour_57 hl (by decide) rfl (fun ls hl => ?_)
          refine lv_iload_n hx hb dX1_passDryingHour_59 rfl (lv_at hl 5 rfl) ?_
          refine lv_aload_n hx hb dX1_passDryingHour_60 rfl (lv_at hl 2 rfl) ?_
          refine g_get (x := .ref (eAd E (8 + i))) F hH inX1 (hE.1 _ (by have := hi; omega)) (cq_ld E _ hi) rfl 2 (by decide) (hts (.fieldLink RX1 22 "DryingKiln$Load" "boards" "Ljava/util/ArrayList;") (by decide +kernel)) (fun _ h => h) rfl dX1_passDryingHour_61 ?_
          refine lv_iload hx hb dX1_passDryingHour_64 (lv_at hl 1 rfl) ?_
          refine g_vr (As := [.int (nI (eNb E i - 1 - t))]) F hH (c_Jx4a65c_get_915e3 l E hE ((ldp E i a v t).1) i (eNb E i - 1 - t) (by first | assumption | omega | decide) (by first | assumption | omega | decide)) (cwV 1 hts gX1_passDryingHour_Jx4a65c_get_915e3 rfl rfl rfl (by decide +kernel) ⟨Nat.le_of_ble_eq_true rfl, Nat.le_of_ble_eq_true rfl⟩) (hE.1 _ (by have := hi; omega)) (cq_li E _ hi) rfl rfl hl.1 [.int ((ldp E i a v t).2)] rfl (Nat.le_of_ble_eq_true rfl) dX1_passDryingHour_66 ⟨Nat.zero_le _, Nat.zero_le _⟩ (fun H locs hH => ?_)
          refine g_cast F hH (hE.2.2.2.1 i (eNb E i - 1 - t) hi (by omega)).1 (cq_bo E _ (by omega)) (by rfl) (hts (.classLink RX1 34 "DryingKiln$Board") (by decide +kernel)) dX1_passDryingHour_69 ?_
          refine lv_iload hx hb dX1_passDryingHour_72 (lv_at hl 0 rfl) ?_
          refine lv_aload_n hx hb dX1_passDryingHour_74 rfl (lv_at hl 4 rfl) ?_
          refine g_vi (As := [.int (imx 0 (a + (quo ((ldp E i a v t).2) (((ldp E i a v t).1) 1 2)))), .ref (eAd E 1)]) F hH (c_X0_passDryingHour l E hE ((ldp E i a v t).1) i (eNb E i - 1 - t) (imx 0 (a + (quo ((ldp E i a v t).2) (((ldp E i a v t).1) 1 2)))) (by first | assumption | omega | decide) (by first | assumption | omega | decide)) (cwV 2 hts gX1_passDryingHour_X0_passDryingHour rfl rfl rfl (by decide +kernel) ⟨Nat.le_of_ble_eq_true rfl, Nat.le_of_ble_eq_true rfl⟩) (hE.2.2.2.1 i (eNb E i - 1 - t) hi (by omega)).1 (cq_bo E _ (by omega)) rfl rfl hl.1 [.int ((ldp E i a v t).2)] rfl (Nat.le_of_ble_eq_true rfl) dX1_passDryingHour_75 ⟨Nat.zero_le _, Nat.zero_le _⟩ (fun H locs hH => ?_)
          refine lv_iadd hx hb dX1_passDryingHour_78 ?_
          refine lv_istore_n (lv' := [(3, .int (((ldp E i a v t).2) + (btop E i (eNb E i - 1 - t) (imx 0 (a + (quo ((ldp E i a v t).2) (((ldp E i a v t).1) 1 2)))) ((ldp E i a v t).1) + bbot E i (eNb E i - 1 - t) (imx 0 (a + (quo ((ldp E i a v t).2) (((ldp E i a v t).1) 1 2)))) ((ldp E i a v t).1)))), (6, .int (imx 0 (a + (quo ((ldp E i a v t).2) (((ldp E i a v t).1) 1 2))))), (5, .int (nI (eNb E i - 1 - t))), (0, .ref (eAd E (5 + i))), (1, .int a), (2, .ref (eAd E 1)), (4, .int (nI t))]) hx hb dX1_passDryingHour_79 rfl hl (by decide) rfl (fun ls hl => ?_)
          refine lv_iinc (v := nI (t + 1)) (lv' := [(4, .int (nI (t + 1))), (3, .int (((ldp E i a v t).2) + (btop E i (eNb E i - 1 - t) (imx 0 (a + (quo ((ldp E i a v t).2) (((ldp E i a v t).1) 1 2)))) ((ldp E i a v t).1) + bbot E i (eNb E i - 1 - t) (imx 0 (a + (quo ((ldp E i a v t).2) (((ldp E i a v t).1) 1 2)))) ((ldp E i a v t).1)))), (6, .int (imx 0 (a + (quo ((ldp E i a v t).2) (((ldp E i a v t).1) 1 2))))), (5, .int (nI (eNb E i - 1 - t))), (0, .ref (eAd E (5 + i))), (1, .int a), (2, .ref (eAd E 1))]) hx hb dX1_passDryingHour_80 hl (k := 6) rfl (nI_1 _) (by decide) rfl (fun ls hl => ?_)
          refine lv_goto (tgt := 5) hx hb dX1_passDryingHour_83 (by decide) ?_
          exact ih (t + 1) (by omega) _ _ ls (by first | exact hH | (simp only [ldp, lnum, lair, c2, c3, if_true, if_false, ↓reduceIte]; exact hH)) (by first | exact lv_sub hl [4, 5, 6, 1, 0] rfl | (have h := lv_sub hl [4, 5, 6, 1, 0] rfl; simp only [ldp, lnum, lair, c2, c3, if_true, if_false, ↓reduceIte]; exact h))
  exact loop5 (eNb E i) 0 (Nat.zero_add _) _ _ ls hH (lv_sub hl [2, 3, 4, 1, 0] rfl)

set_option maxHeartbeats 4000000 in
set_option maxRecDepth 100000 in
theorem c_X1_passRestHour (l : Launch) (E : Ev) (hE : EO E) (v : Mem) (i : Nat) (hi : i < 3) : Cv l yX1_passRestHour wsX1_passRestHour ({ frames := 3, cells := 0, slots := 0, locals := 64 } : Room) E [.ref (eAd E (5 + i)), .ref (eAd E 1)] v (lrst E i v) := by
  refine Cv.of (cc := cX1_passRestHour) (maxL := 3) (ret := none) (own := RX1) (by decide) rfl rfl (Nat.le_of_ble_eq_true rfl) ?_
  intro p e s m below meth c F hr hlk ls hl hH
  obtain ⟨hx, hb, hml, hown, hts⟩ := id F.1
  have hl : lv_has ls 3 [(0, .ref (eAd E (5 + i))), (1, .ref (eAd E 1))] := hl
  have inJx4a65c : ∀ w ∈ wsJx4a65c0, w ∈ wsX1_passRestHour := fun w h => List.mem_cons_of_mem _ (List.mem_append_left _ (List.mem_append_right _ h))
  have inX0 : ∀ w ∈ wsX00, w ∈ wsX1_passRestHour := fun w h => List.mem_cons_of_mem _ (List.mem_append_right _ h)
  have inX1 : ∀ w ∈ wsX10, w ∈ wsX1_passRestHour := fun w h => List.mem_cons_of_mem _ (List.mem_append_left _ (List.mem_append_left _ (List.mem_append_left _ (List.mem_append_right _ h))))
  have inX3 : ∀ w ∈ wsX30, w ∈ wsX1_passRestHour := fun w h => List.mem_cons_of_mem _ (List.mem_append_left _ (List.mem_append_left _ (List.mem_append_right _ h)))
  have hnb := hE.2.2.2.2.1 i (by omega)
  refine lv_iconst (v := 0) hx hb dX1_passRestHour_0 (by decide) ?_
  refine lv_istore_n (lv' := [(2, .int 0), (0, .ref (eAd E (5 + i))), (1, .ref (eAd E 1))]) hx hb dX1_passRestHour_1 rfl hl (by decide) rfl (fun ls hl => ?_)
  have loop2 : ∀ (n t : Nat), t + n = eNb E i → ∀ (H : Heap) (locs : List Loc) (ls : Array Slot), HS E s.heap (lrs E i v t) H locs → lv_has ls 3 [(0, .ref (eAd E (5 + i))), (1, .ref (eAd E 1)), (2, .int (nI t))] → W p l e ({ frames := 3, cells := 0, slots := 0, locals := 64 } : Room) s m ([.ref (eAd E (5 + i)), .ref (eAd E 1)] : List Value).toArray below meth c H locs 0 0 (Zv below E ([.ref (eAd E (5 + i)), .ref (eAd E 1)] : List Value).toArray s (lrst E i v)) (F0 m 2 ls []) := by
    intro n
    induction n with
    | zero =>
      intro t ht H locs ls hH hl
      obtain rfl : eNb E i = t := by omega
      refine lv_iload_n hx hb dX1_passRestHour_2 rfl (lv_at hl 2 rfl) ?_
      refine lv_aload_n hx hb dX1_passRestHour_3 rfl (lv_at hl 0 rfl) ?_
      refine g_get (x := .ref (eAd E (8 + i))) F hH inX1 (hE.1 _ (by have := hi; omega)) (cq_ld E _ hi) rfl 2 (by decide) (hts (.fieldLink RX1 22 "DryingKiln$Load" "boards" "Ljava/util/ArrayList;") (by decide +kernel)) (fun _ h => h) rfl dX1_passRestHour_4 ?_
      refine g_vi (As := []) F hH (c_Jx4a65c_size_8abf5 l E hE (lrs E i v (eNb E i)) i (by first | assumption | omega | decide)) (cwV 0 hts gX1_passRestHour_Jx4a65c_size_8abf5 rfl rfl rfl (by decide +kernel) ⟨Nat.le_of_ble_eq_true rfl, Nat.le_of_ble_eq_true rfl⟩) (hE.1 _ (by have := hi; omega)) (cq_li E _ hi) rfl rfl hl.1 [.int (nI (eNb E i))] rfl (Nat.le_of_ble_eq_true rfl) dX1_passRestHour_7 ⟨Nat.zero_le _, Nat.zero_le _⟩ (fun H locs hH => ?_)
      refine lv_icmp_ge (tgt := 37) hx hb dX1_passRestHour_10 (by decide) (fun c1 => ?_) (fun c1 => ?_)
      · skip
        exact g_vret F hr hlk hH rfl dX1_passRestHour_37
      · skip
        exact absurd (nI_le (Nat.le_refl _) (by omega)) c1
    | succ n ih =>
      intro t ht H locs ls hH hl
      have htN : t < eNb E i := by omega
      refine lv_iload_n hx hb dX1_passRestHour_2 rfl (lv_at hl 2 rfl) ?_
      refine lv_aload_n hx hb dX1_passRestHour_3 rfl (lv_at hl 0 rfl) ?_
      refine g_get (x := .ref (eAd E (8 + i))) F hH inX1 (hE.1 _ (by have := hi; omega)) (cq_ld E _ hi) rfl 2 (by decide) (hts (.fieldLink RX1 22 "DryingKiln$Load" "boards" "Ljava/util/ArrayList;") (by decide +kernel)) (fun _ h => h) rfl dX1_passRestHour_4 ?_
      refine g_vi (As := []) F hH (c_Jx4a65c_size_8abf5 l E hE (lrs E i v t) i (by first | assumption | omega | decide)) (cwV 0 hts gX1_passRestHour_Jx4a65c_size_8abf5 rfl rfl rfl (by decide +kernel) ⟨Nat.le_of_ble_eq_true rfl, Nat.le_of_ble_eq_true rfl⟩) (hE.1 _ (by have := hi; omega)) (cq_li E _ hi) rfl rfl hl.1 [.int (nI t)] rfl (Nat.le_of_ble_eq_true rfl) dX1_passRestHour_7 ⟨Nat.zero_le _, Nat.zero_le _⟩ (fun H locs hH => ?_)
      refine lv_icmp_ge (tgt := 37) hx hb dX1_passRestHour_10 (by decide) (fun c2 => ?_) (fun c2 => ?_)
      · skip
        exact absurd c2 (nI_ge htN (by omega))
      · skip
        refine lv_aload_n hx hb dX1_passRestHour_13 rfl (lv_at hl 0 rfl) ?_
        refine g_get (x := .ref (eAd E (8 + i))) F hH inX1 (hE.1 _ (by have := hi; omega)) (cq_ld E _ hi) rfl 2 (by decide) (hts (.fieldLink RX1 22 "DryingKiln$Load" "boards" "Ljava/util/ArrayList;") (by decide +kernel)) (fun _ h => h) rfl dX1_passRestHour_14 ?_
        refine lv_iload_n hx hb dX1_passRestHour_17 rfl (lv_at hl 2 rfl) ?_
        refine g_vr (As := [.int (nI t)]) F hH (c_Jx4a65c_get_915e3 l E hE (lrs E i v t) i t (by first | assumption | omega | decide) (by first | assumption | omega | decide)) (cwV 1 hts gX1_passRestHour_Jx4a65c_get_915e3 rfl rfl rfl (by decide +kernel) ⟨Nat.le_of_ble_eq_true rfl, Nat.le_of_ble_eq_true rfl⟩) (hE.1 _ (by have := hi; omega)) (cq_li E _ hi) rfl rfl hl.1 [] rfl (Nat.le_of_ble_eq_true rfl) dX1_passRestHour_18 ⟨Nat.zero_le _, Nat.zero_le _⟩ (fun H locs hH => ?_)
        refine g_cast F hH (hE.2.2.2.1 i t hi (by omega)).1 (cq_bo E _ (by omega)) (by rfl) (hts (.classLink RX1 34 "DryingKiln$Board") (by decide +kernel)) dX1_passRestHour_21 ?_
        refine lv_aload_n hx hb dX1_passRestHour_24 rfl (lv_at hl 1 rfl) ?_
        refine g_get (x := .int ((lrs E i v t) 1 0)) F hH inX3 (hE.1 1 (by decide)) (cq_set E _) rfl 0 (by decide) (hts (.fieldLink RX1 88 "DryingKiln$Settings" "diffusion" "I") (by decide +kernel)) (fun _ h => h) rfl dX1_passRestHour_25 ?_
        refine g_vv (As := [.int ((lrs E i v t) 1 0)]) F hH (c_X0_passRestHour l E hE (lrs E i v t) i t ((lrs E i v t) 1 0) (by first | assumption | omega | decide) (by first | assumption | omega | decide)) (cwV 1 hts gX1_passRestHour_X0_passRestHour rfl rfl rfl (by decide +kernel) ⟨Nat.le_of_ble_eq_true rfl, Nat.le_of_ble_eq_true rfl⟩) (hE.2.2.2.1 i t hi (by omega)).1 (cq_bo E _ (by omega)) rfl rfl hl.1 [] rfl (Nat.le_of_ble_eq_true rfl) dX1_passRestHour_28 ⟨Nat.zero_le _, Nat.zero_le _⟩ (fun H locs hH => ?_)
        refine lv_iinc (v := nI (t + 1)) (lv' := [(2, .int (nI (t + 1))), (0, .ref (eAd E (5 + i))), (1, .ref (eAd E 1))]) hx hb dX1_passRestHour_31 hl (k := 2) rfl (nI_1 _) (by decide) rfl (fun ls hl => ?_)
        refine lv_goto (tgt := 2) hx hb dX1_passRestHour_34 (by decide) ?_
        exact ih (t + 1) (by omega) _ _ ls (by first | exact hH | (simp only [c2, if_true, if_false, ↓reduceIte]; exact hH)) (by first | exact lv_sub hl [1, 2, 0] rfl | (have h := lv_sub hl [1, 2, 0] rfl; simp only [c2, if_true, if_false, ↓reduceIte]; exact h))
  exact loop2 (eNb E i) 0 (Nat.zero_add _) _ _ ls hH (lv_sub hl [1, 2, 0] rfl)

set_option maxHeartbeats 4000000 in
set_option maxRecDepth 100000 in
theorem c_X1_recordChecks (l : Launch) (E : Ev) (hE : EO E) (v : Mem) (i : Nat) (a : Int32) (b : Int32) (hi : i < 3) : Ci l yX1_recordChecks wsX1_recordChecks ({ frames := 3, cells := 0, slots := 0, locals := 64 } : Room) E [.ref (eAd E (5 + i)), .int a, .int b] v ((lrc E i a b v (eNb E i)).2) ((lrc E i a b v (eNb E i)).1) := by
  refine Ci.of (cc := cX1_recordChecks) (maxL := 6) (ret := (some .int)) (own := RX1) (by decide) rfl rfl (Nat.le_of_ble_eq_true rfl) ?_
  intro p e s m below meth c F hr hlk ls hl hH
  obtain ⟨hx, hb, hml, hown, hts⟩ := id F.1
  have hl : lv_has ls 6 [(0, .ref (eAd E (5 + i))), (1, .int a), (2, .int b)] := hl
  have inJx4a65c : ∀ w ∈ wsJx4a65c0, w ∈ wsX1_recordChecks := fun w h => List.mem_cons_of_mem _ (List.mem_append_right _ h)
  have inX0 : ∀ w ∈ wsX00, w ∈ wsX1_recordChecks := fun w h => List.mem_cons_of_mem _ (List.mem_append_left _ (List.mem_append_right _ h))
  have inX1 : ∀ w ∈ wsX10, w ∈ wsX1_recordChecks := fun w h => List.mem_cons_of_mem _ (List.mem_append_left _ (List.mem_append_left _ (List.mem_append_right _ h)))
  have hnb := hE.2.2.2.2.1 i (by omega)
  refine lv_iconst (v := 0) hx hb dX1_recordChecks_0 (by decide) ?_
  refine lv_istore_n (lv' := [(3, .int 0), (0, .ref (eAd E (5 + i))), (1, .int a), (2, .int b)]) hx hb dX1_recordChecks_1 rfl hl (by decide) rfl (fun ls hl => ?_)
  refine lv_iconst (v := 0) hx hb dX1_recordChecks_2 (by decide) ?_
  refine lv_istore (lv' := [(4, .int 0), (3, .int 0), (0, .ref (eAd E (5 + i))), (1, .int a), (2, .int b)]) hx hb dX1_recordChecks_3 hl (by decide) rfl (fun ls hl => ?_)
  have loop5 : ∀ (n t : Nat), t + n = eNb E i → ∀ (H : Heap) (locs : List Loc) (ls : Array Slot), HS E s.heap ((lrc E i a b v t).1) H locs → lv_has ls 6 [(0, .ref (eAd E (5 + i))), (1, .int a), (2, .int b), (3, .int ((lrc E i a b v t).2)), (4, .int (nI t))] → W p l e ({ frames := 3, cells := 0, slots := 0, locals := 64 } : Room) s m ([.ref (eAd E (5 + i)), .int a, .int b] : List Value).toArray below meth c H locs 0 0 (Zi below E ([.ref (eAd E (5 + i)), .int a, .int b] : List Value).toArray s ((lrc E i a b v (eNb E i)).2) ((lrc E i a b v (eNb E i)).1)) (F0 m 5 ls []) := by
    intro n
    induction n with
    | zero =>
      intro t ht H locs ls hH hl
      obtain rfl : eNb E i = t := by omega
      refine lv_iload hx hb dX1_recordChecks_5 (lv_at hl 4 rfl) ?_
      refine lv_aload_n hx hb dX1_recordChecks_7 rfl (lv_at hl 0 rfl) ?_
      refine g_get (x := .ref (eAd E (8 + i))) F hH inX1 (hE.1 _ (by have := hi; omega)) (cq_ld E _ hi) rfl 2 (by decide) (hts (.fieldLink RX1 22 "DryingKiln$Load" "boards" "Ljava/util/ArrayList;") (by decide +kernel)) (fun _ h => h) rfl dX1_recordChecks_8 ?_
      refine g_vi (As := []) F hH (c_Jx4a65c_size_8abf5 l E hE ((lrc E i a b v (eNb E i)).1) i (by first | assumption | omega | decide)) (cwV 0 hts gX1_recordChecks_Jx4a65c_size_8abf5 rfl rfl rfl (by decide +kernel) ⟨Nat.le_of_ble_eq_true rfl, Nat.le_of_ble_eq_true rfl⟩) (hE.1 _ (by have := hi; omega)) (cq_li E _ hi) rfl rfl hl.1 [.int (nI (eNb E i))] rfl (Nat.le_of_ble_eq_true rfl) dX1_recordChecks_11 ⟨Nat.zero_le _, Nat.zero_le _⟩ (fun H locs hH => ?_)
      refine lv_icmp_ge (tgt := 65) hx hb dX1_recordChecks_14 (by decide) (fun c1 => ?_) (fun c1 => ?_)
      · skip
        refine lv_iload_n hx hb dX1_recordChecks_65 rfl (lv_at hl 3 rfl) ?_
        exact g_iret F hr hlk hH rfl rfl dX1_recordChecks_66
      · skip
        exact absurd (nI_le (Nat.le_refl _) (by omega)) c1
    | succ n ih =>
      intro t ht H locs ls hH hl
      have htN : t < eNb E i := by omega
      refine lv_iload hx hb dX1_recordChecks_5 (lv_at hl 4 rfl) ?_
      refine lv_aload_n hx hb dX1_recordChecks_7 rfl (lv_at hl 0 rfl) ?_
      refine g_get (x := .ref (eAd E (8 + i))) F hH inX1 (hE.1 _ (by have := hi; omega)) (cq_ld E _ hi) rfl 2 (by decide) (hts (.fieldLink RX1 22 "DryingKiln$Load" "boards" "Ljava/util/ArrayList;") (by decide +kernel)) (fun _ h => h) rfl dX1_recordChecks_8 ?_
      refine g_vi (As := []) F hH (c_Jx4a65c_size_8abf5 l E hE ((lrc E i a b v t).1) i (by first | assumption | omega | decide)) (cwV 0 hts gX1_recordChecks_Jx4a65c_size_8abf5 rfl rfl rfl (by decide +kernel) ⟨Nat.le_of_ble_eq_true rfl, Nat.le_of_ble_eq_true rfl⟩) (hE.1 _ (by have := hi; omega)) (cq_li E _ hi) rfl rfl hl.1 [.int (nI t)] rfl (Nat.le_of_ble_eq_true rfl) dX1_recordChecks_11 ⟨Nat.zero_le _, Nat.zero_le _⟩ (fun H locs hH => ?_)
      refine lv_icmp_ge (tgt := 65) hx hb dX1_recordChecks_14 (by decide) (fun c2 => ?_) (fun c2 => ?_)
      · skip
        exact absurd c2 (nI_ge htN (by omega))
      · skip
        refine lv_aload_n hx hb dX1_recordChecks_17 rfl (lv_at hl 0 rfl) ?_
        refine g_get (x := .ref (eAd E (8 + i))) F hH inX1 (hE.1 _ (by have := hi; omega)) (cq_ld E _ hi) rfl 2 (by decide) (hts (.fieldLink RX1 22 "DryingKiln$Load" "boards" "Ljava/util/ArrayList;") (by decide +kernel)) (fun _ h => h) rfl dX1_recordChecks_18 ?_
        refine lv_iload hx hb dX1_recordChecks_21 (lv_at hl 4 rfl) ?_
        refine g_vr (As := [.int (nI t)]) F hH (c_Jx4a65c_get_915e3 l E hE ((lrc E i a b v t).1) i t (by first | assumption | omega | decide) (by first | assumption | omega | decide)) (cwV 1 hts gX1_recordChecks_Jx4a65c_get_915e3 rfl rfl rfl (by decide +kernel) ⟨Nat.le_of_ble_eq_true rfl, Nat.le_of_ble_eq_true rfl⟩) (hE.1 _ (by have := hi; omega)) (cq_li E _ hi) rfl rfl hl.1 [] rfl (Nat.le_of_ble_eq_true rfl) dX1_recordChecks_23 ⟨Nat.zero_le _, Nat.zero_le _⟩ (fun H locs hH => ?_)
        refine g_cast F hH (hE.2.2.2.1 i t hi (by omega)).1 (cq_bo E _ (by omega)) (by rfl) (hts (.classLink RX1 34 "DryingKiln$Board") (by decide +kernel)) dX1_recordChecks_26 ?_
        refine lv_astore (lv' := [(5, .ref (eAd E (bo i t))), (0, .ref (eAd E (5 + i))), (1, .int a), (2, .int b), (3, .int ((lrc E i a b v t).2)), (4, .int (nI t))]) hx hb dX1_recordChecks_29 hl (by decide) rfl (fun ls hl => ?_)
        refine lv_aload hx hb dX1_recordChecks_31 (lv_at hl 0 rfl) ?_
        refine g_get (x := .int (((lrc E i a b v t).1) (bo i t) 1)) F hH inX0 (hE.2.2.2.1 i t hi (by omega)).1 (cq_bo E _ (by omega)) rfl 1 (by decide) (hts (.fieldLink RX1 94 "DryingKiln$Board" "checkedAt" "I") (by decide +kernel)) (fun _ h => h) rfl dX1_recordChecks_33 ?_
        refine lv_ldc (v := -1000005) hx hb hown (hts (.constant RX1 47 (-1000005)) (by decide +kernel)) dX1_recordChecks_36 ?_
        refine lv_icmp_ne (tgt := 59) hx hb dX1_recordChecks_38 (by decide) (fun c3 => ?_) (fun c3 => ?_)
        · skip
          refine lv_iinc (v := nI (t + 1)) (lv' := [(4, .int (nI (t + 1))), (5, .ref (eAd E (bo i t))), (0, .ref (eAd E (5 + i))), (1, .int a), (2, .int b), (3, .int ((lrc E i a b v t).2))]) hx hb dX1_recordChecks_59 hl (k := 5) rfl (nI_1 _) (by decide) rfl (fun ls hl => ?_)
          refine lv_goto (tgt := 5) hx hb dX1_recordChecks_62 (by decide) ?_
          exact ih (t + 1) (by omega) _ _ ls (by first | exact hH | (simp only [lrc, c2, c3, if_true, if_false, ↓reduceIte]; exact hH)) (by first | exact lv_sub hl [2, 3, 4, 5, 0] rfl | (have h := lv_sub hl [2, 3, 4, 5, 0] rfl; simp only [lrc, c2, c3, if_true, if_false, ↓reduceIte]; exact h))
        · skip
          refine lv_aload hx hb dX1_recordChecks_41 (lv_at hl 0 rfl) ?_
          refine g_vi (As := []) F hH (c_X0_gradient l E hE ((lrc E i a b v t).1) i t (by first | assumption | omega | decide) (by first | assumption | omega | decide)) (cwV 0 hts gX1_recordChecks_X0_gradient rfl rfl rfl (by decide +kernel) ⟨Nat.le_of_ble_eq_true rfl, Nat.le_of_ble_eq_true rfl⟩) (hE.2.2.2.1 i t hi (by omega)).1 (cq_bo E _ (by omega)) rfl rfl hl.1 [] rfl (Nat.le_of_ble_eq_true rfl) dX1_recordChecks_43 ⟨Nat.zero_le _, Nat.zero_le _⟩ (fun H locs hH => ?_)
          refine lv_iload_n hx hb dX1_recordChecks_46 rfl (lv_at hl 2 rfl) ?_
          refine lv_icmp_le (tgt := 59) hx hb dX1_recordChecks_47 (by decide) (fun c4 => ?_) (fun c4 => ?_)
          · skip
            refine lv_iinc (v := nI (t + 1)) (lv' := [(4, .int (nI (t + 1))), (5, .ref (eAd E (bo i t))), (0, .ref (eAd E (5 + i))), (1, .int a), (2, .int b), (3, .int ((lrc E i a b v t).2))]) hx hb dX1_recordChecks_59 hl (k := 5) rfl (nI_1 _) (by decide) rfl (fun ls hl => ?_)
            refine lv_goto (tgt := 5) hx hb dX1_recordChecks_62 (by decide) ?_
            exact ih (t + 1) (by omega) _ _ ls (by first | exact hH | (simp only [lrc, c2, c3, c4, if_true, if_false, ↓reduceIte]; exact hH)) (by first | exact lv_sub hl [2, 3, 4, 5, 0] rfl | (have h := lv_sub hl [2, 3, 4, 5, 0] rfl; simp only [lrc, c2, c3, c4, if_true, if_false, ↓reduceIte]; exact h))
          · skip
            refine lv_aload hx hb dX1_recordChecks_50 (lv_at hl 0 rfl) ?_
            refine lv_iload_n hx hb dX1_recordChecks_52 rfl (lv_at hl 3 rfl) ?_
            refine g_put (ty := .int) (x := b) F hH inX0 tyX0 tyX0_ok nmX0 (hE.2.2.2.1 i t hi (by omega)).1 (cq_bo E _ (by omega)) rfl 1 (by decide) (hts (.fieldLink RX1 94 "DryingKiln$Board" "checkedAt" "I") (by decide +kernel)) (fun _ h => h) rfl (by decide +kernel) rfl rfl (Nat.le_of_ble_eq_true rfl) (cq_bo E _ (by omega)) dX1_recordChecks_53 (fun H locs hH => ?_)
            refine lv_iinc (v := ((lrc E i a b v t).2) + 1) (lv' := [(3, .int (((lrc E i a b v t).2) + 1)), (5, .ref (eAd E (bo i t))), (0, .ref (eAd E (5 + i))), (1, .int a), (2, .int b), (4, .int (nI t))]) hx hb dX1_recordChecks_56 hl (k := 4) rfl rfl (by decide) rfl (fun ls hl => ?_)
            refine lv_iinc (v := nI (t + 1)) (lv' := [(4, .int (nI (t + 1))), (3, .int (((lrc E i a b v t).2) + 1)), (5, .ref (eAd E (bo i t))), (0, .ref (eAd E (5 + i))), (1, .int a), (2, .int b)]) hx hb dX1_recordChecks_59 hl (k := 5) rfl (nI_1 _) (by decide) rfl (fun ls hl => ?_)
            refine lv_goto (tgt := 5) hx hb dX1_recordChecks_62 (by decide) ?_
            exact ih (t + 1) (by omega) _ _ ls (by first | exact hH | (simp only [lrc, c2, c3, c4, if_true, if_false, ↓reduceIte]; exact hH)) (by first | exact lv_sub hl [3, 4, 5, 1, 0] rfl | (have h := lv_sub hl [3, 4, 5, 1, 0] rfl; simp only [lrc, c2, c3, c4, if_true, if_false, ↓reduceIte]; exact h))
  exact loop5 (eNb E i) 0 (Nat.zero_add _) _ _ ls hH (lv_sub hl [2, 3, 4, 1, 0] rfl)

set_option maxHeartbeats 4000000 in
set_option maxRecDepth 100000 in
theorem c_X1_copyFrom (l : Launch) (E : Ev) (hE : EO E) (v : Mem) (i : Nat) (o : Nat) (hi : i < 3) (ho : o < 3) (hio : i ≠ o) (hno : eNb E o = eNb E i) (hbv : isB (v (5 + o) 0)) : Cv l yX1_copyFrom wsX1_copyFrom ({ frames := 3, cells := 0, slots := 0, locals := 82 } : Room) E [.ref (eAd E (5 + i)), .ref (eAd E (5 + o))] v (lcpy E i o v) := by
  refine Cv.of (cc := cX1_copyFrom) (maxL := 3) (ret := none) (own := RX1) (by decide) rfl rfl (Nat.le_of_ble_eq_true rfl) ?_
  intro p e s m below meth c F hr hlk ls hl hH
  obtain ⟨hx, hb, hml, hown, hts⟩ := id F.1
  have hl : lv_has ls 3 [(0, .ref (eAd E (5 + i))), (1, .ref (eAd E (5 + o)))] := hl
  have inJx4a65c : ∀ w ∈ wsJx4a65c0, w ∈ wsX1_copyFrom := fun w h => List.mem_cons_of_mem _ (List.mem_append_left _ (List.mem_append_right _ h))
  have inX0 : ∀ w ∈ wsX00, w ∈ wsX1_copyFrom := fun w h => List.mem_cons_of_mem _ (List.mem_append_right _ h)
  have inX1 : ∀ w ∈ wsX10, w ∈ wsX1_copyFrom := fun w h => List.mem_cons_of_mem _ (List.mem_append_left _ (List.mem_append_left _ (List.mem_append_right _ h)))
  have hnb := hE.2.2.2.2.1 i (by omega)
  refine lv_iconst (v := 0) hx hb dX1_copyFrom_0 (by decide) ?_
  refine lv_istore_n (lv' := [(2, .int 0), (0, .ref (eAd E (5 + i))), (1, .ref (eAd E (5 + o)))]) hx hb dX1_copyFrom_1 rfl hl (by decide) rfl (fun ls hl => ?_)
  have loop2 : ∀ (n t : Nat), t + n = eNb E i → ∀ (H : Heap) (locs : List Loc) (ls : Array Slot), HS E s.heap (lcp E i o v t) H locs → lv_has ls 3 [(0, .ref (eAd E (5 + i))), (1, .ref (eAd E (5 + o))), (2, .int (nI t))] → W p l e ({ frames := 3, cells := 0, slots := 0, locals := 82 } : Room) s m ([.ref (eAd E (5 + i)), .ref (eAd E (5 + o))] : List Value).toArray below meth c H locs 0 0 (Zv below E ([.ref (eAd E (5 + i)), .ref (eAd E (5 + o))] : List Value).toArray s (lcpy E i o v)) (F0 m 2 ls []) := by
    intro n
    induction n with
    | zero =>
      intro t ht H locs ls hH hl
      obtain rfl : eNb E i = t := by omega
      refine lv_iload_n hx hb dX1_copyFrom_2 rfl (lv_at hl 2 rfl) ?_
      refine lv_aload_n hx hb dX1_copyFrom_3 rfl (lv_at hl 0 rfl) ?_
      refine g_get (x := .ref (eAd E (8 + i))) F hH inX1 (hE.1 _ (by have := hi; omega)) (cq_ld E _ hi) rfl 2 (by decide) (hts (.fieldLink RX1 22 "DryingKiln$Load" "boards" "Ljava/util/ArrayList;") (by decide +kernel)) (fun _ h => h) rfl dX1_copyFrom_4 ?_
      refine g_vi (As := []) F hH (c_Jx4a65c_size_8abf5 l E hE (lcp E i o v (eNb E i)) i (by first | assumption | omega | decide)) (cwV 0 hts gX1_copyFrom_Jx4a65c_size_8abf5 rfl rfl rfl (by decide +kernel) ⟨Nat.le_of_ble_eq_true rfl, Nat.le_of_ble_eq_true rfl⟩) (hE.1 _ (by have := hi; omega)) (cq_li E _ hi) rfl rfl hl.1 [.int (nI (eNb E i))] rfl (Nat.le_of_ble_eq_true rfl) dX1_copyFrom_7 ⟨Nat.zero_le _, Nat.zero_le _⟩ (fun H locs hH => ?_)
      refine lv_icmp_ge (tgt := 55) hx hb dX1_copyFrom_10 (by decide) (fun c1 => ?_) (fun c1 => ?_)
      · skip
        refine lv_aload_n hx hb dX1_copyFrom_55 rfl (lv_at hl 0 rfl) ?_
        refine lv_aload_n hx hb dX1_copyFrom_56 rfl (lv_at hl 1 rfl) ?_
        refine g_get (x := .int ((lcp E i o v (eNb E i)) (5 + o) 0)) F hH inX1 (hE.1 _ (by have := ho; omega)) (cq_ld E _ ho) rfl 0 (by decide) (hts (.fieldLink RX1 9 "DryingKiln$Load" "reversed" "Z") (by decide +kernel)) (fun _ h => h) rfl dX1_copyFrom_57 ?_
        rw [show (lcp E i o v (eNb E i)) (5 + o) 0 = v (5 + o) 0 from congrFun (lcp_ne E i o v (fun j => Ne.symm (ne_al (by omega))) _) _]
        refine g_put (ty := .boolean) (x := v (5 + o) 0) F hH inX1 tyX1 tyX1_ok nmX1 (hE.1 _ (by have := hi; omega)) (cq_ld E _ hi) rfl 0 (by decide) (hts (.fieldLink RX1 9 "DryingKiln$Load" "reversed" "Z") (by decide +kernel)) (fun _ h => h) rfl (by decide +kernel) hbv.n hbv.f (Nat.le_of_ble_eq_true rfl) (cq_ld E _ hi) dX1_copyFrom_60 (fun H locs hH => ?_)
        refine lv_aload_n hx hb dX1_copyFrom_63 rfl (lv_at hl 0 rfl) ?_
        refine lv_aload_n hx hb dX1_copyFrom_64 rfl (lv_at hl 1 rfl) ?_
        refine g_get (x := .int ((st (lcp E i o v (eNb E i)) (5 + i) 0 (v (5 + o) 0)) (5 + o) 1)) F hH inX1 (hE.1 _ (by have := ho; omega)) (cq_ld E _ ho) rfl 1 (by decide) (hts (.fieldLink RX1 15 "DryingKiln$Load" "dryingHours" "I") (by decide +kernel)) (fun _ h => h) rfl dX1_copyFrom_65 ?_
        rw [show (st (lcp E i o v (eNb E i)) (5 + i) 0 (v (5 + o) 0)) (5 + o) 1 = (lcp E i o v (eNb E i)) (5 + o) 1 by rw [st_ne _ _ _ (by omega)]]
        rw [show (lcp E i o v (eNb E i)) (5 + o) 1 = v (5 + o) 1 from congrFun (lcp_ne E i o v (fun j => Ne.symm (ne_al (by omega))) _) _]
        refine g_put (ty := .int) (x := v (5 + o) 1) F hH inX1 tyX1 tyX1_ok nmX1 (hE.1 _ (by have := hi; omega)) (cq_ld E _ hi) rfl 1 (by decide) (hts (.fieldLink RX1 15 "DryingKiln$Load" "dryingHours" "I") (by decide +kernel)) (fun _ h => h) rfl (by decide +kernel) rfl rfl (Nat.le_of_ble_eq_true rfl) (cq_ld E _ hi) dX1_copyFrom_68 (fun H locs hH => ?_)
        exact g_vret F hr hlk hH rfl dX1_copyFrom_71
      · skip
        exact absurd (nI_le (Nat.le_refl _) (by omega)) c1
    | succ n ih =>
      intro t ht H locs ls hH hl
      have htN : t < eNb E i := by omega
      refine lv_iload_n hx hb dX1_copyFrom_2 rfl (lv_at hl 2 rfl) ?_
      refine lv_aload_n hx hb dX1_copyFrom_3 rfl (lv_at hl 0 rfl) ?_
      refine g_get (x := .ref (eAd E (8 + i))) F hH inX1 (hE.1 _ (by have := hi; omega)) (cq_ld E _ hi) rfl 2 (by decide) (hts (.fieldLink RX1 22 "DryingKiln$Load" "boards" "Ljava/util/ArrayList;") (by decide +kernel)) (fun _ h => h) rfl dX1_copyFrom_4 ?_
      refine g_vi (As := []) F hH (c_Jx4a65c_size_8abf5 l E hE (lcp E i o v t) i (by first | assumption | omega | decide)) (cwV 0 hts gX1_copyFrom_Jx4a65c_size_8abf5 rfl rfl rfl (by decide +kernel) ⟨Nat.le_of_ble_eq_true rfl, Nat.le_of_ble_eq_true rfl⟩) (hE.1 _ (by have := hi; omega)) (cq_li E _ hi) rfl rfl hl.1 [.int (nI t)] rfl (Nat.le_of_ble_eq_true rfl) dX1_copyFrom_7 ⟨Nat.zero_le _, Nat.zero_le _⟩ (fun H locs hH => ?_)
      refine lv_icmp_ge (tgt := 55) hx hb dX1_copyFrom_10 (by decide) (fun c2 => ?_) (fun c2 => ?_)
      · skip
        exact absurd c2 (nI_ge htN (by omega))
      · skip
        refine lv_iload_n hx hb dX1_copyFrom_13 rfl (lv_at hl 2 rfl) ?_
        refine lv_aload_n hx hb dX1_copyFrom_14 rfl (lv_at hl 1 rfl) ?_
        refine g_get (x := .ref (eAd E (8 + o))) F hH inX1 (hE.1 _ (by have := ho; omega)) (cq_ld E _ ho) rfl 2 (by decide) (hts (.fieldLink RX1 22 "DryingKiln$Load" "boards" "Ljava/util/ArrayList;") (by decide +kernel)) (fun _ h => h) rfl dX1_copyFrom_15 ?_
        refine g_vi (As := []) F hH (c_Jx4a65c_size_8abf5 l E hE (lcp E i o v t) o (by first | assumption | omega | decide)) (cwV 0 hts gX1_copyFrom_Jx4a65c_size_8abf5 rfl rfl rfl (by decide +kernel) ⟨Nat.le_of_ble_eq_true rfl, Nat.le_of_ble_eq_true rfl⟩) (hE.1 _ (by have := ho; omega)) (cq_li E _ ho) rfl rfl hl.1 [.int (nI t)] rfl (Nat.le_of_ble_eq_true rfl) dX1_copyFrom_18 ⟨Nat.zero_le _, Nat.zero_le _⟩ (fun H locs hH => ?_)
        refine lv_icmp_ge (tgt := 55) hx hb dX1_copyFrom_21 (by decide) (fun c3 => ?_) (fun c3 => ?_)
        · skip
          exact absurd c3 (nI_ge (by omega) (by omega))
        · skip
          refine lv_aload_n hx hb dX1_copyFrom_24 rfl (lv_at hl 0 rfl) ?_
          refine g_get (x := .ref (eAd E (8 + i))) F hH inX1 (hE.1 _ (by have := hi; omega)) (cq_ld E _ hi) rfl 2 (by decide) (hts (.fieldLink RX1 22 "DryingKiln$Load" "boards" "Ljava/util/ArrayList;") (by decide +kernel)) (fun _ h => h) rfl dX1_copyFrom_25 ?_
          refine lv_iload_n hx hb dX1_copyFrom_28 rfl (lv_at hl 2 rfl) ?_
          refine g_vr (As := [.int (nI t)]) F hH (c_Jx4a65c_get_915e3 l E hE (lcp E i o v t) i t (by first | assumption | omega | decide) (by first | assumption | omega | decide)) (cwV 1 hts gX1_copyFrom_Jx4a65c_get_915e3 rfl rfl rfl (by decide +kernel) ⟨Nat.le_of_ble_eq_true rfl, Nat.le_of_ble_eq_true rfl⟩) (hE.1 _ (by have := hi; omega)) (cq_li E _ hi) rfl rfl hl.1 [] rfl (Nat.le_of_ble_eq_true rfl) dX1_copyFrom_29 ⟨Nat.zero_le _, Nat.zero_le _⟩ (fun H locs hH => ?_)
          refine g_cast F hH (hE.2.2.2.1 i t hi (by omega)).1 (cq_bo E _ (by omega)) (by rfl) (hts (.classLink RX1 34 "DryingKiln$Board") (by decide +kernel)) dX1_copyFrom_32 ?_
          refine lv_aload_n hx hb dX1_copyFrom_35 rfl (lv_at hl 1 rfl) ?_
          refine g_get (x := .ref (eAd E (8 + o))) F hH inX1 (hE.1 _ (by have := ho; omega)) (cq_ld E _ ho) rfl 2 (by decide) (hts (.fieldLink RX1 22 "DryingKiln$Load" "boards" "Ljava/util/ArrayList;") (by decide +kernel)) (fun _ h => h) rfl dX1_copyFrom_36 ?_
          refine lv_iload_n hx hb dX1_copyFrom_39 rfl (lv_at hl 2 rfl) ?_
          refine g_vr (As := [.int (nI t)]) F hH (c_Jx4a65c_get_915e3 l E hE (lcp E i o v t) o t (by first | assumption | omega | decide) (by first | assumption | omega | decide)) (cwV 1 hts gX1_copyFrom_Jx4a65c_get_915e3 rfl rfl rfl (by decide +kernel) ⟨Nat.le_of_ble_eq_true rfl, Nat.le_of_ble_eq_true rfl⟩) (hE.1 _ (by have := ho; omega)) (cq_li E _ ho) rfl rfl hl.1 [.ref (eAd E (bo i t))] rfl (Nat.le_of_ble_eq_true rfl) dX1_copyFrom_40 ⟨Nat.zero_le _, Nat.zero_le _⟩ (fun H locs hH => ?_)
          refine g_cast F hH (hE.2.2.2.1 o t ho (by omega)).1 (cq_bo E _ (by omega)) (by rfl) (hts (.classLink RX1 34 "DryingKiln$Board") (by decide +kernel)) dX1_copyFrom_43 ?_
          refine g_vv (As := [.ref (eAd E (bo o t))]) F hH (c_X0_copyMoistureFrom l E hE (lcp E i o v t) i o t (by first | assumption | omega | decide) (by first | assumption | omega | decide) (by first | assumption | omega | decide) (by first | assumption | omega | decide)) (cwV 1 hts gX1_copyFrom_X0_copyMoistureFrom rfl rfl rfl (by decide +kernel) ⟨Nat.le_of_ble_eq_true rfl, Nat.le_of_ble_eq_true rfl⟩) (hE.2.2.2.1 i t hi (by omega)).1 (cq_bo E _ (by omega)) rfl rfl hl.1 [] rfl (Nat.le_of_ble_eq_true rfl) dX1_copyFrom_46 ⟨Nat.zero_le _, Nat.zero_le _⟩ (fun H locs hH => ?_)
          refine lv_iinc (v := nI (t + 1)) (lv' := [(2, .int (nI (t + 1))), (0, .ref (eAd E (5 + i))), (1, .ref (eAd E (5 + o)))]) hx hb dX1_copyFrom_49 hl (k := 2) rfl (nI_1 _) (by decide) rfl (fun ls hl => ?_)
          refine lv_goto (tgt := 2) hx hb dX1_copyFrom_52 (by decide) ?_
          exact ih (t + 1) (by omega) _ _ ls (by first | exact hH | (simp only [c2, c3, if_true, if_false, ↓reduceIte]; exact hH)) (by first | exact lv_sub hl [1, 2, 0] rfl | (have h := lv_sub hl [1, 2, 0] rfl; simp only [c2, c3, if_true, if_false, ↓reduceIte]; exact h))
  exact loop2 (eNb E i) 0 (Nat.zero_add _) _ _ ls hH (lv_sub hl [1, 2, 0] rfl)

set_option maxHeartbeats 4000000 in
set_option maxRecDepth 100000 in
theorem c_X2_clear (l : Launch) (E : Ev) (hE : EO E) (v : Mem) : Ci l yX2_clear wsX2_clear ({ frames := 0, cells := 0, slots := 0, locals := 0 } : Room) E [.ref (eAd E 2)] v (v 2 2) (st v 2 2 0) := by
  refine Ci.of (cc := cX2_clear) (maxL := 2) (ret := (some .int)) (own := RX2) (by decide) rfl rfl (Nat.le_of_ble_eq_true rfl) ?_
  intro p e s m below meth c F hr hlk ls hl hH
  obtain ⟨hx, hb, hml, hown, hts⟩ := id F.1
  have hl : lv_has ls 2 [(0, .ref (eAd E 2))] := hl
  have inX2 : ∀ w ∈ wsX20, w ∈ wsX2_clear := fun w h => List.mem_cons_of_mem _ (List.mem_append_right _ h)
  refine lv_aload_n hx hb dX2_clear_0 rfl (lv_at hl 0 rfl) ?_
  refine g_get (x := .int (v 2 2)) F hH inX2 (hE.1 2 (by decide)) (cq_sch E _) rfl 2 (by decide) (hts (.fieldLink RX2 18 "DryingKiln$Schedule" "size" "I") (by decide +kernel)) (fun _ h => h) rfl dX2_clear_1 ?_
  refine lv_istore_n (lv' := [(1, .int (v 2 2)), (0, .ref (eAd E 2))]) hx hb dX2_clear_4 rfl hl (by decide) rfl (fun ls hl => ?_)
  refine lv_aload_n hx hb dX2_clear_5 rfl (lv_at hl 1 rfl) ?_
  refine lv_iconst (v := 0) hx hb dX2_clear_6 (by decide) ?_
  refine g_put (ty := .int) (x := 0) F hH inX2 tyX2 tyX2_ok nmX2 (hE.1 2 (by decide)) (cq_sch E _) rfl 2 (by decide) (hts (.fieldLink RX2 18 "DryingKiln$Schedule" "size" "I") (by decide +kernel)) (fun _ h => h) rfl (by decide +kernel) rfl rfl (Nat.le_of_ble_eq_true rfl) (cq_sch E _) dX2_clear_7 (fun H locs hH => ?_)
  refine lv_iload_n hx hb dX2_clear_10 rfl (lv_at hl 0 rfl) ?_
  exact g_iret F hr hlk hH (by first | rfl | (simp only [if_true, if_false, ↓reduceIte]; done) | (simp only [if_true, if_false, ↓reduceIte]; rfl)) (by first | rfl | (simp only [if_true, if_false, ↓reduceIte]; done) | (simp only [if_true, if_false, ↓reduceIte]; rfl)) dX2_clear_11

set_option maxHeartbeats 4000000 in
set_option maxRecDepth 100000 in
theorem c_X2_stageFor (l : Launch) (E : Ev) (hE : EO E) (v : Mem) (a : Int32) (ns : Nat) (hns : v 2 2 = nI ns) (h8 : ns ≤ 8) : Ci l yX2_stageFor wsX2_stageFor ({ frames := 0, cells := 0, slots := 0, locals := 0 } : Room) E [.ref (eAd E 2), .int a] v (sst v a ns) v := by
  refine Ci.of (cc := cX2_stageFor) (maxL := 4) (ret := (some .int)) (own := RX2) (by decide) rfl rfl (Nat.le_of_ble_eq_true rfl) ?_
  intro p e s m below meth c F hr hlk ls hl hH
  obtain ⟨hx, hb, hml, hown, hts⟩ := id F.1
  have hl : lv_has ls 4 [(0, .ref (eAd E 2)), (1, .int a)] := hl
  have inX2 : ∀ w ∈ wsX20, w ∈ wsX2_stageFor := fun w h => List.mem_cons_of_mem _ (List.mem_append_right _ h)
  refine lv_ldc (v := -1000005) hx hb hown (hts (.constant RX2 24 (-1000005)) (by decide +kernel)) dX2_stageFor_0 ?_
  refine lv_istore_n (lv' := [(2, .int (-1000005)), (0, .ref (eAd E 2)), (1, .int a)]) hx hb dX2_stageFor_2 rfl hl (by decide) rfl (fun ls hl => ?_)
  refine lv_iconst (v := 0) hx hb dX2_stageFor_3 (by decide) ?_
  refine lv_istore_n (lv' := [(3, .int 0), (2, .int (-1000005)), (0, .ref (eAd E 2)), (1, .int a)]) hx hb dX2_stageFor_4 rfl hl (by decide) rfl (fun ls hl => ?_)
  have loop5 : ∀ (n t : Nat), t + n = ns → ∀ (H : Heap) (locs : List Loc) (ls : Array Slot), HS E s.heap v H locs → lv_has ls 4 [(0, .ref (eAd E 2)), (1, .int a), (2, .int (sst v a t)), (3, .int (nI t))] → W p l e ({ frames := 0, cells := 0, slots := 0, locals := 0 } : Room) s m ([.ref (eAd E 2), .int a] : List Value).toArray below meth c H locs 0 0 (Zi below E ([.ref (eAd E 2), .int a] : List Value).toArray s (sst v a ns) v) (F0 m 5 ls []) := by
    intro n
    induction n with
    | zero =>
      intro t ht H locs ls hH hl
      obtain rfl : ns = t := by omega
      refine lv_iload_n hx hb dX2_stageFor_5 rfl (lv_at hl 3 rfl) ?_
      refine lv_aload_n hx hb dX2_stageFor_6 rfl (lv_at hl 0 rfl) ?_
      refine g_get (x := .int (v 2 2)) F hH inX2 (hE.1 2 (by decide)) (cq_sch E _) rfl 2 (by decide) (hts (.fieldLink RX2 18 "DryingKiln$Schedule" "size" "I") (by decide +kernel)) (fun _ h => h) rfl dX2_stageFor_7 ?_
      rw [show v 2 2 = nI ns from hns]
      refine lv_icmp_ge (tgt := 37) hx hb dX2_stageFor_10 (by decide) (fun c1 => ?_) (fun c1 => ?_)
      · skip
        refine lv_iload_n hx hb dX2_stageFor_37 rfl (lv_at hl 2 rfl) ?_
        exact g_iret F hr hlk hH (by first | rfl | (simp only [sst, c1, if_true, if_false, ↓reduceIte]; done) | (simp only [sst, c1, if_true, if_false, ↓reduceIte]; rfl)) (by first | rfl | (simp only [sst, c1, if_true, if_false, ↓reduceIte]; done) | (simp only [sst, c1, if_true, if_false, ↓reduceIte]; rfl)) dX2_stageFor_38
      · skip
        exact absurd (nI_le (Nat.le_refl _) (by omega)) c1
    | succ n ih =>
      intro t ht H locs ls hH hl
      have htN : t < ns := by omega
      refine lv_iload_n hx hb dX2_stageFor_5 rfl (lv_at hl 3 rfl) ?_
      refine lv_aload_n hx hb dX2_stageFor_6 rfl (lv_at hl 0 rfl) ?_
      refine g_get (x := .int (v 2 2)) F hH inX2 (hE.1 2 (by decide)) (cq_sch E _) rfl 2 (by decide) (hts (.fieldLink RX2 18 "DryingKiln$Schedule" "size" "I") (by decide +kernel)) (fun _ h => h) rfl dX2_stageFor_7 ?_
      rw [show v 2 2 = nI ns from hns]
      refine lv_icmp_ge (tgt := 37) hx hb dX2_stageFor_10 (by decide) (fun c2 => ?_) (fun c2 => ?_)
      · skip
        exact absurd c2 (nI_ge htN (by omega))
      · skip
        refine lv_iload_n hx hb dX2_stageFor_13 rfl (lv_at hl 3 rfl) ?_
        refine lv_bipush (v := 8) hx hb dX2_stageFor_14 (by decide) ?_
        refine lv_icmp_ge (tgt := 37) hx hb dX2_stageFor_16 (by decide) (fun c3 => ?_) (fun c3 => ?_)
        · skip
          exact absurd c3 (nI_ge (b := 8) (by omega) (by omega))
        · skip
          refine lv_aload_n hx hb dX2_stageFor_19 rfl (lv_at hl 0 rfl) ?_
          refine g_get (x := .ref (eAd E 3)) F hH inX2 (hE.1 2 (by decide)) (cq_sch E _) rfl 0 (by decide) (hts (.fieldLink RX2 9 "DryingKiln$Schedule" "thresholds" "[I") (by decide +kernel)) (fun _ h => h) rfl dX2_stageFor_20 ?_
          refine lv_iload_n hx hb dX2_stageFor_23 rfl (lv_at hl 3 rfl) ?_
          refine g_iald (n := 8) (x := v 3 t) F hH (hE.1 3 (by decide)) rfl t rfl (by omega) (by omega) rfl dX2_stageFor_24 ?_
          refine lv_iload_n hx hb dX2_stageFor_25 rfl (lv_at hl 1 rfl) ?_
          refine lv_icmp_lt (tgt := 31) hx hb dX2_stageFor_26 (by decide) (fun c4 => ?_) (fun c4 => ?_)
          · skip
            refine lv_iinc (v := nI (t + 1)) (lv' := [(3, .int (nI (t + 1))), (0, .ref (eAd E 2)), (1, .int a), (2, .int (sst v a t))]) hx hb dX2_stageFor_31 hl (k := 3) rfl (nI_1 _) (by decide) rfl (fun ls hl => ?_)
            refine lv_goto (tgt := 5) hx hb dX2_stageFor_34 (by decide) ?_
            exact ih (t + 1) (by omega) _ _ ls (by first | exact hH | (simp only [sst, c2, c3, c4, if_true, if_false, ↓reduceIte]; exact hH)) (by first | exact lv_sub hl [1, 2, 3, 0] rfl | (have h := lv_sub hl [1, 2, 3, 0] rfl; simp only [sst, c2, c3, c4, if_true, if_false, ↓reduceIte]; exact h))
          · skip
            refine lv_iload_n hx hb dX2_stageFor_29 rfl (lv_at hl 3 rfl) ?_
            refine lv_istore_n (lv' := [(2, .int (nI t)), (0, .ref (eAd E 2)), (1, .int a), (3, .int (nI t))]) hx hb dX2_stageFor_30 rfl hl (by decide) rfl (fun ls hl => ?_)
            refine lv_iinc (v := nI (t + 1)) (lv' := [(3, .int (nI (t + 1))), (2, .int (nI t)), (0, .ref (eAd E 2)), (1, .int a)]) hx hb dX2_stageFor_31 hl (k := 3) rfl (nI_1 _) (by decide) rfl (fun ls hl => ?_)
            refine lv_goto (tgt := 5) hx hb dX2_stageFor_34 (by decide) ?_
            exact ih (t + 1) (by omega) _ _ ls (by first | exact hH | (simp only [sst, c2, c3, c4, if_true, if_false, ↓reduceIte]; exact hH)) (by first | exact lv_sub hl [2, 3, 1, 0] rfl | (have h := lv_sub hl [2, 3, 1, 0] rfl; simp only [sst, c2, c3, c4, if_true, if_false, ↓reduceIte]; exact h))
  exact loop5 ns 0 (Nat.zero_add _) _ _ ls hH (lv_sub hl [2, 3, 1, 0] rfl)

set_option maxHeartbeats 4000000 in
set_option maxRecDepth 100000 in
theorem c_X2_inletOf (l : Launch) (E : Ev) (hE : EO E) (v : Mem) (a : Int32) (b : Int32) : Ci l yX2_inletOf wsX2_inletOf ({ frames := 0, cells := 0, slots := 0, locals := 0 } : Room) E [.ref (eAd E 2), .int a, .int b] v (sinl v a b) v := by
  refine Ci.of (cc := cX2_inletOf) (maxL := 3) (ret := (some .int)) (own := RX2) (by decide) rfl rfl (Nat.le_of_ble_eq_true rfl) ?_
  intro p e s m below meth c F hr hlk ls hl hH
  obtain ⟨hx, hb, hml, hown, hts⟩ := id F.1
  have hl : lv_has ls 3 [(0, .ref (eAd E 2)), (1, .int a), (2, .int b)] := hl
  have inX2 : ∀ w ∈ wsX20, w ∈ wsX2_inletOf := fun w h => List.mem_cons_of_mem _ (List.mem_append_right _ h)
  refine lv_iload_n hx hb dX2_inletOf_0 rfl (lv_at hl 1 rfl) ?_
  refine lv_if_lt (tgt := 19) hx hb dX2_inletOf_1 (by decide) (fun c1 => ?_) (fun c1 => ?_)
  · skip
    refine lv_iload_n hx hb dX2_inletOf_19 rfl (lv_at hl 2 rfl) ?_
    exact g_iret F hr hlk hH (by first | rfl | (simp only [sinl, c1, if_true, if_false, ↓reduceIte]; done) | (simp only [sinl, c1, if_true, if_false, ↓reduceIte]; rfl)) (by first | rfl | (simp only [sinl, c1, if_true, if_false, ↓reduceIte]; done) | (simp only [sinl, c1, if_true, if_false, ↓reduceIte]; rfl)) dX2_inletOf_20
  · skip
    refine lv_iload_n hx hb dX2_inletOf_4 rfl (lv_at hl 1 rfl) ?_
    refine lv_bipush (v := 8) hx hb dX2_inletOf_5 (by decide) ?_
    refine lv_icmp_ge (tgt := 19) hx hb dX2_inletOf_7 (by decide) (fun c2 => ?_) (fun c2 => ?_)
    · skip
      refine lv_iload_n hx hb dX2_inletOf_19 rfl (lv_at hl 2 rfl) ?_
      exact g_iret F hr hlk hH (by first | rfl | (simp only [sinl, c1, c2, if_true, if_false, ↓reduceIte]; done) | (simp only [sinl, c1, c2, if_true, if_false, ↓reduceIte]; rfl)) (by first | rfl | (simp only [sinl, c1, c2, if_true, if_false, ↓reduceIte]; done) | (simp only [sinl, c1, c2, if_true, if_false, ↓reduceIte]; rfl)) dX2_inletOf_20
    · skip
      obtain ⟨q, hq, rfl⟩ : ∃ q : Nat, q < 8 ∧ a = nI q := (by have h := pk_ix a (n := 8) (by omega); rcases h with h | h | h; exact absurd h c1; exact absurd h c2; exact h)
      refine lv_aload_n hx hb dX2_inletOf_10 rfl (lv_at hl 0 rfl) ?_
      refine g_get (x := .ref (eAd E 4)) F hH inX2 (hE.1 2 (by decide)) (cq_sch E _) rfl 1 (by decide) (hts (.fieldLink RX2 15 "DryingKiln$Schedule" "inlets" "[I") (by decide +kernel)) (fun _ h => h) rfl dX2_inletOf_11 ?_
      refine lv_iload_n hx hb dX2_inletOf_14 rfl (lv_at hl 1 rfl) ?_
      refine g_iald (n := 8) (x := v 4 (nI q).toNatClampNeg) F hH (hE.1 4 (by decide)) rfl q rfl hq (by omega) (by rw [nI_clamp (by omega)]) dX2_inletOf_15 ?_
      refine lv_goto (tgt := 20) hx hb dX2_inletOf_16 (by decide) ?_
      exact g_iret F hr hlk hH (by first | rfl | (simp only [sinl, c1, c2, if_true, if_false, ↓reduceIte]; done) | (simp only [sinl, c1, c2, if_true, if_false, ↓reduceIte]; rfl)) (by first | rfl | (simp only [sinl, c1, c2, if_true, if_false, ↓reduceIte]; done) | (simp only [sinl, c1, c2, if_true, if_false, ↓reduceIte]; rfl)) dX2_inletOf_20
end
section
/-! what the load's functions leave alone -/
theorem bdry_ne (E : Ev) {i j : Nat} (a : Int32) (v : Mem) {q : Nat} (h1 : q ≠ bo i j) (h2 : q ≠ ba i j) : bdry E i j a v q = v q := by
  rw [bdry, up_ne _ _ h2, st_ne _ _ _ h1]
theorem ldp_ne (E : Ev) {i : Nat} (a : Int32) (v : Mem) {q : Nat} (h1 : ∀ j, q ≠ bo i j) (h2 : ∀ j, q ≠ ba i j) : ∀ t, (ldp E i a v t).1 q = v q
  | 0 => rfl
  | t + 1 => by
    show bdry E i _ _ (ldp E i a v t).1 q = v q
    rw [bdry_ne E _ _ (h1 _) (h2 _), ldp_ne E a v h1 h2 t]
theorem lcnt_ne {i : Nat} (x : Int32) (v : Mem) {q : Nat} (h : q ≠ 5 + i) : lcnt i x v q = v q := by
  unfold lcnt
  by_cases h1 : x ≤ 0
  · rw [if_pos h1, st_ne _ _ _ h]
  · rw [if_neg h1]
    by_cases h2 : v (5 + i) 1 + 1 - (v (5 + i) 1 + 1) / x * x = 0
    · rw [if_pos h2, st_ne _ _ _ h, st_ne _ _ _ h]
    · rw [if_neg h2, st_ne _ _ _ h]
theorem ldry_ne (E : Ev) {i : Nat} (a : Int32) (v : Mem) {q : Nat} (h0 : q ≠ 5 + i) (h1 : ∀ j, q ≠ bo i j) (h2 : ∀ j, q ≠ ba i j) : ldry E i a v q = v q := by
  rw [ldry, lcnt_ne _ _ h0, ldp_ne E a v h1 h2]
theorem ldry_lo (E : Ev) {i : Nat} (a : Int32) (v : Mem) {q : Nat} (h : q < 100) (h0 : q ≠ 5 + i) : ldry E i a v q = v q := ldry_ne E a v h0 (fun _ => Ne.symm (ne_bl h)) (fun _ => Ne.symm (ne_al h))
theorem lcpy_lo (E : Ev) {i o : Nat} (v : Mem) {q : Nat} (h : q < 100) (h0 : q ≠ 5 + i) : lcpy E i o v q = v q := by
  rw [lcpy, st_ne _ _ _ h0, st_ne _ _ _ h0, lcp_ne E i o v (fun _ => Ne.symm (ne_al h))]
theorem lrs_ne (E : Ev) {i : Nat} (v : Mem) {q : Nat} (h : ∀ j, q ≠ ba i j) : ∀ t, lrs E i v t q = v q
  | 0 => rfl
  | t + 1 => by
    show brst E i t _ (lrs E i v t) q = v q
    rw [brst, up_ne _ _ (h t), lrs_ne E v h t]
theorem lrst_lo (E : Ev) {i : Nat} (v : Mem) {q : Nat} (h : q < 100) : lrst E i v q = v q := lrs_ne E v (fun _ => Ne.symm (ne_al h)) _
theorem lrc_ne (E : Ev) {i : Nat} (x h : Int32) (v : Mem) {q : Nat} (hq : ∀ j, q ≠ bo i j) : ∀ t, (lrc E i x h v t).1 q = v q
  | 0 => rfl
  | t + 1 => by
    have ih := lrc_ne E x h v hq t
    simp only [lrc]
    split
    · split
      · exact ih
      · show st _ _ _ _ q = v q
        rw [st_ne _ _ _ (hq t)]
        exact ih
    · exact ih
theorem isB_ntg (x : Int32) : isB (ntg x) := by
  unfold ntg
  split
  · exact Or.inr rfl
  · exact Or.inl rfl
theorem isB_lcnt {i : Nat} {x : Int32} {v : Mem} (h : isB (v (5 + i) 0)) : isB (lcnt i x v (5 + i) 0) := by
  unfold lcnt
  split
  · rw [st_nj _ _ _ (by decide)]; exact h
  · split
    · rw [st_at]; exact isB_ntg _
    · rw [st_nj _ _ _ (by decide)]; exact h
theorem isB_ldry (E : Ev) {i : Nat} (hi : i < 3) {a : Int32} {v : Mem} (h : isB (v (5 + i) 0)) : isB (ldry E i a v (5 + i) 0) := by
  unfold ldry
  refine isB_lcnt ?_
  rw [ldp_ne E a v (fun _ => Ne.symm (ne_bl (by omega))) (fun _ => Ne.symm (ne_al (by omega)))]
  exact h
theorem isB_lcpy (E : Ev) {i o : Nat} {v : Mem} (h : isB (v (5 + o) 0)) : isB (lcpy E i o v (5 + i) 0) := by
  rw [lcpy, st_nj _ _ _ (by decide), st_at]
  exact h
theorem lhas_ne {E : Ev} {i : Nat} {a : Int32} (hn : eNb E i ≤ 6) (h : ¬ lhas E i a = 0) : ∃ j, j < eNb E i ∧ a = nI j := by
  unfold lhas at h
  rcases pk_ix a (n := eNb E i) (by omega) with q | q | q
  · rw [if_pos q] at h; exact absurd rfl h
  · by_cases h0 : a < 0
    · rw [if_pos h0] at h; exact absurd rfl h
    · rw [if_neg h0, if_pos q] at h; exact absurd rfl h
  · exact q
theorem out_in {a lo hi : Int32} (h : out a lo hi = 0) : ¬ a < lo ∧ a ≤ hi := by
  unfold out at h
  by_cases h1 : a < lo
  · rw [if_pos h1] at h; exact absurd h (by decide)
  · rw [if_neg h1] at h
    by_cases h2 : a ≤ hi
    · exact ⟨h1, h2⟩
    · rw [if_neg h2] at h; exact absurd h (by decide)
theorem out_200 {a : Int32} (h : out a 1 200 = 0) : ∃ N, N ≤ 200 ∧ a = nI N := by
  obtain ⟨h1, h2⟩ := out_in h
  exact nI_of2 (M := 200) (by decide) (fun h => h1 (Int32.lt_iff_toInt_lt.mpr (by have := Int32.lt_iff_toInt_lt.mp h; have e0 : (0 : Int32).toInt = 0 := (by decide); have e1 : (1 : Int32).toInt = 1 := (by decide); omega))) h2
/-! the kiln -/
def kav (E : Ev) (v : Mem) (a : Int32) : Int32 := if lhas E 0 a = 0 then -1000001 else lavg E v 0 a.toNatClampNeg
def kstr (E : Ev) (v : Mem) (a : Int32) : Int32 := if lhas E 0 a = 0 then -1000001 else pstr (v (ba 0 a.toNatClampNeg)) (eLn E a.toNatClampNeg)
def kfld (E : Ev) (v : Mem) (f : Nat) (a : Int32) : Int32 := if lhas E 0 a = 0 then -1000001 else v (bo 0 a.toNatClampNeg) f
def klm (E : Ev) (v : Mem) (a b : Int32) : Int32 := if lhas E 0 a = 0 then -1000001 else if b < 0 then -1000002 else if nI (eLn E a.toNatClampNeg) ≤ b then -1000002 else v (ba 0 a.toNatClampNeg) b.toNatClampNeg
def kslr (E : Ev) (v : Mem) (a b d : Int32) : Int32 := if lhas E 0 a = 0 then -1000001 else if b < 0 then -1000002 else if b < nI (eLn E a.toNatClampNeg) then (if out d 0 2000 = 0 then v (ba 0 a.toNatClampNeg) b.toNatClampNeg else -1000003) else -1000002
def kslm (E : Ev) (v : Mem) (a b d : Int32) : Mem := if lhas E 0 a = 0 then v else if b < 0 then v else if b < nI (eLn E a.toNatClampNeg) then (if out d 0 2000 = 0 then st v (ba 0 a.toNatClampNeg) b.toNatClampNeg d else v) else v
def kall (E : Ev) : Int32 := (1 <<< (nI (eNb E 0) &&& 31)) - 1
def kse (E : Ev) (v : Mem) (a : Int32) : Int32 := if a = 0 then -1000003 else if a &&& (kall E ^^^ -1) = 0 then lmean E v 0 a - lmean E v 0 (kall E) else -1000003
def ksr (v : Mem) (j : Nat) (a lo hi : Int32) : Int32 := if out a lo hi = 0 then v 1 j else -1000003
def ksm (v : Mem) (j : Nat) (a lo hi : Int32) : Mem := if out a lo hi = 0 then st v 1 j a else v
def kend (E : Ev) (v : Mem) : Mem × Int32 := lrc E 0 (v 1 3) (v 0 6 + 1) (st v 0 6 (v 0 6 + 1)) (eNb E 0)
def krh (E : Ev) (a : Int32) (v : Mem) : Mem := (kend E (st (ldry E 0 a v) 0 7 (v 0 7 + lgiv E 0 a v))).1
def kdp (E : Ev) (v : Mem) : Nat → Mem × Int32
  | 0 => (v, 0)
  | t + 1 => (krh E ((kdp E v t).1 1 4) (kdp E v t).1, (kdp E v t).2 + lgiv E 0 ((kdp E v t).1 1 4) (kdp E v t).1)
def kdr (E : Ev) (v : Mem) (a : Int32) : Int32 := if out a 1 200 = 0 then (kdp E v a.toNatClampNeg).2 else -1000003
def kdm (E : Ev) (v : Mem) (a : Int32) : Mem := if out a 1 200 = 0 then (kdp E v a.toNatClampNeg).1 else v
def krp (E : Ev) (v : Mem) : Nat → Mem × Int32
  | 0 => (v, 0)
  | t + 1 => ((kend E (lrst E 0 (krp E v t).1)).1, (krp E v t).2 + (kend E (lrst E 0 (krp E v t).1)).2)
def krr (E : Ev) (v : Mem) (a : Int32) : Int32 := if out a 1 200 = 0 then (krp E v a.toNatClampNeg).2 else -1000003
def krm (E : Ev) (v : Mem) (a : Int32) : Mem := if out a 1 200 = 0 then (krp E v a.toNatClampNeg).1 else v
def kasr (v : Mem) (ns : Nat) (a b : Int32) : Int32 := if out a 0 2000 = 0 then (if out b 0 300 = 0 then sappr v ns a else -1000003) else -1000003
def kasm (v : Mem) (ns : Nat) (a b : Int32) : Mem := if out a 0 2000 = 0 then (if out b 0 300 = 0 then sappm v ns a b else v) else v
def kcs (E : Ev) (v : Mem) (ns : Nat) : Int32 := if nI (eNb E 0) = 0 then -1000005 else sst v (lga E v 0 (eNb E 0)) ns
def ksi (E : Ev) (v : Mem) (ns : Nat) : Int32 := sinl v (kcs E v ns) (v 1 4)
def krs (E : Ev) (ns : Nat) (a : Int32) : Nat → Mem → Mem × Nat
  | 0, v => (v, 0)
  | n + 1, v => if iwt E v 0 a = 0 then (v, 0) else ((krs E ns a n (krh E (ksi E v ns) v)).1, (krs E ns a n (krh E (ksi E v ns) v)).2 + 1)
def ksdr (E : Ev) (v : Mem) (ns : Nat) (a b : Int32) : Int32 := if out a 0 2000 = 0 then (if out b 1 200 = 0 then nI (krs E ns a b.toNatClampNeg v).2 else -1000003) else -1000003
def ksdm (E : Ev) (v : Mem) (ns : Nat) (a b : Int32) : Mem := if out a 0 2000 = 0 then (if out b 1 200 = 0 then (krs E ns a b.toNatClampNeg v).1 else v) else v
/-- an inlet moisture is tried on the third load -/
def ktry (E : Ev) (t : Nat) (w : Mem) : Mem := ldry E 2 (nI (10 * t)) (lcpy E 2 1 w)
def kch (E : Ev) : Nat → Nat → Mem → Mem × Int32
  | 0, _, w => (w, -1000006)
  | n + 1, t, w => if ktry E t w 1 3 < lgg E (ktry E t w) 2 (eNb E 2) then kch E n (t + 1) (ktry E t w) else (ktry E t w, nI (10 * t))
def kps (E : Ev) (t : Nat) (w : Mem) : Mem := if (kch E 31 0 w).2 = -1000006 then lrst E 1 (st (kch E 31 0 w).1 11 t (kch E 31 0 w).2) else lcpy E 1 2 (st (kch E 31 0 w).1 11 t (kch E 31 0 w).2)
def kpn (E : Ev) (a : Int32) : Nat → Nat → Mem → Mem × Nat
  | 0, t, w => (w, t)
  | n + 1, t, w => if iwt E w 1 a = 0 then (w, t) else kpn E a n (t + 1) (kps E t w)
def kplm (E : Ev) (v : Mem) (a : Int32) : Mem := (kpn E a 300 0 (lcpy E 1 0 v)).1
def kplr (E : Ev) (v : Mem) (a : Int32) : Int32 := if iwt E (kplm E v a) 1 a = 0 then nI (kpn E a 300 0 (lcpy E 1 0 v)).2 else -1000005
def kphr (E : Ev) (v : Mem) (a : Int32) : Int32 := if out a 0 2000 = 0 then kplr E v a else -1000003
def kphm (E : Ev) (v : Mem) (a : Int32) : Mem := if out a 0 2000 = 0 then kplm E v a else v
def kpir (E : Ev) (v : Mem) (a b : Int32) : Int32 := if out a 0 2000 = 0 then (if 0 ≤ b then (if kplr E v a ≤ b then -1000005 else if nI 300 ≤ b then -1000005 else kplm E v a 11 b.toNatClampNeg) else -1000003) else -1000003
def kpim (E : Ev) (v : Mem) (a b : Int32) : Mem := if out a 0 2000 = 0 then (if 0 ≤ b then kplm E v a else v) else v
theorem kend_lo (E : Ev) (v : Mem) {q : Nat} (h : q < 100) (h0 : q ≠ 0) : (kend E v).1 q = v q := by
  rw [kend, lrc_ne E _ _ _ (fun _ => Ne.symm (ne_bl h)), st_ne _ _ _ h0]
theorem krh_lo (E : Ev) (a : Int32) (v : Mem) {q : Nat} (h : q < 100) (h0 : q ≠ 0) (h5 : q ≠ 5) : krh E a v q = v q := by
  rw [krh, kend_lo E _ h h0, st_ne _ _ _ h0, ldry_lo E _ _ h h5]
theorem ktry_lo (E : Ev) (t : Nat) (w : Mem) {q : Nat} (h : q < 100) (h7 : q ≠ 7) : ktry E t w q = w q := by
  rw [ktry, ldry_lo E _ _ h h7, lcpy_lo E _ h h7]
theorem kch_lo (E : Ev) {q : Nat} (h : q < 100) (h7 : q ≠ 7) : ∀ (n t : Nat) (w : Mem), (kch E n t w).1 q = w q
  | 0, _, _ => rfl
  | n + 1, t, w => by
    simp only [kch]
    split
    · rw [kch_lo E h h7 n (t + 1), ktry_lo E t w h h7]
    · exact ktry_lo E t w h h7
theorem isB_ktry (E : Ev) (t : Nat) {w : Mem} (h : isB (w 6 0)) : isB (ktry E t w 7 0) := isB_ldry E (by decide) (isB_lcpy E (i := 2) (o := 1) h)
theorem kch_isB (E : Ev) : ∀ (n t : Nat) (w : Mem), isB (w 6 0) → ¬ (kch E n t w).2 = -1000006 → isB ((kch E n t w).1 7 0)
  | 0, _, _, _, h => absurd rfl h
  | n + 1, t, w, hw, h => by
    simp only [kch] at h ⊢
    split
    · rename_i h1
      rw [if_pos h1] at h
      exact kch_isB E n (t + 1) (ktry E t w) (by rw [ktry_lo E t w (by decide) (by decide)]; exact hw) h
    · exact isB_ktry E t hw
theorem kps_isB (E : Ev) (t : Nat) {w : Mem} (hw : isB (w 6 0)) : isB (kps E t w 6 0) := by
  unfold kps
  split
  · rw [lrst_lo E _ (by decide), st_ne _ _ _ (by decide), kch_lo E (by decide) (by decide)]
    exact hw
  · rename_i h
    refine isB_lcpy E (i := 1) (o := 2) ?_
    show isB (st _ 11 t _ 7 0)
    rw [st_ne _ _ _ (by decide)]
    exact kch_isB E 31 0 w hw h
theorem kch_stop (E : Ev) (n t : Nat) (w : Mem) (h : ¬ ktry E t w 1 3 < lgg E (ktry E t w) 2 (eNb E 2)) : kch E (n + 1) t w = (ktry E t w, nI (10 * t)) := if_neg h
end
section
set_option maxHeartbeats 4000000 in
set_option maxRecDepth 100000 in
theorem c_X4_averageMoisture (l : Launch) (E : Ev) (hE : EO E) (v : Mem) (a : Int32) : Ci l yX4_averageMoisture wsX4_averageMoisture ({ frames := 4, cells := 0, slots := 0, locals := 85 } : Room) E [.ref (eAd E 0), .int a] v (kav E v a) v := by
  refine Ci.of (cc := cX4_averageMoisture) (maxL := 2) (ret := (some .int)) (own := RX4) (by decide) rfl rfl (Nat.le_of_ble_eq_true rfl) ?_
  intro p e s m below meth c F hr hlk ls hl hH
  obtain ⟨hx, hb, hml, hown, hts⟩ := id F.1
  have hl : lv_has ls 2 [(0, .ref (eAd E 0)), (1, .int a)] := hl
  have inJx4a65c : ∀ w ∈ wsJx4a65c0, w ∈ wsX4_averageMoisture := fun w h => List.mem_cons_of_mem _ (List.mem_append_left _ (List.mem_append_right _ h))
  have inX0 : ∀ w ∈ wsX00, w ∈ wsX4_averageMoisture := fun w h => List.mem_cons_of_mem _ (List.mem_append_right _ h)
  have inX1 : ∀ w ∈ wsX10, w ∈ wsX4_averageMoisture := fun w h => List.mem_cons_of_mem _ (List.mem_append_left _ (List.mem_append_left _ (List.mem_append_right _ h)))
  have inX4 : ∀ w ∈ wsX40, w ∈ wsX4_averageMoisture := fun w h => List.mem_cons_of_mem _ (List.mem_append_left _ (List.mem_append_left _ (List.mem_append_left _ (List.mem_append_right _ h))))
  have hnb := hE.2.2.2.2.1 0 (by decide)
  refine lv_aload_n hx hb dX4_averageMoisture_0 rfl (lv_at hl 0 rfl) ?_
  refine g_get (x := .ref (eAd E 5)) F hH inX4 (hE.1 0 (by decide)) (cq_kiln E _) rfl 2 (by decide) (hts (.fieldLink RX4 26 "DryingKiln" "load" "LDryingKiln$Load;") (by decide +kernel)) (fun _ h => h) rfl dX4_averageMoisture_1 ?_
  refine lv_iload_n hx hb dX4_averageMoisture_4 rfl (lv_at hl 1 rfl) ?_
  refine g_vi (As := [.int a]) F hH (c_X1_has l E hE v 0 a (by first | assumption | omega | decide)) (cwV 1 hts gX4_averageMoisture_X1_has rfl rfl rfl (by decide +kernel) ⟨Nat.le_of_ble_eq_true rfl, Nat.le_of_ble_eq_true rfl⟩) (hE.1 5 (by decide)) (cq_ld E _ (i := 0) (by decide)) rfl rfl hl.1 [] rfl (Nat.le_of_ble_eq_true rfl) dX4_averageMoisture_5 ⟨Nat.zero_le _, Nat.zero_le _⟩ (fun H locs hH => ?_)
  refine lv_if_eq (tgt := 25) hx hb dX4_averageMoisture_8 (by decide) (fun c1 => ?_) (fun c1 => ?_)
  · skip
    refine lv_ldc (v := -1000001) hx hb hown (hts (.constant RX4 70 (-1000001)) (by decide +kernel)) dX4_averageMoisture_25 ?_
    exact g_iret F hr hlk hH (by first | rfl | (simp only [kav, c1, if_true, if_false, ↓reduceIte]; done) | (simp only [kav, c1, if_true, if_false, ↓reduceIte]; rfl)) (by first | rfl | (simp only [kav, c1, if_true, if_false, ↓reduceIte]; done) | (simp only [kav, c1, if_true, if_false, ↓reduceIte]; rfl)) dX4_averageMoisture_27
  · skip
    obtain ⟨j, hj, rfl⟩ := lhas_ne hnb c1
    have hcl : (nI j).toNatClampNeg = j := nI_clamp (by omega)
    refine lv_aload_n hx hb dX4_averageMoisture_11 rfl (lv_at hl 0 rfl) ?_
    refine g_get (x := .ref (eAd E 5)) F hH inX4 (hE.1 0 (by decide)) (cq_kiln E _) rfl 2 (by decide) (hts (.fieldLink RX4 26 "DryingKiln" "load" "LDryingKiln$Load;") (by decide +kernel)) (fun _ h => h) rfl dX4_averageMoisture_12 ?_
    refine lv_iload_n hx hb dX4_averageMoisture_15 rfl (lv_at hl 1 rfl) ?_
    refine g_vr (As := [.int (nI j)]) F hH (c_X1_boardAt l E hE v 0 j (by decide) hj) (cwV 1 hts gX4_averageMoisture_X1_boardAt rfl rfl rfl (by decide +kernel) ⟨Nat.le_of_ble_eq_true rfl, Nat.le_of_ble_eq_true rfl⟩) (hE.1 5 (by decide)) (cq_ld E _ (i := 0) (by decide)) rfl rfl hl.1 [] rfl (Nat.le_of_ble_eq_true rfl) dX4_averageMoisture_16 ⟨Nat.zero_le _, Nat.zero_le _⟩ (fun H locs hH => ?_)
    refine g_vi (As := []) F hH (c_X0_average l E hE v 0 j (by decide) hj) (cwV 0 hts gX4_averageMoisture_X0_average rfl rfl rfl (by decide +kernel) ⟨Nat.le_of_ble_eq_true rfl, Nat.le_of_ble_eq_true rfl⟩) (hE.2.2.2.1 0 j (by decide) hj).1 (cq_bo E _ (by omega)) rfl rfl hl.1 [] rfl (Nat.le_of_ble_eq_true rfl) dX4_averageMoisture_19 ⟨Nat.zero_le _, Nat.zero_le _⟩ (fun H locs hH => ?_)
    refine lv_goto (tgt := 27) hx hb dX4_averageMoisture_22 (by decide) ?_
    exact g_iret F hr hlk hH (by first | rfl | (simp only [kav, c1, hcl, if_true, if_false, ↓reduceIte]; done) | (simp only [kav, c1, hcl, if_true, if_false, ↓reduceIte]; rfl)) (by first | rfl | (simp only [kav, c1, hcl, if_true, if_false, ↓reduceIte]; done) | (simp only [kav, c1, hcl, if_true, if_false, ↓reduceIte]; rfl)) dX4_averageMoisture_27

set_option maxHeartbeats 4000000 in
set_option maxRecDepth 100000 in
theorem c_X4_strain (l : Launch) (E : Ev) (hE : EO E) (v : Mem) (a : Int32) : Ci l yX4_strain wsX4_strain ({ frames := 4, cells := 0, slots := 0, locals := 85 } : Room) E [.ref (eAd E 0), .int a] v (kstr E v a) v := by
  refine Ci.of (cc := cX4_strain) (maxL := 2) (ret := (some .int)) (own := RX4) (by decide) rfl rfl (Nat.le_of_ble_eq_true rfl) ?_
  intro p e s m below meth c F hr hlk ls hl hH
  obtain ⟨hx, hb, hml, hown, hts⟩ := id F.1
  have hl : lv_has ls 2 [(0, .ref (eAd E 0)), (1, .int a)] := hl
  have inJx4a65c : ∀ w ∈ wsJx4a65c0, w ∈ wsX4_strain := fun w h => List.mem_cons_of_mem _ (List.mem_append_left _ (List.mem_append_right _ h))
  have inX0 : ∀ w ∈ wsX00, w ∈ wsX4_strain := fun w h => List.mem_cons_of_mem _ (List.mem_append_right _ h)
  have inX1 : ∀ w ∈ wsX10, w ∈ wsX4_strain := fun w h => List.mem_cons_of_mem _ (List.mem_append_left _ (List.mem_append_left _ (List.mem_append_right _ h)))
  have inX4 : ∀ w ∈ wsX40, w ∈ wsX4_strain := fun w h => List.mem_cons_of_mem _ (List.mem_append_left _ (List.mem_append_left _ (List.mem_append_left _ (List.mem_append_right _ h))))
  have hnb := hE.2.2.2.2.1 0 (by decide)
  refine lv_aload_n hx hb dX4_strain_0 rfl (lv_at hl 0 rfl) ?_
  refine g_get (x := .ref (eAd E 5)) F hH inX4 (hE.1 0 (by decide)) (cq_kiln E _) rfl 2 (by decide) (hts (.fieldLink RX4 26 "DryingKiln" "load" "LDryingKiln$Load;") (by decide +kernel)) (fun _ h => h) rfl dX4_strain_1 ?_
  refine lv_iload_n hx hb dX4_strain_4 rfl (lv_at hl 1 rfl) ?_
  refine g_vi (As := [.int a]) F hH (c_X1_has l E hE v 0 a (by first | assumption | omega | decide)) (cwV 1 hts gX4_strain_X1_has rfl rfl rfl (by decide +kernel) ⟨Nat.le_of_ble_eq_true rfl, Nat.le_of_ble_eq_true rfl⟩) (hE.1 5 (by decide)) (cq_ld E _ (i := 0) (by decide)) rfl rfl hl.1 [] rfl (Nat.le_of_ble_eq_true rfl) dX4_strain_5 ⟨Nat.zero_le _, Nat.zero_le _⟩ (fun H locs hH => ?_)
  refine lv_if_eq (tgt := 25) hx hb dX4_strain_8 (by decide) (fun c1 => ?_) (fun c1 => ?_)
  · skip
    refine lv_ldc (v := -1000001) hx hb hown (hts (.constant RX4 70 (-1000001)) (by decide +kernel)) dX4_strain_25 ?_
    exact g_iret F hr hlk hH (by first | rfl | (simp only [kstr, c1, if_true, if_false, ↓reduceIte]; done) | (simp only [kstr, c1, if_true, if_false, ↓reduceIte]; rfl)) (by first | rfl | (simp only [kstr, c1, if_true, if_false, ↓reduceIte]; done) | (simp only [kstr, c1, if_true, if_false, ↓reduceIte]; rfl)) dX4_strain_27
  · skip
    obtain ⟨j, hj, rfl⟩ := lhas_ne hnb c1
    have hcl : (nI j).toNatClampNeg = j := nI_clamp (by omega)
    refine lv_aload_n hx hb dX4_strain_11 rfl (lv_at hl 0 rfl) ?_
    refine g_get (x := .ref (eAd E 5)) F hH inX4 (hE.1 0 (by decide)) (cq_kiln E _) rfl 2 (by decide) (hts (.fieldLink RX4 26 "DryingKiln" "load" "LDryingKiln$Load;") (by decide +kernel)) (fun _ h => h) rfl dX4_strain_12 ?_
    refine lv_iload_n hx hb dX4_strain_15 rfl (lv_at hl 1 rfl) ?_
    refine g_vr (As := [.int (nI j)]) F hH (c_X1_boardAt l E hE v 0 j (by decide) hj) (cwV 1 hts gX4_strain_X1_boardAt rfl rfl rfl (by decide +kernel) ⟨Nat.le_of_ble_eq_true rfl, Nat.le_of_ble_eq_true rfl⟩) (hE.1 5 (by decide)) (cq_ld E _ (i := 0) (by decide)) rfl rfl hl.1 [] rfl (Nat.le_of_ble_eq_true rfl) dX4_strain_16 ⟨Nat.zero_le _, Nat.zero_le _⟩ (fun H locs hH => ?_)
    refine g_vi (As := []) F hH (c_X0_gradient l E hE v 0 j (by decide) hj) (cwV 0 hts gX4_strain_X0_gradient rfl rfl rfl (by decide +kernel) ⟨Nat.le_of_ble_eq_true rfl, Nat.le_of_ble_eq_true rfl⟩) (hE.2.2.2.1 0 j (by decide) hj).1 (cq_bo E _ (by omega)) rfl rfl hl.1 [] rfl (Nat.le_of_ble_eq_true rfl) dX4_strain_19 ⟨Nat.zero_le _, Nat.zero_le _⟩ (fun H locs hH => ?_)
    refine lv_goto (tgt := 27) hx hb dX4_strain_22 (by decide) ?_
    exact g_iret F hr hlk hH (by first | rfl | (simp only [kstr, c1, hcl, if_true, if_false, ↓reduceIte]; done) | (simp only [kstr, c1, hcl, if_true, if_false, ↓reduceIte]; rfl)) (by first | rfl | (simp only [kstr, c1, hcl, if_true, if_false, ↓reduceIte]; done) | (simp only [kstr, c1, hcl, if_true, if_false, ↓reduceIte]; rfl)) dX4_strain_27

set_option maxHeartbeats 4000000 in
set_option maxRecDepth 100000 in
theorem c_X4_checkHour (l : Launch) (E : Ev) (hE : EO E) (v : Mem) (a : Int32) : Ci l yX4_checkHour wsX4_checkHour ({ frames := 4, cells := 0, slots := 0, locals := 85 } : Room) E [.ref (eAd E 0), .int a] v (kfld E v 1 a) v := by
  refine Ci.of (cc := cX4_checkHour) (maxL := 2) (ret := (some .int)) (own := RX4) (by decide) rfl rfl (Nat.le_of_ble_eq_true rfl) ?_
  intro p e s m below meth c F hr hlk ls hl hH
  obtain ⟨hx, hb, hml, hown, hts⟩ := id F.1
  have hl : lv_has ls 2 [(0, .ref (eAd E 0)), (1, .int a)] := hl
  have inJx4a65c : ∀ w ∈ wsJx4a65c0, w ∈ wsX4_checkHour := fun w h => List.mem_cons_of_mem _ (List.mem_append_right _ h)
  have inX0 : ∀ w ∈ wsX00, w ∈ wsX4_checkHour := fun w h => List.mem_cons_of_mem _ (List.mem_append_left _ (List.mem_append_left _ (List.mem_append_right _ h)))
  have inX1 : ∀ w ∈ wsX10, w ∈ wsX4_checkHour := fun w h => List.mem_cons_of_mem _ (List.mem_append_left _ (List.mem_append_right _ h))
  have inX4 : ∀ w ∈ wsX40, w ∈ wsX4_checkHour := fun w h => List.mem_cons_of_mem _ (List.mem_append_left _ (List.mem_append_left _ (List.mem_append_left _ (List.mem_append_right _ h))))
  have hnb := hE.2.2.2.2.1 0 (by decide)
  refine lv_aload_n hx hb dX4_checkHour_0 rfl (lv_at hl 0 rfl) ?_
  refine g_get (x := .ref (eAd E 5)) F hH inX4 (hE.1 0 (by decide)) (cq_kiln E _) rfl 2 (by decide) (hts (.fieldLink RX4 26 "DryingKiln" "load" "LDryingKiln$Load;") (by decide +kernel)) (fun _ h => h) rfl dX4_checkHour_1 ?_
  refine lv_iload_n hx hb dX4_checkHour_4 rfl (lv_at hl 1 rfl) ?_
  refine g_vi (As := [.int a]) F hH (c_X1_has l E hE v 0 a (by first | assumption | omega | decide)) (cwV 1 hts gX4_checkHour_X1_has rfl rfl rfl (by decide +kernel) ⟨Nat.le_of_ble_eq_true rfl, Nat.le_of_ble_eq_true rfl⟩) (hE.1 5 (by decide)) (cq_ld E _ (i := 0) (by decide)) rfl rfl hl.1 [] rfl (Nat.le_of_ble_eq_true rfl) dX4_checkHour_5 ⟨Nat.zero_le _, Nat.zero_le _⟩ (fun H locs hH => ?_)
  refine lv_if_eq (tgt := 25) hx hb dX4_checkHour_8 (by decide) (fun c1 => ?_) (fun c1 => ?_)
  · skip
    refine lv_ldc (v := -1000001) hx hb hown (hts (.constant RX4 70 (-1000001)) (by decide +kernel)) dX4_checkHour_25 ?_
    exact g_iret F hr hlk hH (by first | rfl | (simp only [kfld, c1, if_true, if_false, ↓reduceIte]; done) | (simp only [kfld, c1, if_true, if_false, ↓reduceIte]; rfl)) (by first | rfl | (simp only [kfld, c1, if_true, if_false, ↓reduceIte]; done) | (simp only [kfld, c1, if_true, if_false, ↓reduceIte]; rfl)) dX4_checkHour_27
  · skip
    obtain ⟨j, hj, rfl⟩ := lhas_ne hnb c1
    have hcl : (nI j).toNatClampNeg = j := nI_clamp (by omega)
    refine lv_aload_n hx hb dX4_checkHour_11 rfl (lv_at hl 0 rfl) ?_
    refine g_get (x := .ref (eAd E 5)) F hH inX4 (hE.1 0 (by decide)) (cq_kiln E _) rfl 2 (by decide) (hts (.fieldLink RX4 26 "DryingKiln" "load" "LDryingKiln$Load;") (by decide +kernel)) (fun _ h => h) rfl dX4_checkHour_12 ?_
    refine lv_iload_n hx hb dX4_checkHour_15 rfl (lv_at hl 1 rfl) ?_
    refine g_vr (As := [.int (nI j)]) F hH (c_X1_boardAt l E hE v 0 j (by decide) hj) (cwV 1 hts gX4_checkHour_X1_boardAt rfl rfl rfl (by decide +kernel) ⟨Nat.le_of_ble_eq_true rfl, Nat.le_of_ble_eq_true rfl⟩) (hE.1 5 (by decide)) (cq_ld E _ (i := 0) (by decide)) rfl rfl hl.1 [] rfl (Nat.le_of_ble_eq_true rfl) dX4_checkHour_16 ⟨Nat.zero_le _, Nat.zero_le _⟩ (fun H locs hH => ?_)
    refine g_get (x := .int (v (bo 0 j) 1)) F hH inX0 (hE.2.2.2.1 0 j (by decide) hj).1 (cq_bo E _ (by omega)) rfl 1 (by decide) (hts (.fieldLink RX4 85 "DryingKiln$Board" "checkedAt" "I") (by decide +kernel)) (fun _ h => h) rfl dX4_checkHour_19 ?_
    refine lv_goto (tgt := 27) hx hb dX4_checkHour_22 (by decide) ?_
    exact g_iret F hr hlk hH (by first | rfl | (simp only [kfld, c1, hcl, if_true, if_false, ↓reduceIte]; done) | (simp only [kfld, c1, hcl, if_true, if_false, ↓reduceIte]; rfl)) (by first | rfl | (simp only [kfld, c1, hcl, if_true, if_false, ↓reduceIte]; done) | (simp only [kfld, c1, hcl, if_true, if_false, ↓reduceIte]; rfl)) dX4_checkHour_27

set_option maxHeartbeats 4000000 in
set_option maxRecDepth 100000 in
theorem c_X4_airMoisture (l : Launch) (E : Ev) (hE : EO E) (v : Mem) (a : Int32) : Ci l yX4_airMoisture wsX4_airMoisture ({ frames := 4, cells := 0, slots := 0, locals := 85 } : Room) E [.ref (eAd E 0), .int a] v (kfld E v 2 a) v := by
  refine Ci.of (cc := cX4_airMoisture) (maxL := 2) (ret := (some .int)) (own := RX4) (by decide) rfl rfl (Nat.le_of_ble_eq_true rfl) ?_
  intro p e s m below meth c F hr hlk ls hl hH
  obtain ⟨hx, hb, hml, hown, hts⟩ := id F.1
  have hl : lv_has ls 2 [(0, .ref (eAd E 0)), (1, .int a)] := hl
  have inJx4a65c : ∀ w ∈ wsJx4a65c0, w ∈ wsX4_airMoisture := fun w h => List.mem_cons_of_mem _ (List.mem_append_right _ h)
  have inX0 : ∀ w ∈ wsX00, w ∈ wsX4_airMoisture := fun w h => List.mem_cons_of_mem _ (List.mem_append_left _ (List.mem_append_left _ (List.mem_append_right _ h)))
  have inX1 : ∀ w ∈ wsX10, w ∈ wsX4_airMoisture := fun w h => List.mem_cons_of_mem _ (List.mem_append_left _ (List.mem_append_right _ h))
  have inX4 : ∀ w ∈ wsX40, w ∈ wsX4_airMoisture := fun w h => List.mem_cons_of_mem _ (List.mem_append_left _ (List.mem_append_left _ (List.mem_append_left _ (List.mem_append_right _ h))))
  have hnb := hE.2.2.2.2.1 0 (by decide)
  refine lv_aload_n hx hb dX4_airMoisture_0 rfl (lv_at hl 0 rfl) ?_
  refine g_get (x := .ref (eAd E 5)) F hH inX4 (hE.1 0 (by decide)) (cq_kiln E _) rfl 2 (by decide) (hts (.fieldLink RX4 26 "DryingKiln" "load" "LDryingKiln$Load;") (by decide +kernel)) (fun _ h => h) rfl dX4_airMoisture_1 ?_
  refine lv_iload_n hx hb dX4_airMoisture_4 rfl (lv_at hl 1 rfl) ?_
  refine g_vi (As := [.int a]) F hH (c_X1_has l E hE v 0 a (by first | assumption | omega | decide)) (cwV 1 hts gX4_airMoisture_X1_has rfl rfl rfl (by decide +kernel) ⟨Nat.le_of_ble_eq_true rfl, Nat.le_of_ble_eq_true rfl⟩) (hE.1 5 (by decide)) (cq_ld E _ (i := 0) (by decide)) rfl rfl hl.1 [] rfl (Nat.le_of_ble_eq_true rfl) dX4_airMoisture_5 ⟨Nat.zero_le _, Nat.zero_le _⟩ (fun H locs hH => ?_)
  refine lv_if_eq (tgt := 25) hx hb dX4_airMoisture_8 (by decide) (fun c1 => ?_) (fun c1 => ?_)
  · skip
    refine lv_ldc (v := -1000001) hx hb hown (hts (.constant RX4 70 (-1000001)) (by decide +kernel)) dX4_airMoisture_25 ?_
    exact g_iret F hr hlk hH (by first | rfl | (simp only [kfld, c1, if_true, if_false, ↓reduceIte]; done) | (simp only [kfld, c1, if_true, if_false, ↓reduceIte]; rfl)) (by first | rfl | (simp only [kfld, c1, if_true, if_false, ↓reduceIte]; done) | (simp only [kfld, c1, if_true, if_false, ↓reduceIte]; rfl)) dX4_airMoisture_27
  · skip
    obtain ⟨j, hj, rfl⟩ := lhas_ne hnb c1
    have hcl : (nI j).toNatClampNeg = j := nI_clamp (by omega)
    refine lv_aload_n hx hb dX4_airMoisture_11 rfl (lv_at hl 0 rfl) ?_
    refine g_get (x := .ref (eAd E 5)) F hH inX4 (hE.1 0 (by decide)) (cq_kiln E _) rfl 2 (by decide) (hts (.fieldLink RX4 26 "DryingKiln" "load" "LDryingKiln$Load;") (by decide +kernel)) (fun _ h => h) rfl dX4_airMoisture_12 ?_
    refine lv_iload_n hx hb dX4_airMoisture_15 rfl (lv_at hl 1 rfl) ?_
    refine g_vr (As := [.int (nI j)]) F hH (c_X1_boardAt l E hE v 0 j (by decide) hj) (cwV 1 hts gX4_airMoisture_X1_boardAt rfl rfl rfl (by decide +kernel) ⟨Nat.le_of_ble_eq_true rfl, Nat.le_of_ble_eq_true rfl⟩) (hE.1 5 (by decide)) (cq_ld E _ (i := 0) (by decide)) rfl rfl hl.1 [] rfl (Nat.le_of_ble_eq_true rfl) dX4_airMoisture_16 ⟨Nat.zero_le _, Nat.zero_le _⟩ (fun H locs hH => ?_)
    refine g_get (x := .int (v (bo 0 j) 2)) F hH inX0 (hE.2.2.2.1 0 j (by decide) hj).1 (cq_bo E _ (by omega)) rfl 2 (by decide) (hts (.fieldLink RX4 130 "DryingKiln$Board" "air" "I") (by decide +kernel)) (fun _ h => h) rfl dX4_airMoisture_19 ?_
    refine lv_goto (tgt := 27) hx hb dX4_airMoisture_22 (by decide) ?_
    exact g_iret F hr hlk hH (by first | rfl | (simp only [kfld, c1, hcl, if_true, if_false, ↓reduceIte]; done) | (simp only [kfld, c1, hcl, if_true, if_false, ↓reduceIte]; rfl)) (by first | rfl | (simp only [kfld, c1, hcl, if_true, if_false, ↓reduceIte]; done) | (simp only [kfld, c1, hcl, if_true, if_false, ↓reduceIte]; rfl)) dX4_airMoisture_27

set_option maxHeartbeats 4000000 in
set_option maxRecDepth 100000 in
theorem c_X4_wettestBoard (l : Launch) (E : Ev) (hE : EO E) (v : Mem) : Ci l yX4_wettestBoard wsX4_wettestBoard ({ frames := 4, cells := 0, slots := 0, locals := 88 } : Room) E [.ref (eAd E 0)] v (lwb E v 0 (eNb E 0)) v := by
  refine Ci.of (cc := cX4_wettestBoard) (maxL := 1) (ret := (some .int)) (own := RX4) (by decide) rfl rfl (Nat.le_of_ble_eq_true rfl) ?_
  intro p e s m below meth c F hr hlk ls hl hH
  obtain ⟨hx, hb, hml, hown, hts⟩ := id F.1
  have hl : lv_has ls 1 [(0, .ref (eAd E 0))] := hl
  have inJx4a65c : ∀ w ∈ wsJx4a65c0, w ∈ wsX4_wettestBoard := fun w h => List.mem_cons_of_mem _ (List.mem_append_left _ (List.mem_append_right _ h))
  have inX0 : ∀ w ∈ wsX00, w ∈ wsX4_wettestBoard := fun w h => List.mem_cons_of_mem _ (List.mem_append_right _ h)
  have inX1 : ∀ w ∈ wsX10, w ∈ wsX4_wettestBoard := fun w h => List.mem_cons_of_mem _ (List.mem_append_left _ (List.mem_append_left _ (List.mem_append_right _ h)))
  have inX4 : ∀ w ∈ wsX40, w ∈ wsX4_wettestBoard := fun w h => List.mem_cons_of_mem _ (List.mem_append_left _ (List.mem_append_left _ (List.mem_append_left _ (List.mem_append_right _ h))))
  refine lv_aload_n hx hb dX4_wettestBoard_0 rfl (lv_at hl 0 rfl) ?_
  refine g_get (x := .ref (eAd E 5)) F hH inX4 (hE.1 0 (by decide)) (cq_kiln E _) rfl 2 (by decide) (hts (.fieldLink RX4 26 "DryingKiln" "load" "LDryingKiln$Load;") (by decide +kernel)) (fun _ h => h) rfl dX4_wettestBoard_1 ?_
  refine g_vi (As := []) F hH (c_X1_wettest l E hE v 0 (by first | assumption | omega | decide)) (cwV 0 hts gX4_wettestBoard_X1_wettest rfl rfl rfl (by decide +kernel) ⟨Nat.le_of_ble_eq_true rfl, Nat.le_of_ble_eq_true rfl⟩) (hE.1 5 (by decide)) (cq_ld E _ (i := 0) (by decide)) rfl rfl hl.1 [] rfl (Nat.le_of_ble_eq_true rfl) dX4_wettestBoard_4 ⟨Nat.zero_le _, Nat.zero_le _⟩ (fun H locs hH => ?_)
  exact g_iret F hr hlk hH (by first | rfl | (simp only [if_true, if_false, ↓reduceIte]; done) | (simp only [if_true, if_false, ↓reduceIte]; rfl)) (by first | rfl | (simp only [if_true, if_false, ↓reduceIte]; done) | (simp only [if_true, if_false, ↓reduceIte]; rfl)) dX4_wettestBoard_7

set_option maxHeartbeats 4000000 in
set_option maxRecDepth 100000 in
theorem c_X4_totalWater (l : Launch) (E : Ev) (hE : EO E) (v : Mem) : Ci l yX4_totalWater wsX4_totalWater ({ frames := 4, cells := 0, slots := 0, locals := 86 } : Room) E [.ref (eAd E 0)] v (lwat E v 0 (eNb E 0)) v := by
  refine Ci.of (cc := cX4_totalWater) (maxL := 1) (ret := (some .int)) (own := RX4) (by decide) rfl rfl (Nat.le_of_ble_eq_true rfl) ?_
  intro p e s m below meth c F hr hlk ls hl hH
  obtain ⟨hx, hb, hml, hown, hts⟩ := id F.1
  have hl : lv_has ls 1 [(0, .ref (eAd E 0))] := hl
  have inJx4a65c : ∀ w ∈ wsJx4a65c0, w ∈ wsX4_totalWater := fun w h => List.mem_cons_of_mem _ (List.mem_append_left _ (List.mem_append_right _ h))
  have inX0 : ∀ w ∈ wsX00, w ∈ wsX4_totalWater := fun w h => List.mem_cons_of_mem _ (List.mem_append_right _ h)
  have inX1 : ∀ w ∈ wsX10, w ∈ wsX4_totalWater := fun w h => List.mem_cons_of_mem _ (List.mem_append_left _ (List.mem_append_left _ (List.mem_append_right _ h)))
  have inX4 : ∀ w ∈ wsX40, w ∈ wsX4_totalWater := fun w h => List.mem_cons_of_mem _ (List.mem_append_left _ (List.mem_append_left _ (List.mem_append_left _ (List.mem_append_right _ h))))
  refine lv_aload_n hx hb dX4_totalWater_0 rfl (lv_at hl 0 rfl) ?_
  refine g_get (x := .ref (eAd E 5)) F hH inX4 (hE.1 0 (by decide)) (cq_kiln E _) rfl 2 (by decide) (hts (.fieldLink RX4 26 "DryingKiln" "load" "LDryingKiln$Load;") (by decide +kernel)) (fun _ h => h) rfl dX4_totalWater_1 ?_
  refine g_vi (As := []) F hH (c_X1_water l E hE v 0 (by first | assumption | omega | decide)) (cwV 0 hts gX4_totalWater_X1_water rfl rfl rfl (by decide +kernel) ⟨Nat.le_of_ble_eq_true rfl, Nat.le_of_ble_eq_true rfl⟩) (hE.1 5 (by decide)) (cq_ld E _ (i := 0) (by decide)) rfl rfl hl.1 [] rfl (Nat.le_of_ble_eq_true rfl) dX4_totalWater_4 ⟨Nat.zero_le _, Nat.zero_le _⟩ (fun H locs hH => ?_)
  exact g_iret F hr hlk hH (by first | rfl | (simp only [if_true, if_false, ↓reduceIte]; done) | (simp only [if_true, if_false, ↓reduceIte]; rfl)) (by first | rfl | (simp only [if_true, if_false, ↓reduceIte]; done) | (simp only [if_true, if_false, ↓reduceIte]; rfl)) dX4_totalWater_7

set_option maxHeartbeats 4000000 in
set_option maxRecDepth 100000 in
theorem c_X4_setLayer (l : Launch) (E : Ev) (hE : EO E) (v : Mem) (a : Int32) (b : Int32) (d : Int32) : Ci l yX4_setLayer wsX4_setLayer ({ frames := 4, cells := 0, slots := 0, locals := 85 } : Room) E [.ref (eAd E 0), .int a, .int b, .int d] v (kslr E v a b d) (kslm E v a b d) := by
  refine Ci.of (cc := cX4_setLayer) (maxL := 6) (ret := (some .int)) (own := RX4) (by decide) rfl rfl (Nat.le_of_ble_eq_true rfl) ?_
  intro p e s m below meth c F hr hlk ls hl hH
  obtain ⟨hx, hb, hml, hown, hts⟩ := id F.1
  have hl : lv_has ls 6 [(0, .ref (eAd E 0)), (1, .int a), (2, .int b), (3, .int d)] := hl
  have inJx4a65c : ∀ w ∈ wsJx4a65c0, w ∈ wsX4_setLayer := fun w h => List.mem_cons_of_mem _ (List.mem_append_right _ h)
  have inX0 : ∀ w ∈ wsX00, w ∈ wsX4_setLayer := fun w h => List.mem_cons_of_mem _ (List.mem_append_left _ (List.mem_append_left _ (List.mem_append_right _ h)))
  have inX1 : ∀ w ∈ wsX10, w ∈ wsX4_setLayer := fun w h => List.mem_cons_of_mem _ (List.mem_append_left _ (List.mem_append_right _ h))
  have inX4 : ∀ w ∈ wsX40, w ∈ wsX4_setLayer := fun w h => List.mem_cons_of_mem _ (List.mem_append_left _ (List.mem_append_left _ (List.mem_append_left _ (List.mem_append_right _ h))))
  have hnb := hE.2.2.2.2.1 0 (by decide)
  refine lv_aload_n hx hb dX4_setLayer_0 rfl (lv_at hl 0 rfl) ?_
  refine g_get (x := .ref (eAd E 5)) F hH inX4 (hE.1 0 (by decide)) (cq_kiln E _) rfl 2 (by decide) (hts (.fieldLink RX4 26 "DryingKiln" "load" "LDryingKiln$Load;") (by decide +kernel)) (fun _ h => h) rfl dX4_setLayer_1 ?_
  refine lv_iload_n hx hb dX4_setLayer_4 rfl (lv_at hl 1 rfl) ?_
  refine g_vi (As := [.int a]) F hH (c_X1_has l E hE v 0 a (by first | assumption | omega | decide)) (cwV 1 hts gX4_setLayer_X1_has rfl rfl rfl (by decide +kernel) ⟨Nat.le_of_ble_eq_true rfl, Nat.le_of_ble_eq_true rfl⟩) (hE.1 5 (by decide)) (cq_ld E _ (i := 0) (by decide)) rfl rfl hl.1 [] rfl (Nat.le_of_ble_eq_true rfl) dX4_setLayer_5 ⟨Nat.zero_le _, Nat.zero_le _⟩ (fun H locs hH => ?_)
  refine lv_if_ne (tgt := 14) hx hb dX4_setLayer_8 (by decide) (fun c1 => ?_) (fun c1 => ?_)
  · skip
    obtain ⟨j, hj, rfl⟩ := lhas_ne hnb c1
    have hcl : (nI j).toNatClampNeg = j := nI_clamp (by omega)
    have hln := hE.2.2.2.2.2.1 j (by omega)
    refine lv_aload_n hx hb dX4_setLayer_14 rfl (lv_at hl 0 rfl) ?_
    refine g_get (x := .ref (eAd E 5)) F hH inX4 (hE.1 0 (by decide)) (cq_kiln E _) rfl 2 (by decide) (hts (.fieldLink RX4 26 "DryingKiln" "load" "LDryingKiln$Load;") (by decide +kernel)) (fun _ h => h) rfl dX4_setLayer_15 ?_
    refine lv_iload_n hx hb dX4_setLayer_18 rfl (lv_at hl 1 rfl) ?_
    refine g_vr (As := [.int (nI j)]) F hH (c_X1_boardAt l E hE v 0 j (by decide) hj) (cwV 1 hts gX4_setLayer_X1_boardAt rfl rfl rfl (by decide +kernel) ⟨Nat.le_of_ble_eq_true rfl, Nat.le_of_ble_eq_true rfl⟩) (hE.1 5 (by decide)) (cq_ld E _ (i := 0) (by decide)) rfl rfl hl.1 [] rfl (Nat.le_of_ble_eq_true rfl) dX4_setLayer_19 ⟨Nat.zero_le _, Nat.zero_le _⟩ (fun H locs hH => ?_)
    refine g_get (x := .ref (eAd E (ba 0 j))) F hH inX0 (hE.2.2.2.1 0 j (by decide) hj).1 (cq_bo E _ (by omega)) rfl 0 (by decide) (hts (.fieldLink RX4 75 "DryingKiln$Board" "moisture" "[I") (by decide +kernel)) (fun _ h => h) rfl dX4_setLayer_22 ?_
    refine lv_astore (lv' := [(4, .ref (eAd E (ba 0 j))), (0, .ref (eAd E 0)), (1, .int (nI j)), (2, .int b), (3, .int d)]) hx hb dX4_setLayer_25 hl (by decide) rfl (fun ls hl => ?_)
    refine lv_iload_n hx hb dX4_setLayer_27 rfl (lv_at hl 3 rfl) ?_
    refine lv_if_lt (tgt := 38) hx hb dX4_setLayer_28 (by decide) (fun c2 => ?_) (fun c2 => ?_)
    · skip
      refine lv_ldc (v := -1000002) hx hb hown (hts (.constant RX4 78 (-1000002)) (by decide +kernel)) dX4_setLayer_38 ?_
      exact g_iret F hr hlk hH (by first | rfl | (simp only [kslr, kslm, c1, hcl, c2, if_true, if_false, ↓reduceIte]; done) | (simp only [kslr, kslm, c1, hcl, c2, if_true, if_false, ↓reduceIte]; rfl)) (by first | rfl | (simp only [kslr, kslm, c1, hcl, c2, if_true, if_false, ↓reduceIte]; done) | (simp only [kslr, kslm, c1, hcl, c2, if_true, if_false, ↓reduceIte]; rfl)) dX4_setLayer_40
    · skip
      refine lv_iload_n hx hb dX4_setLayer_31 rfl (lv_at hl 3 rfl) ?_
      refine lv_aload hx hb dX4_setLayer_32 (lv_at hl 0 rfl) ?_
      refine g_alen (n := eLn E j) F hH (hE.2.2.2.1 0 j (by decide) hj).2 (cq_ba E _ (by omega)) dX4_setLayer_34 ?_
      refine lv_icmp_lt (tgt := 41) hx hb dX4_setLayer_35 (by decide) (fun c3 => ?_) (fun c3 => ?_)
      · skip
        obtain ⟨q, hq, rfl⟩ : ∃ q : Nat, q < eLn E j ∧ b = nI q := (by rcases pk_ix b (n := eLn E j) (by omega) with h | h | h; exact absurd h c2; exact absurd c3 (fun z => absurd (Int32.lt_of_lt_of_le z h) (Int32.lt_irrefl)); exact h)
        have hcq : (nI q).toNatClampNeg = q := nI_clamp (by omega)
        refine lv_iload_n hx hb dX4_setLayer_41 rfl (lv_at hl 4 rfl) ?_
        refine lv_iconst (v := 0) hx hb dX4_setLayer_42 (by decide) ?_
        refine lv_sipush (v := 2000) hx hb dX4_setLayer_43 (by decide) ?_
        refine g_si (As := [.int d, .int 0, .int 2000]) F hH (c_X4_isOutside l E hE v d 0 2000) (va_cwS 3 hts gX4_setLayer_X4_isOutside rfl rfl rfl (by decide +kernel) ⟨Nat.le_of_ble_eq_true rfl, Nat.le_of_ble_eq_true rfl⟩) rfl hl.1 [] rfl (Nat.le_of_ble_eq_true rfl) dX4_setLayer_46 ⟨Nat.zero_le _, Nat.zero_le _⟩ (fun H locs hH => ?_)
        refine lv_if_eq (tgt := 55) hx hb dX4_setLayer_49 (by decide) (fun c4 => ?_) (fun c4 => ?_)
        · skip
          refine lv_aload hx hb dX4_setLayer_55 (lv_at hl 0 rfl) ?_
          refine lv_iload_n hx hb dX4_setLayer_57 rfl (lv_at hl 3 rfl) ?_
          refine g_iald (n := eLn E j) (x := v (ba 0 j) q) F hH (hE.2.2.2.1 0 j (by decide) hj).2 (cq_ba E _ (by omega)) q rfl (by omega) (by omega) rfl dX4_setLayer_58 ?_
          refine lv_istore (lv' := [(5, .int (v (ba 0 j) q)), (4, .ref (eAd E (ba 0 j))), (0, .ref (eAd E 0)), (1, .int (nI j)), (2, .int (nI q)), (3, .int d)]) hx hb dX4_setLayer_59 hl (by decide) rfl (fun ls hl => ?_)
          refine lv_aload hx hb dX4_setLayer_61 (lv_at hl 1 rfl) ?_
          refine lv_iload_n hx hb dX4_setLayer_63 rfl (lv_at hl 4 rfl) ?_
          refine lv_iload_n hx hb dX4_setLayer_64 rfl (lv_at hl 5 rfl) ?_
          refine g_iast (n := eLn E j) F hH (hE.2.2.2.1 0 j (by decide) hj).2 (fun _ => cq_ba E _ (by omega)) q rfl (by omega) (by omega) dX4_setLayer_65 (fun H locs hH => ?_)
          refine lv_iload hx hb dX4_setLayer_66 (lv_at hl 0 rfl) ?_
          exact g_iret F hr hlk hH (by first | rfl | (simp only [kslr, kslm, c1, hcl, c2, c3, hcq, c4, if_true, if_false, ↓reduceIte]; done) | (simp only [kslr, kslm, c1, hcl, c2, c3, hcq, c4, if_true, if_false, ↓reduceIte]; rfl)) (by first | rfl | (simp only [kslr, kslm, c1, hcl, c2, c3, hcq, c4, if_true, if_false, ↓reduceIte]; done) | (simp only [kslr, kslm, c1, hcl, c2, c3, hcq, c4, if_true, if_false, ↓reduceIte]; rfl)) dX4_setLayer_68
        · skip
          refine lv_ldc (v := -1000003) hx hb hown (hts (.constant RX4 51 (-1000003)) (by decide +kernel)) dX4_setLayer_52 ?_
          exact g_iret F hr hlk hH (by first | rfl | (simp only [kslr, kslm, c1, hcl, c2, c3, hcq, c4, if_true, if_false, ↓reduceIte]; done) | (simp only [kslr, kslm, c1, hcl, c2, c3, hcq, c4, if_true, if_false, ↓reduceIte]; rfl)) (by first | rfl | (simp only [kslr, kslm, c1, hcl, c2, c3, hcq, c4, if_true, if_false, ↓reduceIte]; done) | (simp only [kslr, kslm, c1, hcl, c2, c3, hcq, c4, if_true, if_false, ↓reduceIte]; rfl)) dX4_setLayer_54
      · skip
        refine lv_ldc (v := -1000002) hx hb hown (hts (.constant RX4 78 (-1000002)) (by decide +kernel)) dX4_setLayer_38 ?_
        exact g_iret F hr hlk hH (by first | rfl | (simp only [kslr, kslm, c1, hcl, c2, c3, if_true, if_false, ↓reduceIte]; done) | (simp only [kslr, kslm, c1, hcl, c2, c3, if_true, if_false, ↓reduceIte]; rfl)) (by first | rfl | (simp only [kslr, kslm, c1, hcl, c2, c3, if_true, if_false, ↓reduceIte]; done) | (simp only [kslr, kslm, c1, hcl, c2, c3, if_true, if_false, ↓reduceIte]; rfl)) dX4_setLayer_40
  · skip
    refine lv_ldc (v := -1000001) hx hb hown (hts (.constant RX4 70 (-1000001)) (by decide +kernel)) dX4_setLayer_11 ?_
    exact g_iret F hr hlk hH (by first | rfl | (simp only [kslr, kslm, c1, if_true, if_false, ↓reduceIte]; done) | (simp only [kslr, kslm, c1, if_true, if_false, ↓reduceIte]; rfl)) (by first | rfl | (simp only [kslr, kslm, c1, if_true, if_false, ↓reduceIte]; done) | (simp only [kslr, kslm, c1, if_true, if_false, ↓reduceIte]; rfl)) dX4_setLayer_13

set_option maxHeartbeats 4000000 in
set_option maxRecDepth 100000 in
theorem c_X4_layerMoisture (l : Launch) (E : Ev) (hE : EO E) (v : Mem) (a : Int32) (b : Int32) : Ci l yX4_layerMoisture wsX4_layerMoisture ({ frames := 4, cells := 0, slots := 0, locals := 85 } : Room) E [.ref (eAd E 0), .int a, .int b] v (klm E v a b) v := by
  refine Ci.of (cc := cX4_layerMoisture) (maxL := 4) (ret := (some .int)) (own := RX4) (by decide) rfl rfl (Nat.le_of_ble_eq_true rfl) ?_
  intro p e s m below meth c F hr hlk ls hl hH
  obtain ⟨hx, hb, hml, hown, hts⟩ := id F.1
  have hl : lv_has ls 4 [(0, .ref (eAd E 0)), (1, .int a), (2, .int b)] := hl
  have inJx4a65c : ∀ w ∈ wsJx4a65c0, w ∈ wsX4_layerMoisture := fun w h => List.mem_cons_of_mem _ (List.mem_append_right _ h)
  have inX0 : ∀ w ∈ wsX00, w ∈ wsX4_layerMoisture := fun w h => List.mem_cons_of_mem _ (List.mem_append_left _ (List.mem_append_left _ (List.mem_append_right _ h)))
  have inX1 : ∀ w ∈ wsX10, w ∈ wsX4_layerMoisture := fun w h => List.mem_cons_of_mem _ (List.mem_append_left _ (List.mem_append_right _ h))
  have inX4 : ∀ w ∈ wsX40, w ∈ wsX4_layerMoisture := fun w h => List.mem_cons_of_mem _ (List.mem_append_left _ (List.mem_append_left _ (List.mem_append_left _ (List.mem_append_right _ h))))
  have hnb := hE.2.2.2.2.1 0 (by decide)
  refine lv_aload_n hx hb dX4_layerMoisture_0 rfl (lv_at hl 0 rfl) ?_
  refine g_get (x := .ref (eAd E 5)) F hH inX4 (hE.1 0 (by decide)) (cq_kiln E _) rfl 2 (by decide) (hts (.fieldLink RX4 26 "DryingKiln" "load" "LDryingKiln$Load;") (by decide +kernel)) (fun _ h => h) rfl dX4_layerMoisture_1 ?_
  refine lv_iload_n hx hb dX4_layerMoisture_4 rfl (lv_at hl 1 rfl) ?_
  refine g_vi (As := [.int a]) F hH (c_X1_has l E hE v 0 a (by first | assumption | omega | decide)) (cwV 1 hts gX4_layerMoisture_X1_has rfl rfl rfl (by decide +kernel) ⟨Nat.le_of_ble_eq_true rfl, Nat.le_of_ble_eq_true rfl⟩) (hE.1 5 (by decide)) (cq_ld E _ (i := 0) (by decide)) rfl rfl hl.1 [] rfl (Nat.le_of_ble_eq_true rfl) dX4_layerMoisture_5 ⟨Nat.zero_le _, Nat.zero_le _⟩ (fun H locs hH => ?_)
  refine lv_if_ne (tgt := 14) hx hb dX4_layerMoisture_8 (by decide) (fun c1 => ?_) (fun c1 => ?_)
  · skip
    obtain ⟨j, hj, rfl⟩ := lhas_ne hnb c1
    have hcl : (nI j).toNatClampNeg = j := nI_clamp (by omega)
    have hln := hE.2.2.2.2.2.1 j (by omega)
    refine lv_aload_n hx hb dX4_layerMoisture_14 rfl (lv_at hl 0 rfl) ?_
    refine g_get (x := .ref (eAd E 5)) F hH inX4 (hE.1 0 (by decide)) (cq_kiln E _) rfl 2 (by decide) (hts (.fieldLink RX4 26 "DryingKiln" "load" "LDryingKiln$Load;") (by decide +kernel)) (fun _ h => h) rfl dX4_layerMoisture_15 ?_
    refine lv_iload_n hx hb dX4_layerMoisture_18 rfl (lv_at hl 1 rfl) ?_
    refine g_vr (As := [.int (nI j)]) F hH (c_X1_boardAt l E hE v 0 j (by decide) hj) (cwV 1 hts gX4_layerMoisture_X1_boardAt rfl rfl rfl (by decide +kernel) ⟨Nat.le_of_ble_eq_true rfl, Nat.le_of_ble_eq_true rfl⟩) (hE.1 5 (by decide)) (cq_ld E _ (i := 0) (by decide)) rfl rfl hl.1 [] rfl (Nat.le_of_ble_eq_true rfl) dX4_layerMoisture_19 ⟨Nat.zero_le _, Nat.zero_le _⟩ (fun H locs hH => ?_)
    refine g_get (x := .ref (eAd E (ba 0 j))) F hH inX0 (hE.2.2.2.1 0 j (by decide) hj).1 (cq_bo E _ (by omega)) rfl 0 (by decide) (hts (.fieldLink RX4 75 "DryingKiln$Board" "moisture" "[I") (by decide +kernel)) (fun _ h => h) rfl dX4_layerMoisture_22 ?_
    refine lv_astore_n (lv' := [(3, .ref (eAd E (ba 0 j))), (0, .ref (eAd E 0)), (1, .int (nI j)), (2, .int b)]) hx hb dX4_layerMoisture_25 rfl hl (by decide) rfl (fun ls hl => ?_)
    refine lv_iload_n hx hb dX4_layerMoisture_26 rfl (lv_at hl 3 rfl) ?_
    refine lv_if_lt (tgt := 42) hx hb dX4_layerMoisture_27 (by decide) (fun c2 => ?_) (fun c2 => ?_)
    · skip
      refine lv_ldc (v := -1000002) hx hb hown (hts (.constant RX4 78 (-1000002)) (by decide +kernel)) dX4_layerMoisture_42 ?_
      exact g_iret F hr hlk hH (by first | rfl | (simp only [klm, c1, hcl, c2, if_true, if_false, ↓reduceIte]; done) | (simp only [klm, c1, hcl, c2, if_true, if_false, ↓reduceIte]; rfl)) (by first | rfl | (simp only [klm, c1, hcl, c2, if_true, if_false, ↓reduceIte]; done) | (simp only [klm, c1, hcl, c2, if_true, if_false, ↓reduceIte]; rfl)) dX4_layerMoisture_44
    · skip
      refine lv_iload_n hx hb dX4_layerMoisture_30 rfl (lv_at hl 3 rfl) ?_
      refine lv_aload_n hx hb dX4_layerMoisture_31 rfl (lv_at hl 0 rfl) ?_
      refine g_alen (n := eLn E j) F hH (hE.2.2.2.1 0 j (by decide) hj).2 (cq_ba E _ (by omega)) dX4_layerMoisture_32 ?_
      refine lv_icmp_ge (tgt := 42) hx hb dX4_layerMoisture_33 (by decide) (fun c3 => ?_) (fun c3 => ?_)
      · skip
        refine lv_ldc (v := -1000002) hx hb hown (hts (.constant RX4 78 (-1000002)) (by decide +kernel)) dX4_layerMoisture_42 ?_
        exact g_iret F hr hlk hH (by first | rfl | (simp only [klm, c1, hcl, c2, c3, if_true, if_false, ↓reduceIte]; done) | (simp only [klm, c1, hcl, c2, c3, if_true, if_false, ↓reduceIte]; rfl)) (by first | rfl | (simp only [klm, c1, hcl, c2, c3, if_true, if_false, ↓reduceIte]; done) | (simp only [klm, c1, hcl, c2, c3, if_true, if_false, ↓reduceIte]; rfl)) dX4_layerMoisture_44
      · skip
        obtain ⟨q, hq, rfl⟩ : ∃ q : Nat, q < eLn E j ∧ b = nI q := (by rcases pk_ix b (n := eLn E j) (by omega) with h | h | h; exact absurd h c2; exact absurd h c3; exact h)
        have hcq : (nI q).toNatClampNeg = q := nI_clamp (by omega)
        refine lv_aload_n hx hb dX4_layerMoisture_36 rfl (lv_at hl 0 rfl) ?_
        refine lv_iload_n hx hb dX4_layerMoisture_37 rfl (lv_at hl 3 rfl) ?_
        refine g_iald (n := eLn E j) (x := v (ba 0 j) q) F hH (hE.2.2.2.1 0 j (by decide) hj).2 (cq_ba E _ (by omega)) q rfl (by omega) (by omega) rfl dX4_layerMoisture_38 ?_
        refine lv_goto (tgt := 44) hx hb dX4_layerMoisture_39 (by decide) ?_
        exact g_iret F hr hlk hH (by first | rfl | (simp only [klm, c1, hcl, c2, c3, hcq, if_true, if_false, ↓reduceIte]; done) | (simp only [klm, c1, hcl, c2, c3, hcq, if_true, if_false, ↓reduceIte]; rfl)) (by first | rfl | (simp only [klm, c1, hcl, c2, c3, hcq, if_true, if_false, ↓reduceIte]; done) | (simp only [klm, c1, hcl, c2, c3, hcq, if_true, if_false, ↓reduceIte]; rfl)) dX4_layerMoisture_44
  · skip
    refine lv_ldc (v := -1000001) hx hb hown (hts (.constant RX4 70 (-1000001)) (by decide +kernel)) dX4_layerMoisture_11 ?_
    exact g_iret F hr hlk hH (by first | rfl | (simp only [klm, c1, if_true, if_false, ↓reduceIte]; done) | (simp only [klm, c1, if_true, if_false, ↓reduceIte]; rfl)) (by first | rfl | (simp only [klm, c1, if_true, if_false, ↓reduceIte]; done) | (simp only [klm, c1, if_true, if_false, ↓reduceIte]; rfl)) dX4_layerMoisture_13

set_option maxHeartbeats 4000000 in
set_option maxRecDepth 100000 in
theorem c_X4_sampleError (l : Launch) (E : Ev) (hE : EO E) (v : Mem) (a : Int32) : Ci l yX4_sampleError wsX4_sampleError ({ frames := 4, cells := 0, slots := 0, locals := 87 } : Room) E [.ref (eAd E 0), .int a] v (kse E v a) v := by
  refine Ci.of (cc := cX4_sampleError) (maxL := 3) (ret := (some .int)) (own := RX4) (by decide) rfl rfl (Nat.le_of_ble_eq_true rfl) ?_
  intro p e s m below meth c F hr hlk ls hl hH
  obtain ⟨hx, hb, hml, hown, hts⟩ := id F.1
  have hl : lv_has ls 3 [(0, .ref (eAd E 0)), (1, .int a)] := hl
  have inJx4a65c : ∀ w ∈ wsJx4a65c0, w ∈ wsX4_sampleError := fun w h => List.mem_cons_of_mem _ (List.mem_append_left _ (List.mem_append_right _ h))
  have inX0 : ∀ w ∈ wsX00, w ∈ wsX4_sampleError := fun w h => List.mem_cons_of_mem _ (List.mem_append_right _ h)
  have inX1 : ∀ w ∈ wsX10, w ∈ wsX4_sampleError := fun w h => List.mem_cons_of_mem _ (List.mem_append_left _ (List.mem_append_left _ (List.mem_append_right _ h)))
  have inX4 : ∀ w ∈ wsX40, w ∈ wsX4_sampleError := fun w h => List.mem_cons_of_mem _ (List.mem_append_left _ (List.mem_append_left _ (List.mem_append_left _ (List.mem_append_right _ h))))
  refine lv_iconst (v := 1) hx hb dX4_sampleError_0 (by decide) ?_
  refine lv_aload_n hx hb dX4_sampleError_1 rfl (lv_at hl 0 rfl) ?_
  refine g_get (x := .ref (eAd E 5)) F hH inX4 (hE.1 0 (by decide)) (cq_kiln E _) rfl 2 (by decide) (hts (.fieldLink RX4 26 "DryingKiln" "load" "LDryingKiln$Load;") (by decide +kernel)) (fun _ h => h) rfl dX4_sampleError_2 ?_
  refine g_vi (As := []) F hH (c_X1_size l E hE v 0 (by first | assumption | omega | decide)) (cwV 0 hts gX4_sampleError_X1_size rfl rfl rfl (by decide +kernel) ⟨Nat.le_of_ble_eq_true rfl, Nat.le_of_ble_eq_true rfl⟩) (hE.1 5 (by decide)) (cq_ld E _ (i := 0) (by decide)) rfl rfl hl.1 [.int 1] rfl (Nat.le_of_ble_eq_true rfl) dX4_sampleError_5 ⟨Nat.zero_le _, Nat.zero_le _⟩ (fun H locs hH => ?_)
  refine lv_ishl hx hb dX4_sampleError_8 ?_
  refine lv_iconst (v := 1) hx hb dX4_sampleError_9 (by decide) ?_
  refine lv_isub hx hb dX4_sampleError_10 ?_
  refine lv_istore_n (lv' := [(2, .int ((1 <<< ((nI (eNb E 0)) &&& 31)) - 1)), (0, .ref (eAd E 0)), (1, .int a)]) hx hb dX4_sampleError_11 rfl hl (by decide) rfl (fun ls hl => ?_)
  refine lv_iload_n hx hb dX4_sampleError_12 rfl (lv_at hl 2 rfl) ?_
  refine lv_if_eq (tgt := 24) hx hb dX4_sampleError_13 (by decide) (fun c1 => ?_) (fun c1 => ?_)
  · skip
    refine lv_ldc (v := -1000003) hx hb hown (hts (.constant RX4 51 (-1000003)) (by decide +kernel)) dX4_sampleError_24 ?_
    exact g_iret F hr hlk hH (by first | rfl | (simp only [kse, kall, c1, if_true, if_false, ↓reduceIte]; done) | (simp only [kse, kall, c1, if_true, if_false, ↓reduceIte]; rfl)) (by first | rfl | (simp only [kse, kall, c1, if_true, if_false, ↓reduceIte]; done) | (simp only [kse, kall, c1, if_true, if_false, ↓reduceIte]; rfl)) dX4_sampleError_26
  · skip
    refine lv_iload_n hx hb dX4_sampleError_16 rfl (lv_at hl 2 rfl) ?_
    refine lv_iload_n hx hb dX4_sampleError_17 rfl (lv_at hl 0 rfl) ?_
    refine lv_iconst (v := -1) hx hb dX4_sampleError_18 (by decide) ?_
    refine lv_ixor hx hb dX4_sampleError_19 ?_
    refine lv_iand hx hb dX4_sampleError_20 ?_
    refine lv_if_eq (tgt := 27) hx hb dX4_sampleError_21 (by decide) (fun c2 => ?_) (fun c2 => ?_)
    · skip
      refine lv_aload_n hx hb dX4_sampleError_27 rfl (lv_at hl 1 rfl) ?_
      refine g_get (x := .ref (eAd E 5)) F hH inX4 (hE.1 0 (by decide)) (cq_kiln E _) rfl 2 (by decide) (hts (.fieldLink RX4 26 "DryingKiln" "load" "LDryingKiln$Load;") (by decide +kernel)) (fun _ h => h) rfl dX4_sampleError_28 ?_
      refine lv_iload_n hx hb dX4_sampleError_31 rfl (lv_at hl 2 rfl) ?_
      refine g_vi (As := [.int a]) F hH (c_X1_meanOf l E hE v 0 a (by first | assumption | omega | decide)) (cwV 1 hts gX4_sampleError_X1_meanOf rfl rfl rfl (by decide +kernel) ⟨Nat.le_of_ble_eq_true rfl, Nat.le_of_ble_eq_true rfl⟩) (hE.1 5 (by decide)) (cq_ld E _ (i := 0) (by decide)) rfl rfl hl.1 [] rfl (Nat.le_of_ble_eq_true rfl) dX4_sampleError_32 ⟨Nat.zero_le _, Nat.zero_le _⟩ (fun H locs hH => ?_)
      refine lv_aload_n hx hb dX4_sampleError_35 rfl (lv_at hl 1 rfl) ?_
      refine g_get (x := .ref (eAd E 5)) F hH inX4 (hE.1 0 (by decide)) (cq_kiln E _) rfl 2 (by decide) (hts (.fieldLink RX4 26 "DryingKiln" "load" "LDryingKiln$Load;") (by decide +kernel)) (fun _ h => h) rfl dX4_sampleError_36 ?_
      refine lv_iload_n hx hb dX4_sampleError_39 rfl (lv_at hl 0 rfl) ?_
      refine g_vi (As := [.int ((1 <<< ((nI (eNb E 0)) &&& 31)) - 1)]) F hH (c_X1_meanOf l E hE v 0 ((1 <<< ((nI (eNb E 0)) &&& 31)) - 1) (by first | assumption | omega | decide)) (cwV 1 hts gX4_sampleError_X1_meanOf rfl rfl rfl (by decide +kernel) ⟨Nat.le_of_ble_eq_true rfl, Nat.le_of_ble_eq_true rfl⟩) (hE.1 5 (by decide)) (cq_ld E _ (i := 0) (by decide)) rfl rfl hl.1 [.int (lmean E v 0 a)] rfl (Nat.le_of_ble_eq_true rfl) dX4_sampleError_40 ⟨Nat.zero_le _, Nat.zero_le _⟩ (fun H locs hH => ?_)
      refine lv_isub hx hb dX4_sampleError_43 ?_
      exact g_iret F hr hlk hH (by first | rfl | (simp only [kse, kall, c1, c2, if_true, if_false, ↓reduceIte]; done) | (simp only [kse, kall, c1, c2, if_true, if_false, ↓reduceIte]; rfl)) (by first | rfl | (simp only [kse, kall, c1, c2, if_true, if_false, ↓reduceIte]; done) | (simp only [kse, kall, c1, c2, if_true, if_false, ↓reduceIte]; rfl)) dX4_sampleError_44
    · skip
      refine lv_ldc (v := -1000003) hx hb hown (hts (.constant RX4 51 (-1000003)) (by decide +kernel)) dX4_sampleError_24 ?_
      exact g_iret F hr hlk hH (by first | rfl | (simp only [kse, kall, c1, c2, if_true, if_false, ↓reduceIte]; done) | (simp only [kse, kall, c1, c2, if_true, if_false, ↓reduceIte]; rfl)) (by first | rfl | (simp only [kse, kall, c1, c2, if_true, if_false, ↓reduceIte]; done) | (simp only [kse, kall, c1, c2, if_true, if_false, ↓reduceIte]; rfl)) dX4_sampleError_26

set_option maxHeartbeats 4000000 in
set_option maxRecDepth 100000 in
theorem c_X4_setDiffusion (l : Launch) (E : Ev) (hE : EO E) (v : Mem) (a : Int32) : Ci l yX4_setDiffusion wsX4_setDiffusion ({ frames := 1, cells := 0, slots := 0, locals := 22 } : Room) E [.ref (eAd E 0), .int a] v (ksr v 0 a 1 250) (ksm v 0 a 1 250) := by
  refine Ci.of (cc := cX4_setDiffusion) (maxL := 3) (ret := (some .int)) (own := RX4) (by decide) rfl rfl (Nat.le_of_ble_eq_true rfl) ?_
  intro p e s m below meth c F hr hlk ls hl hH
  obtain ⟨hx, hb, hml, hown, hts⟩ := id F.1
  have hl : lv_has ls 3 [(0, .ref (eAd E 0)), (1, .int a)] := hl
  have inX3 : ∀ w ∈ wsX30, w ∈ wsX4_setDiffusion := fun w h => List.mem_cons_of_mem _ (List.mem_append_right _ h)
  have inX4 : ∀ w ∈ wsX40, w ∈ wsX4_setDiffusion := fun w h => List.mem_cons_of_mem _ (List.mem_append_left _ (List.mem_append_right _ h))
  refine lv_iload_n hx hb dX4_setDiffusion_0 rfl (lv_at hl 1 rfl) ?_
  refine lv_iconst (v := 1) hx hb dX4_setDiffusion_1 (by decide) ?_
  refine lv_sipush (v := 250) hx hb dX4_setDiffusion_2 (by decide) ?_
  refine g_si (As := [.int a, .int 1, .int 250]) F hH (c_X4_isOutside l E hE v a 1 250) (va_cwS 3 hts gX4_setDiffusion_X4_isOutside rfl rfl rfl (by decide +kernel) ⟨Nat.le_of_ble_eq_true rfl, Nat.le_of_ble_eq_true rfl⟩) rfl hl.1 [] rfl (Nat.le_of_ble_eq_true rfl) dX4_setDiffusion_5 ⟨Nat.zero_le _, Nat.zero_le _⟩ (fun H locs hH => ?_)
  refine lv_if_eq (tgt := 14) hx hb dX4_setDiffusion_8 (by decide) (fun c1 => ?_) (fun c1 => ?_)
  · skip
    refine lv_aload_n hx hb dX4_setDiffusion_14 rfl (lv_at hl 0 rfl) ?_
    refine g_get (x := .ref (eAd E 1)) F hH inX4 (hE.1 0 (by decide)) (cq_kiln E _) rfl 0 (by decide) (hts (.fieldLink RX4 10 "DryingKiln" "settings" "LDryingKiln$Settings;") (by decide +kernel)) (fun _ h => h) rfl dX4_setDiffusion_15 ?_
    refine g_get (x := .int (v 1 0)) F hH inX3 (hE.1 1 (by decide)) (cq_set E _) rfl 0 (by decide) (hts (.fieldLink RX4 98 "DryingKiln$Settings" "diffusion" "I") (by decide +kernel)) (fun _ h => h) rfl dX4_setDiffusion_18 ?_
    refine lv_istore_n (lv' := [(2, .int (v 1 0)), (0, .ref (eAd E 0)), (1, .int a)]) hx hb dX4_setDiffusion_21 rfl hl (by decide) rfl (fun ls hl => ?_)
    refine lv_aload_n hx hb dX4_setDiffusion_22 rfl (lv_at hl 1 rfl) ?_
    refine g_get (x := .ref (eAd E 1)) F hH inX4 (hE.1 0 (by decide)) (cq_kiln E _) rfl 0 (by decide) (hts (.fieldLink RX4 10 "DryingKiln" "settings" "LDryingKiln$Settings;") (by decide +kernel)) (fun _ h => h) rfl dX4_setDiffusion_23 ?_
    refine lv_iload_n hx hb dX4_setDiffusion_26 rfl (lv_at hl 2 rfl) ?_
    refine g_put (ty := .int) (x := a) F hH inX3 tyX3 tyX3_ok nmX3 (hE.1 1 (by decide)) (cq_set E _) rfl 0 (by decide) (hts (.fieldLink RX4 98 "DryingKiln$Settings" "diffusion" "I") (by decide +kernel)) (fun _ h => h) rfl (by decide +kernel) rfl rfl (Nat.le_of_ble_eq_true rfl) (cq_set E _) dX4_setDiffusion_27 (fun H locs hH => ?_)
    refine lv_iload_n hx hb dX4_setDiffusion_30 rfl (lv_at hl 0 rfl) ?_
    exact g_iret F hr hlk hH (by first | rfl | (simp only [ksr, ksm, c1, if_true, if_false, ↓reduceIte]; done) | (simp only [ksr, ksm, c1, if_true, if_false, ↓reduceIte]; rfl)) (by first | rfl | (simp only [ksr, ksm, c1, if_true, if_false, ↓reduceIte]; done) | (simp only [ksr, ksm, c1, if_true, if_false, ↓reduceIte]; rfl)) dX4_setDiffusion_31
  · skip
    refine lv_ldc (v := -1000003) hx hb hown (hts (.constant RX4 51 (-1000003)) (by decide +kernel)) dX4_setDiffusion_11 ?_
    exact g_iret F hr hlk hH (by first | rfl | (simp only [ksr, ksm, c1, if_true, if_false, ↓reduceIte]; done) | (simp only [ksr, ksm, c1, if_true, if_false, ↓reduceIte]; rfl)) (by first | rfl | (simp only [ksr, ksm, c1, if_true, if_false, ↓reduceIte]; done) | (simp only [ksr, ksm, c1, if_true, if_false, ↓reduceIte]; rfl)) dX4_setDiffusion_13

set_option maxHeartbeats 4000000 in
set_option maxRecDepth 100000 in
theorem c_X4_setSurface (l : Launch) (E : Ev) (hE : EO E) (v : Mem) (a : Int32) : Ci l yX4_setSurface wsX4_setSurface ({ frames := 1, cells := 0, slots := 0, locals := 22 } : Room) E [.ref (eAd E 0), .int a] v (ksr v 1 a 1 500) (ksm v 1 a 1 500) := by
  refine Ci.of (cc := cX4_setSurface) (maxL := 3) (ret := (some .int)) (own := RX4) (by decide) rfl rfl (Nat.le_of_ble_eq_true rfl) ?_
  intro p e s m below meth c F hr hlk ls hl hH
  obtain ⟨hx, hb, hml, hown, hts⟩ := id F.1
  have hl : lv_has ls 3 [(0, .ref (eAd E 0)), (1, .int a)] := hl
  have inX3 : ∀ w ∈ wsX30, w ∈ wsX4_setSurface := fun w h => List.mem_cons_of_mem _ (List.mem_append_right _ h)
  have inX4 : ∀ w ∈ wsX40, w ∈ wsX4_setSurface := fun w h => List.mem_cons_of_mem _ (List.mem_append_left _ (List.mem_append_right _ h))
  refine lv_iload_n hx hb dX4_setSurface_0 rfl (lv_at hl 1 rfl) ?_
  refine lv_iconst (v := 1) hx hb dX4_setSurface_1 (by decide) ?_
  refine lv_sipush (v := 500) hx hb dX4_setSurface_2 (by decide) ?_
  refine g_si (As := [.int a, .int 1, .int 500]) F hH (c_X4_isOutside l E hE v a 1 500) (va_cwS 3 hts gX4_setSurface_X4_isOutside rfl rfl rfl (by decide +kernel) ⟨Nat.le_of_ble_eq_true rfl, Nat.le_of_ble_eq_true rfl⟩) rfl hl.1 [] rfl (Nat.le_of_ble_eq_true rfl) dX4_setSurface_5 ⟨Nat.zero_le _, Nat.zero_le _⟩ (fun H locs hH => ?_)
  refine lv_if_eq (tgt := 14) hx hb dX4_setSurface_8 (by decide) (fun c1 => ?_) (fun c1 => ?_)
  · skip
    refine lv_aload_n hx hb dX4_setSurface_14 rfl (lv_at hl 0 rfl) ?_
    refine g_get (x := .ref (eAd E 1)) F hH inX4 (hE.1 0 (by decide)) (cq_kiln E _) rfl 0 (by decide) (hts (.fieldLink RX4 10 "DryingKiln" "settings" "LDryingKiln$Settings;") (by decide +kernel)) (fun _ h => h) rfl dX4_setSurface_15 ?_
    refine g_get (x := .int (v 1 1)) F hH inX3 (hE.1 1 (by decide)) (cq_set E _) rfl 1 (by decide) (hts (.fieldLink RX4 101 "DryingKiln$Settings" "surface" "I") (by decide +kernel)) (fun _ h => h) rfl dX4_setSurface_18 ?_
    refine lv_istore_n (lv' := [(2, .int (v 1 1)), (0, .ref (eAd E 0)), (1, .int a)]) hx hb dX4_setSurface_21 rfl hl (by decide) rfl (fun ls hl => ?_)
    refine lv_aload_n hx hb dX4_setSurface_22 rfl (lv_at hl 1 rfl) ?_
    refine g_get (x := .ref (eAd E 1)) F hH inX4 (hE.1 0 (by decide)) (cq_kiln E _) rfl 0 (by decide) (hts (.fieldLink RX4 10 "DryingKiln" "settings" "LDryingKiln$Settings;") (by decide +kernel)) (fun _ h => h) rfl dX4_setSurface_23 ?_
    refine lv_iload_n hx hb dX4_setSurface_26 rfl (lv_at hl 2 rfl) ?_
    refine g_put (ty := .int) (x := a) F hH inX3 tyX3 tyX3_ok nmX3 (hE.1 1 (by decide)) (cq_set E _) rfl 1 (by decide) (hts (.fieldLink RX4 101 "DryingKiln$Settings" "surface" "I") (by decide +kernel)) (fun _ h => h) rfl (by decide +kernel) rfl rfl (Nat.le_of_ble_eq_true rfl) (cq_set E _) dX4_setSurface_27 (fun H locs hH => ?_)
    refine lv_iload_n hx hb dX4_setSurface_30 rfl (lv_at hl 0 rfl) ?_
    exact g_iret F hr hlk hH (by first | rfl | (simp only [ksr, ksm, c1, if_true, if_false, ↓reduceIte]; done) | (simp only [ksr, ksm, c1, if_true, if_false, ↓reduceIte]; rfl)) (by first | rfl | (simp only [ksr, ksm, c1, if_true, if_false, ↓reduceIte]; done) | (simp only [ksr, ksm, c1, if_true, if_false, ↓reduceIte]; rfl)) dX4_setSurface_31
  · skip
    refine lv_ldc (v := -1000003) hx hb hown (hts (.constant RX4 51 (-1000003)) (by decide +kernel)) dX4_setSurface_11 ?_
    exact g_iret F hr hlk hH (by first | rfl | (simp only [ksr, ksm, c1, if_true, if_false, ↓reduceIte]; done) | (simp only [ksr, ksm, c1, if_true, if_false, ↓reduceIte]; rfl)) (by first | rfl | (simp only [ksr, ksm, c1, if_true, if_false, ↓reduceIte]; done) | (simp only [ksr, ksm, c1, if_true, if_false, ↓reduceIte]; rfl)) dX4_setSurface_13

set_option maxHeartbeats 4000000 in
set_option maxRecDepth 100000 in
theorem c_X4_setCapacity (l : Launch) (E : Ev) (hE : EO E) (v : Mem) (a : Int32) : Ci l yX4_setCapacity wsX4_setCapacity ({ frames := 1, cells := 0, slots := 0, locals := 22 } : Room) E [.ref (eAd E 0), .int a] v (ksr v 2 a 1 10000) (ksm v 2 a 1 10000) := by
  refine Ci.of (cc := cX4_setCapacity) (maxL := 3) (ret := (some .int)) (own := RX4) (by decide) rfl rfl (Nat.le_of_ble_eq_true rfl) ?_
  intro p e s m below meth c F hr hlk ls hl hH
  obtain ⟨hx, hb, hml, hown, hts⟩ := id F.1
  have hl : lv_has ls 3 [(0, .ref (eAd E 0)), (1, .int a)] := hl
  have inX3 : ∀ w ∈ wsX30, w ∈ wsX4_setCapacity := fun w h => List.mem_cons_of_mem _ (List.mem_append_right _ h)
  have inX4 : ∀ w ∈ wsX40, w ∈ wsX4_setCapacity := fun w h => List.mem_cons_of_mem _ (List.mem_append_left _ (List.mem_append_right _ h))
  refine lv_iload_n hx hb dX4_setCapacity_0 rfl (lv_at hl 1 rfl) ?_
  refine lv_iconst (v := 1) hx hb dX4_setCapacity_1 (by decide) ?_
  refine lv_sipush (v := 10000) hx hb dX4_setCapacity_2 (by decide) ?_
  refine g_si (As := [.int a, .int 1, .int 10000]) F hH (c_X4_isOutside l E hE v a 1 10000) (va_cwS 3 hts gX4_setCapacity_X4_isOutside rfl rfl rfl (by decide +kernel) ⟨Nat.le_of_ble_eq_true rfl, Nat.le_of_ble_eq_true rfl⟩) rfl hl.1 [] rfl (Nat.le_of_ble_eq_true rfl) dX4_setCapacity_5 ⟨Nat.zero_le _, Nat.zero_le _⟩ (fun H locs hH => ?_)
  refine lv_if_eq (tgt := 14) hx hb dX4_setCapacity_8 (by decide) (fun c1 => ?_) (fun c1 => ?_)
  · skip
    refine lv_aload_n hx hb dX4_setCapacity_14 rfl (lv_at hl 0 rfl) ?_
    refine g_get (x := .ref (eAd E 1)) F hH inX4 (hE.1 0 (by decide)) (cq_kiln E _) rfl 0 (by decide) (hts (.fieldLink RX4 10 "DryingKiln" "settings" "LDryingKiln$Settings;") (by decide +kernel)) (fun _ h => h) rfl dX4_setCapacity_15 ?_
    refine g_get (x := .int (v 1 2)) F hH inX3 (hE.1 1 (by decide)) (cq_set E _) rfl 2 (by decide) (hts (.fieldLink RX4 104 "DryingKiln$Settings" "capacity" "I") (by decide +kernel)) (fun _ h => h) rfl dX4_setCapacity_18 ?_
    refine lv_istore_n (lv' := [(2, .int (v 1 2)), (0, .ref (eAd E 0)), (1, .int a)]) hx hb dX4_setCapacity_21 rfl hl (by decide) rfl (fun ls hl => ?_)
    refine lv_aload_n hx hb dX4_setCapacity_22 rfl (lv_at hl 1 rfl) ?_
    refine g_get (x := .ref (eAd E 1)) F hH inX4 (hE.1 0 (by decide)) (cq_kiln E _) rfl 0 (by decide) (hts (.fieldLink RX4 10 "DryingKiln" "settings" "LDryingKiln$Settings;") (by decide +kernel)) (fun _ h => h) rfl dX4_setCapacity_23 ?_
    refine lv_iload_n hx hb dX4_setCapacity_26 rfl (lv_at hl 2 rfl) ?_
    refine g_put (ty := .int) (x := a) F hH inX3 tyX3 tyX3_ok nmX3 (hE.1 1 (by decide)) (cq_set E _) rfl 2 (by decide) (hts (.fieldLink RX4 104 "DryingKiln$Settings" "capacity" "I") (by decide +kernel)) (fun _ h => h) rfl (by decide +kernel) rfl rfl (Nat.le_of_ble_eq_true rfl) (cq_set E _) dX4_setCapacity_27 (fun H locs hH => ?_)
    refine lv_iload_n hx hb dX4_setCapacity_30 rfl (lv_at hl 0 rfl) ?_
    exact g_iret F hr hlk hH (by first | rfl | (simp only [ksr, ksm, c1, if_true, if_false, ↓reduceIte]; done) | (simp only [ksr, ksm, c1, if_true, if_false, ↓reduceIte]; rfl)) (by first | rfl | (simp only [ksr, ksm, c1, if_true, if_false, ↓reduceIte]; done) | (simp only [ksr, ksm, c1, if_true, if_false, ↓reduceIte]; rfl)) dX4_setCapacity_31
  · skip
    refine lv_ldc (v := -1000003) hx hb hown (hts (.constant RX4 51 (-1000003)) (by decide +kernel)) dX4_setCapacity_11 ?_
    exact g_iret F hr hlk hH (by first | rfl | (simp only [ksr, ksm, c1, if_true, if_false, ↓reduceIte]; done) | (simp only [ksr, ksm, c1, if_true, if_false, ↓reduceIte]; rfl)) (by first | rfl | (simp only [ksr, ksm, c1, if_true, if_false, ↓reduceIte]; done) | (simp only [ksr, ksm, c1, if_true, if_false, ↓reduceIte]; rfl)) dX4_setCapacity_13

set_option maxHeartbeats 4000000 in
set_option maxRecDepth 100000 in
theorem c_X4_setStrainLimit (l : Launch) (E : Ev) (hE : EO E) (v : Mem) (a : Int32) : Ci l yX4_setStrainLimit wsX4_setStrainLimit ({ frames := 1, cells := 0, slots := 0, locals := 22 } : Room) E [.ref (eAd E 0), .int a] v (ksr v 3 a 20 900) (ksm v 3 a 20 900) := by
  refine Ci.of (cc := cX4_setStrainLimit) (maxL := 3) (ret := (some .int)) (own := RX4) (by decide) rfl rfl (Nat.le_of_ble_eq_true rfl) ?_
  intro p e s m below meth c F hr hlk ls hl hH
  obtain ⟨hx, hb, hml, hown, hts⟩ := id F.1
  have hl : lv_has ls 3 [(0, .ref (eAd E 0)), (1, .int a)] := hl
  have inX3 : ∀ w ∈ wsX30, w ∈ wsX4_setStrainLimit := fun w h => List.mem_cons_of_mem _ (List.mem_append_right _ h)
  have inX4 : ∀ w ∈ wsX40, w ∈ wsX4_setStrainLimit := fun w h => List.mem_cons_of_mem _ (List.mem_append_left _ (List.mem_append_right _ h))
  refine lv_iload_n hx hb dX4_setStrainLimit_0 rfl (lv_at hl 1 rfl) ?_
  refine lv_bipush (v := 20) hx hb dX4_setStrainLimit_1 (by decide) ?_
  refine lv_sipush (v := 900) hx hb dX4_setStrainLimit_3 (by decide) ?_
  refine g_si (As := [.int a, .int 20, .int 900]) F hH (c_X4_isOutside l E hE v a 20 900) (va_cwS 3 hts gX4_setStrainLimit_X4_isOutside rfl rfl rfl (by decide +kernel) ⟨Nat.le_of_ble_eq_true rfl, Nat.le_of_ble_eq_true rfl⟩) rfl hl.1 [] rfl (Nat.le_of_ble_eq_true rfl) dX4_setStrainLimit_6 ⟨Nat.zero_le _, Nat.zero_le _⟩ (fun H locs hH => ?_)
  refine lv_if_eq (tgt := 15) hx hb dX4_setStrainLimit_9 (by decide) (fun c1 => ?_) (fun c1 => ?_)
  · skip
    refine lv_aload_n hx hb dX4_setStrainLimit_15 rfl (lv_at hl 0 rfl) ?_
    refine g_get (x := .ref (eAd E 1)) F hH inX4 (hE.1 0 (by decide)) (cq_kiln E _) rfl 0 (by decide) (hts (.fieldLink RX4 10 "DryingKiln" "settings" "LDryingKiln$Settings;") (by decide +kernel)) (fun _ h => h) rfl dX4_setStrainLimit_16 ?_
    refine g_get (x := .int (v 1 3)) F hH inX3 (hE.1 1 (by decide)) (cq_set E _) rfl 3 (by decide) (hts (.fieldLink RX4 107 "DryingKiln$Settings" "strainLimit" "I") (by decide +kernel)) (fun _ h => h) rfl dX4_setStrainLimit_19 ?_
    refine lv_istore_n (lv' := [(2, .int (v 1 3)), (0, .ref (eAd E 0)), (1, .int a)]) hx hb dX4_setStrainLimit_22 rfl hl (by decide) rfl (fun ls hl => ?_)
    refine lv_aload_n hx hb dX4_setStrainLimit_23 rfl (lv_at hl 1 rfl) ?_
    refine g_get (x := .ref (eAd E 1)) F hH inX4 (hE.1 0 (by decide)) (cq_kiln E _) rfl 0 (by decide) (hts (.fieldLink RX4 10 "DryingKiln" "settings" "LDryingKiln$Settings;") (by decide +kernel)) (fun _ h => h) rfl dX4_setStrainLimit_24 ?_
    refine lv_iload_n hx hb dX4_setStrainLimit_27 rfl (lv_at hl 2 rfl) ?_
    refine g_put (ty := .int) (x := a) F hH inX3 tyX3 tyX3_ok nmX3 (hE.1 1 (by decide)) (cq_set E _) rfl 3 (by decide) (hts (.fieldLink RX4 107 "DryingKiln$Settings" "strainLimit" "I") (by decide +kernel)) (fun _ h => h) rfl (by decide +kernel) rfl rfl (Nat.le_of_ble_eq_true rfl) (cq_set E _) dX4_setStrainLimit_28 (fun H locs hH => ?_)
    refine lv_iload_n hx hb dX4_setStrainLimit_31 rfl (lv_at hl 0 rfl) ?_
    exact g_iret F hr hlk hH (by first | rfl | (simp only [ksr, ksm, c1, if_true, if_false, ↓reduceIte]; done) | (simp only [ksr, ksm, c1, if_true, if_false, ↓reduceIte]; rfl)) (by first | rfl | (simp only [ksr, ksm, c1, if_true, if_false, ↓reduceIte]; done) | (simp only [ksr, ksm, c1, if_true, if_false, ↓reduceIte]; rfl)) dX4_setStrainLimit_32
  · skip
    refine lv_ldc (v := -1000003) hx hb hown (hts (.constant RX4 51 (-1000003)) (by decide +kernel)) dX4_setStrainLimit_12 ?_
    exact g_iret F hr hlk hH (by first | rfl | (simp only [ksr, ksm, c1, if_true, if_false, ↓reduceIte]; done) | (simp only [ksr, ksm, c1, if_true, if_false, ↓reduceIte]; rfl)) (by first | rfl | (simp only [ksr, ksm, c1, if_true, if_false, ↓reduceIte]; done) | (simp only [ksr, ksm, c1, if_true, if_false, ↓reduceIte]; rfl)) dX4_setStrainLimit_14

set_option maxHeartbeats 4000000 in
set_option maxRecDepth 100000 in
theorem c_X4_setHumidity (l : Launch) (E : Ev) (hE : EO E) (v : Mem) (a : Int32) : Ci l yX4_setHumidity wsX4_setHumidity ({ frames := 1, cells := 0, slots := 0, locals := 22 } : Room) E [.ref (eAd E 0), .int a] v (ksr v 4 a 0 300) (ksm v 4 a 0 300) := by
  refine Ci.of (cc := cX4_setHumidity) (maxL := 3) (ret := (some .int)) (own := RX4) (by decide) rfl rfl (Nat.le_of_ble_eq_true rfl) ?_
  intro p e s m below meth c F hr hlk ls hl hH
  obtain ⟨hx, hb, hml, hown, hts⟩ := id F.1
  have hl : lv_has ls 3 [(0, .ref (eAd E 0)), (1, .int a)] := hl
  have inX3 : ∀ w ∈ wsX30, w ∈ wsX4_setHumidity := fun w h => List.mem_cons_of_mem _ (List.mem_append_right _ h)
  have inX4 : ∀ w ∈ wsX40, w ∈ wsX4_setHumidity := fun w h => List.mem_cons_of_mem _ (List.mem_append_left _ (List.mem_append_right _ h))
  refine lv_iload_n hx hb dX4_setHumidity_0 rfl (lv_at hl 1 rfl) ?_
  refine lv_iconst (v := 0) hx hb dX4_setHumidity_1 (by decide) ?_
  refine lv_sipush (v := 300) hx hb dX4_setHumidity_2 (by decide) ?_
  refine g_si (As := [.int a, .int 0, .int 300]) F hH (c_X4_isOutside l E hE v a 0 300) (va_cwS 3 hts gX4_setHumidity_X4_isOutside rfl rfl rfl (by decide +kernel) ⟨Nat.le_of_ble_eq_true rfl, Nat.le_of_ble_eq_true rfl⟩) rfl hl.1 [] rfl (Nat.le_of_ble_eq_true rfl) dX4_setHumidity_5 ⟨Nat.zero_le _, Nat.zero_le _⟩ (fun H locs hH => ?_)
  refine lv_if_eq (tgt := 14) hx hb dX4_setHumidity_8 (by decide) (fun c1 => ?_) (fun c1 => ?_)
  · skip
    refine lv_aload_n hx hb dX4_setHumidity_14 rfl (lv_at hl 0 rfl) ?_
    refine g_get (x := .ref (eAd E 1)) F hH inX4 (hE.1 0 (by decide)) (cq_kiln E _) rfl 0 (by decide) (hts (.fieldLink RX4 10 "DryingKiln" "settings" "LDryingKiln$Settings;") (by decide +kernel)) (fun _ h => h) rfl dX4_setHumidity_15 ?_
    refine g_get (x := .int (v 1 4)) F hH inX3 (hE.1 1 (by decide)) (cq_set E _) rfl 4 (by decide) (hts (.fieldLink RX4 110 "DryingKiln$Settings" "humidity" "I") (by decide +kernel)) (fun _ h => h) rfl dX4_setHumidity_18 ?_
    refine lv_istore_n (lv' := [(2, .int (v 1 4)), (0, .ref (eAd E 0)), (1, .int a)]) hx hb dX4_setHumidity_21 rfl hl (by decide) rfl (fun ls hl => ?_)
    refine lv_aload_n hx hb dX4_setHumidity_22 rfl (lv_at hl 1 rfl) ?_
    refine g_get (x := .ref (eAd E 1)) F hH inX4 (hE.1 0 (by decide)) (cq_kiln E _) rfl 0 (by decide) (hts (.fieldLink RX4 10 "DryingKiln" "settings" "LDryingKiln$Settings;") (by decide +kernel)) (fun _ h => h) rfl dX4_setHumidity_23 ?_
    refine lv_iload_n hx hb dX4_setHumidity_26 rfl (lv_at hl 2 rfl) ?_
    refine g_put (ty := .int) (x := a) F hH inX3 tyX3 tyX3_ok nmX3 (hE.1 1 (by decide)) (cq_set E _) rfl 4 (by decide) (hts (.fieldLink RX4 110 "DryingKiln$Settings" "humidity" "I") (by decide +kernel)) (fun _ h => h) rfl (by decide +kernel) rfl rfl (Nat.le_of_ble_eq_true rfl) (cq_set E _) dX4_setHumidity_27 (fun H locs hH => ?_)
    refine lv_iload_n hx hb dX4_setHumidity_30 rfl (lv_at hl 0 rfl) ?_
    exact g_iret F hr hlk hH (by first | rfl | (simp only [ksr, ksm, c1, if_true, if_false, ↓reduceIte]; done) | (simp only [ksr, ksm, c1, if_true, if_false, ↓reduceIte]; rfl)) (by first | rfl | (simp only [ksr, ksm, c1, if_true, if_false, ↓reduceIte]; done) | (simp only [ksr, ksm, c1, if_true, if_false, ↓reduceIte]; rfl)) dX4_setHumidity_31
  · skip
    refine lv_ldc (v := -1000003) hx hb hown (hts (.constant RX4 51 (-1000003)) (by decide +kernel)) dX4_setHumidity_11 ?_
    exact g_iret F hr hlk hH (by first | rfl | (simp only [ksr, ksm, c1, if_true, if_false, ↓reduceIte]; done) | (simp only [ksr, ksm, c1, if_true, if_false, ↓reduceIte]; rfl)) (by first | rfl | (simp only [ksr, ksm, c1, if_true, if_false, ↓reduceIte]; done) | (simp only [ksr, ksm, c1, if_true, if_false, ↓reduceIte]; rfl)) dX4_setHumidity_13

set_option maxHeartbeats 4000000 in
set_option maxRecDepth 100000 in
theorem c_X4_setReversalPeriod (l : Launch) (E : Ev) (hE : EO E) (v : Mem) (a : Int32) : Ci l yX4_setReversalPeriod wsX4_setReversalPeriod ({ frames := 1, cells := 0, slots := 0, locals := 22 } : Room) E [.ref (eAd E 0), .int a] v (ksr v 5 a 0 48) (ksm v 5 a 0 48) := by
  refine Ci.of (cc := cX4_setReversalPeriod) (maxL := 3) (ret := (some .int)) (own := RX4) (by decide) rfl rfl (Nat.le_of_ble_eq_true rfl) ?_
  intro p e s m below meth c F hr hlk ls hl hH
  obtain ⟨hx, hb, hml, hown, hts⟩ := id F.1
  have hl : lv_has ls 3 [(0, .ref (eAd E 0)), (1, .int a)] := hl
  have inX3 : ∀ w ∈ wsX30, w ∈ wsX4_setReversalPeriod := fun w h => List.mem_cons_of_mem _ (List.mem_append_right _ h)
  have inX4 : ∀ w ∈ wsX40, w ∈ wsX4_setReversalPeriod := fun w h => List.mem_cons_of_mem _ (List.mem_append_left _ (List.mem_append_right _ h))
  refine lv_iload_n hx hb dX4_setReversalPeriod_0 rfl (lv_at hl 1 rfl) ?_
  refine lv_iconst (v := 0) hx hb dX4_setReversalPeriod_1 (by decide) ?_
  refine lv_bipush (v := 48) hx hb dX4_setReversalPeriod_2 (by decide) ?_
  refine g_si (As := [.int a, .int 0, .int 48]) F hH (c_X4_isOutside l E hE v a 0 48) (va_cwS 3 hts gX4_setReversalPeriod_X4_isOutside rfl rfl rfl (by decide +kernel) ⟨Nat.le_of_ble_eq_true rfl, Nat.le_of_ble_eq_true rfl⟩) rfl hl.1 [] rfl (Nat.le_of_ble_eq_true rfl) dX4_setReversalPeriod_4 ⟨Nat.zero_le _, Nat.zero_le _⟩ (fun H locs hH => ?_)
  refine lv_if_eq (tgt := 13) hx hb dX4_setReversalPeriod_7 (by decide) (fun c1 => ?_) (fun c1 => ?_)
  · skip
    refine lv_aload_n hx hb dX4_setReversalPeriod_13 rfl (lv_at hl 0 rfl) ?_
    refine g_get (x := .ref (eAd E 1)) F hH inX4 (hE.1 0 (by decide)) (cq_kiln E _) rfl 0 (by decide) (hts (.fieldLink RX4 10 "DryingKiln" "settings" "LDryingKiln$Settings;") (by decide +kernel)) (fun _ h => h) rfl dX4_setReversalPeriod_14 ?_
    refine g_get (x := .int (v 1 5)) F hH inX3 (hE.1 1 (by decide)) (cq_set E _) rfl 5 (by decide) (hts (.fieldLink RX4 117 "DryingKiln$Settings" "reversalPeriod" "I") (by decide +kernel)) (fun _ h => h) rfl dX4_setReversalPeriod_17 ?_
    refine lv_istore_n (lv' := [(2, .int (v 1 5)), (0, .ref (eAd E 0)), (1, .int a)]) hx hb dX4_setReversalPeriod_20 rfl hl (by decide) rfl (fun ls hl => ?_)
    refine lv_aload_n hx hb dX4_setReversalPeriod_21 rfl (lv_at hl 1 rfl) ?_
    refine g_get (x := .ref (eAd E 1)) F hH inX4 (hE.1 0 (by decide)) (cq_kiln E _) rfl 0 (by decide) (hts (.fieldLink RX4 10 "DryingKiln" "settings" "LDryingKiln$Settings;") (by decide +kernel)) (fun _ h => h) rfl dX4_setReversalPeriod_22 ?_
    refine lv_iload_n hx hb dX4_setReversalPeriod_25 rfl (lv_at hl 2 rfl) ?_
    refine g_put (ty := .int) (x := a) F hH inX3 tyX3 tyX3_ok nmX3 (hE.1 1 (by decide)) (cq_set E _) rfl 5 (by decide) (hts (.fieldLink RX4 117 "DryingKiln$Settings" "reversalPeriod" "I") (by decide +kernel)) (fun _ h => h) rfl (by decide +kernel) rfl rfl (Nat.le_of_ble_eq_true rfl) (cq_set E _) dX4_setReversalPeriod_26 (fun H locs hH => ?_)
    refine lv_iload_n hx hb dX4_setReversalPeriod_29 rfl (lv_at hl 0 rfl) ?_
    exact g_iret F hr hlk hH (by first | rfl | (simp only [ksr, ksm, c1, if_true, if_false, ↓reduceIte]; done) | (simp only [ksr, ksm, c1, if_true, if_false, ↓reduceIte]; rfl)) (by first | rfl | (simp only [ksr, ksm, c1, if_true, if_false, ↓reduceIte]; done) | (simp only [ksr, ksm, c1, if_true, if_false, ↓reduceIte]; rfl)) dX4_setReversalPeriod_30
  · skip
    refine lv_ldc (v := -1000003) hx hb hown (hts (.constant RX4 51 (-1000003)) (by decide +kernel)) dX4_setReversalPeriod_10 ?_
    exact g_iret F hr hlk hH (by first | rfl | (simp only [ksr, ksm, c1, if_true, if_false, ↓reduceIte]; done) | (simp only [ksr, ksm, c1, if_true, if_false, ↓reduceIte]; rfl)) (by first | rfl | (simp only [ksr, ksm, c1, if_true, if_false, ↓reduceIte]; done) | (simp only [ksr, ksm, c1, if_true, if_false, ↓reduceIte]; rfl)) dX4_setReversalPeriod_12

set_option maxHeartbeats 4000000 in
set_option maxRecDepth 100000 in
theorem c_X4_setFan (l : Launch) (E : Ev) (hE : EO E) (v : Mem) (a : Int32) (ha : isB a) : Ci l yX4_setFan wsX4_setFan ({ frames := 0, cells := 0, slots := 0, locals := 0 } : Room) E [.ref (eAd E 0), .int a] v (if v 5 0 = a then 0 else 1) (st v 5 0 a) := by
  refine Ci.of (cc := cX4_setFan) (maxL := 3) (ret := (some .int)) (own := RX4) (by decide) rfl rfl (Nat.le_of_ble_eq_true rfl) ?_
  intro p e s m below meth c F hr hlk ls hl hH
  obtain ⟨hx, hb, hml, hown, hts⟩ := id F.1
  have hl : lv_has ls 3 [(0, .ref (eAd E 0)), (1, .int a)] := hl
  have inX1 : ∀ w ∈ wsX10, w ∈ wsX4_setFan := fun w h => List.mem_cons_of_mem _ (List.mem_append_right _ h)
  have inX4 : ∀ w ∈ wsX40, w ∈ wsX4_setFan := fun w h => List.mem_cons_of_mem _ (List.mem_append_left _ (List.mem_append_right _ h))
  refine lv_aload_n hx hb dX4_setFan_0 rfl (lv_at hl 0 rfl) ?_
  refine g_get (x := .ref (eAd E 5)) F hH inX4 (hE.1 0 (by decide)) (cq_kiln E _) rfl 2 (by decide) (hts (.fieldLink RX4 26 "DryingKiln" "load" "LDryingKiln$Load;") (by decide +kernel)) (fun _ h => h) rfl dX4_setFan_1 ?_
  refine g_get (x := .int (v 5 0)) F hH inX1 (hE.1 5 (by decide)) (cq_ld E _ (i := 0) (by decide)) rfl 0 (by decide) (hts (.fieldLink RX4 113 "DryingKiln$Load" "reversed" "Z") (by decide +kernel)) (fun _ h => h) rfl dX4_setFan_4 ?_
  refine lv_iload_n hx hb dX4_setFan_7 rfl (lv_at hl 1 rfl) ?_
  refine lv_icmp_eq (tgt := 15) hx hb dX4_setFan_8 (by decide) (fun c1 => ?_) (fun c1 => ?_)
  · skip
    refine lv_iconst (v := 0) hx hb dX4_setFan_15 (by decide) ?_
    refine lv_istore_n (lv' := [(2, .int 0), (0, .ref (eAd E 0)), (1, .int a)]) hx hb dX4_setFan_16 rfl hl (by decide) rfl (fun ls hl => ?_)
    refine lv_aload_n hx hb dX4_setFan_17 rfl (lv_at hl 1 rfl) ?_
    refine g_get (x := .ref (eAd E 5)) F hH inX4 (hE.1 0 (by decide)) (cq_kiln E _) rfl 2 (by decide) (hts (.fieldLink RX4 26 "DryingKiln" "load" "LDryingKiln$Load;") (by decide +kernel)) (fun _ h => h) rfl dX4_setFan_18 ?_
    refine lv_iload_n hx hb dX4_setFan_21 rfl (lv_at hl 2 rfl) ?_
    refine g_put (ty := .boolean) (x := a) F hH inX1 tyX1 tyX1_ok nmX1 (hE.1 5 (by decide)) (cq_ld E _ (i := 0) (by decide)) rfl 0 (by decide) (hts (.fieldLink RX4 113 "DryingKiln$Load" "reversed" "Z") (by decide +kernel)) (fun _ h => h) rfl (by decide +kernel) ha.n ha.f (Nat.le_of_ble_eq_true rfl) (cq_ld E _ (i := 0) (by decide)) dX4_setFan_22 (fun H locs hH => ?_)
    refine lv_iload_n hx hb dX4_setFan_25 rfl (lv_at hl 0 rfl) ?_
    refine lv_if_eq (tgt := 33) hx hb dX4_setFan_26 (by decide) (fun c2 => ?_) (fun c2 => ?_)
    · skip
      refine lv_iconst (v := 0) hx hb dX4_setFan_33 (by decide) ?_
      exact g_iret F hr hlk hH (by first | rfl | (simp only [c1, c2, if_true, if_false, ↓reduceIte]; done) | (simp only [c1, c2, if_true, if_false, ↓reduceIte]; rfl)) (by first | rfl | (simp only [c1, c2, if_true, if_false, ↓reduceIte]; done) | (simp only [c1, c2, if_true, if_false, ↓reduceIte]; rfl)) dX4_setFan_34
    · skip
      exact absurd (by decide) c2
  · skip
    refine lv_iconst (v := 1) hx hb dX4_setFan_11 (by decide) ?_
    refine lv_goto (tgt := 16) hx hb dX4_setFan_12 (by decide) ?_
    refine lv_istore_n (lv' := [(2, .int 1), (0, .ref (eAd E 0)), (1, .int a)]) hx hb dX4_setFan_16 rfl hl (by decide) rfl (fun ls hl => ?_)
    refine lv_aload_n hx hb dX4_setFan_17 rfl (lv_at hl 1 rfl) ?_
    refine g_get (x := .ref (eAd E 5)) F hH inX4 (hE.1 0 (by decide)) (cq_kiln E _) rfl 2 (by decide) (hts (.fieldLink RX4 26 "DryingKiln" "load" "LDryingKiln$Load;") (by decide +kernel)) (fun _ h => h) rfl dX4_setFan_18 ?_
    refine lv_iload_n hx hb dX4_setFan_21 rfl (lv_at hl 2 rfl) ?_
    refine g_put (ty := .boolean) (x := a) F hH inX1 tyX1 tyX1_ok nmX1 (hE.1 5 (by decide)) (cq_ld E _ (i := 0) (by decide)) rfl 0 (by decide) (hts (.fieldLink RX4 113 "DryingKiln$Load" "reversed" "Z") (by decide +kernel)) (fun _ h => h) rfl (by decide +kernel) ha.n ha.f (Nat.le_of_ble_eq_true rfl) (cq_ld E _ (i := 0) (by decide)) dX4_setFan_22 (fun H locs hH => ?_)
    refine lv_iload_n hx hb dX4_setFan_25 rfl (lv_at hl 0 rfl) ?_
    refine lv_if_eq (tgt := 33) hx hb dX4_setFan_26 (by decide) (fun c3 => ?_) (fun c3 => ?_)
    · skip
      exact absurd c3 (by decide)
    · skip
      refine lv_iconst (v := 1) hx hb dX4_setFan_29 (by decide) ?_
      refine lv_goto (tgt := 34) hx hb dX4_setFan_30 (by decide) ?_
      exact g_iret F hr hlk hH (by first | rfl | (simp only [c1, c3, if_true, if_false, ↓reduceIte]; done) | (simp only [c1, c3, if_true, if_false, ↓reduceIte]; rfl)) (by first | rfl | (simp only [c1, c3, if_true, if_false, ↓reduceIte]; done) | (simp only [c1, c3, if_true, if_false, ↓reduceIte]; rfl)) dX4_setFan_34

set_option maxHeartbeats 4000000 in
set_option maxRecDepth 100000 in
theorem c_X4_isFanReversed (l : Launch) (E : Ev) (hE : EO E) (v : Mem) : Ci l yX4_isFanReversed wsX4_isFanReversed ({ frames := 0, cells := 0, slots := 0, locals := 0 } : Room) E [.ref (eAd E 0)] v (if v 5 0 = 0 then 0 else 1) v := by
  refine Ci.of (cc := cX4_isFanReversed) (maxL := 1) (ret := (some .int)) (own := RX4) (by decide) rfl rfl (Nat.le_of_ble_eq_true rfl) ?_
  intro p e s m below meth c F hr hlk ls hl hH
  obtain ⟨hx, hb, hml, hown, hts⟩ := id F.1
  have hl : lv_has ls 1 [(0, .ref (eAd E 0))] := hl
  have inX1 : ∀ w ∈ wsX10, w ∈ wsX4_isFanReversed := fun w h => List.mem_cons_of_mem _ (List.mem_append_right _ h)
  have inX4 : ∀ w ∈ wsX40, w ∈ wsX4_isFanReversed := fun w h => List.mem_cons_of_mem _ (List.mem_append_left _ (List.mem_append_right _ h))
  refine lv_aload_n hx hb dX4_isFanReversed_0 rfl (lv_at hl 0 rfl) ?_
  refine g_get (x := .ref (eAd E 5)) F hH inX4 (hE.1 0 (by decide)) (cq_kiln E _) rfl 2 (by decide) (hts (.fieldLink RX4 26 "DryingKiln" "load" "LDryingKiln$Load;") (by decide +kernel)) (fun _ h => h) rfl dX4_isFanReversed_1 ?_
  refine g_get (x := .int (v 5 0)) F hH inX1 (hE.1 5 (by decide)) (cq_ld E _ (i := 0) (by decide)) rfl 0 (by decide) (hts (.fieldLink RX4 113 "DryingKiln$Load" "reversed" "Z") (by decide +kernel)) (fun _ h => h) rfl dX4_isFanReversed_4 ?_
  refine lv_if_eq (tgt := 14) hx hb dX4_isFanReversed_7 (by decide) (fun c1 => ?_) (fun c1 => ?_)
  · skip
    refine lv_iconst (v := 0) hx hb dX4_isFanReversed_14 (by decide) ?_
    exact g_iret F hr hlk hH (by first | rfl | (simp only [c1, if_true, if_false, ↓reduceIte]; done) | (simp only [c1, if_true, if_false, ↓reduceIte]; rfl)) (by first | rfl | (simp only [c1, if_true, if_false, ↓reduceIte]; done) | (simp only [c1, if_true, if_false, ↓reduceIte]; rfl)) dX4_isFanReversed_15
  · skip
    refine lv_iconst (v := 1) hx hb dX4_isFanReversed_10 (by decide) ?_
    refine lv_goto (tgt := 15) hx hb dX4_isFanReversed_11 (by decide) ?_
    exact g_iret F hr hlk hH (by first | rfl | (simp only [c1, if_true, if_false, ↓reduceIte]; done) | (simp only [c1, if_true, if_false, ↓reduceIte]; rfl)) (by first | rfl | (simp only [c1, if_true, if_false, ↓reduceIte]; done) | (simp only [c1, if_true, if_false, ↓reduceIte]; rfl)) dX4_isFanReversed_15

set_option maxHeartbeats 4000000 in
set_option maxRecDepth 100000 in
theorem c_X4_hour (l : Launch) (E : Ev) (hE : EO E) (v : Mem) : Ci l yX4_hour wsX4_hour ({ frames := 0, cells := 0, slots := 0, locals := 0 } : Room) E [.ref (eAd E 0)] v (v 0 6) v := by
  refine Ci.of (cc := cX4_hour) (maxL := 1) (ret := (some .int)) (own := RX4) (by decide) rfl rfl (Nat.le_of_ble_eq_true rfl) ?_
  intro p e s m below meth c F hr hlk ls hl hH
  obtain ⟨hx, hb, hml, hown, hts⟩ := id F.1
  have hl : lv_has ls 1 [(0, .ref (eAd E 0))] := hl
  have inX4 : ∀ w ∈ wsX40, w ∈ wsX4_hour := fun w h => List.mem_cons_of_mem _ (List.mem_append_right _ h)
  refine lv_aload_n hx hb dX4_hour_0 rfl (lv_at hl 0 rfl) ?_
  refine g_get (x := .int (v 0 6)) F hH inX4 (hE.1 0 (by decide)) (cq_kiln E _) rfl 6 (by decide) (hts (.fieldLink RX4 40 "DryingKiln" "hoursRun" "I") (by decide +kernel)) (fun _ h => h) rfl dX4_hour_1 ?_
  exact g_iret F hr hlk hH (by first | rfl | (simp only [if_true, if_false, ↓reduceIte]; done) | (simp only [if_true, if_false, ↓reduceIte]; rfl)) (by first | rfl | (simp only [if_true, if_false, ↓reduceIte]; done) | (simp only [if_true, if_false, ↓reduceIte]; rfl)) dX4_hour_4

set_option maxHeartbeats 4000000 in
set_option maxRecDepth 100000 in
theorem c_X4_evaporated (l : Launch) (E : Ev) (hE : EO E) (v : Mem) : Ci l yX4_evaporated wsX4_evaporated ({ frames := 0, cells := 0, slots := 0, locals := 0 } : Room) E [.ref (eAd E 0)] v (v 0 7) v := by
  refine Ci.of (cc := cX4_evaporated) (maxL := 1) (ret := (some .int)) (own := RX4) (by decide) rfl rfl (Nat.le_of_ble_eq_true rfl) ?_
  intro p e s m below meth c F hr hlk ls hl hH
  obtain ⟨hx, hb, hml, hown, hts⟩ := id F.1
  have hl : lv_has ls 1 [(0, .ref (eAd E 0))] := hl
  have inX4 : ∀ w ∈ wsX40, w ∈ wsX4_evaporated := fun w h => List.mem_cons_of_mem _ (List.mem_append_right _ h)
  refine lv_aload_n hx hb dX4_evaporated_0 rfl (lv_at hl 0 rfl) ?_
  refine g_get (x := .int (v 0 7)) F hH inX4 (hE.1 0 (by decide)) (cq_kiln E _) rfl 7 (by decide) (hts (.fieldLink RX4 44 "DryingKiln" "waterGivenOff" "I") (by decide +kernel)) (fun _ h => h) rfl dX4_evaporated_1 ?_
  exact g_iret F hr hlk hH (by first | rfl | (simp only [if_true, if_false, ↓reduceIte]; done) | (simp only [if_true, if_false, ↓reduceIte]; rfl)) (by first | rfl | (simp only [if_true, if_false, ↓reduceIte]; done) | (simp only [if_true, if_false, ↓reduceIte]; rfl)) dX4_evaporated_4

set_option maxHeartbeats 4000000 in
set_option maxRecDepth 100000 in
theorem c_X4_endHour (l : Launch) (E : Ev) (hE : EO E) (v : Mem) : Ci l yX4_endHour wsX4_endHour ({ frames := 4, cells := 0, slots := 0, locals := 89 } : Room) E [.ref (eAd E 0)] v ((kend E v).2) ((kend E v).1) := by
  refine Ci.of (cc := cX4_endHour) (maxL := 1) (ret := (some .int)) (own := RX4) (by decide) rfl rfl (Nat.le_of_ble_eq_true rfl) ?_
  intro p e s m below meth c F hr hlk ls hl hH
  obtain ⟨hx, hb, hml, hown, hts⟩ := id F.1
  have hl : lv_has ls 1 [(0, .ref (eAd E 0))] := hl
  have inJx4a65c : ∀ w ∈ wsJx4a65c0, w ∈ wsX4_endHour := fun w h => List.mem_cons_of_mem _ (List.mem_append_right _ h)
  have inX0 : ∀ w ∈ wsX00, w ∈ wsX4_endHour := fun w h => List.mem_cons_of_mem _ (List.mem_append_left _ (List.mem_append_right _ h))
  have inX1 : ∀ w ∈ wsX10, w ∈ wsX4_endHour := fun w h => List.mem_cons_of_mem _ (List.mem_append_left _ (List.mem_append_left _ (List.mem_append_right _ h)))
  have inX3 : ∀ w ∈ wsX30, w ∈ wsX4_endHour := fun w h => List.mem_cons_of_mem _ (List.mem_append_left _ (List.mem_append_left _ (List.mem_append_left _ (List.mem_append_right _ h))))
  have inX4 : ∀ w ∈ wsX40, w ∈ wsX4_endHour := fun w h => List.mem_cons_of_mem _ (List.mem_append_left _ (List.mem_append_left _ (List.mem_append_left _ (List.mem_append_left _ (List.mem_append_right _ h)))))
  refine lv_aload_n hx hb dX4_endHour_0 rfl (lv_at hl 0 rfl) ?_
  refine lv_dup hx hb dX4_endHour_1 rfl ?_
  refine g_get (x := .int (v 0 6)) F hH inX4 (hE.1 0 (by decide)) (cq_kiln E _) rfl 6 (by decide) (hts (.fieldLink RX4 40 "DryingKiln" "hoursRun" "I") (by decide +kernel)) (fun _ h => h) rfl dX4_endHour_2 ?_
  refine lv_iconst (v := 1) hx hb dX4_endHour_5 (by decide) ?_
  refine lv_iadd hx hb dX4_endHour_6 ?_
  refine g_put (ty := .int) (x := (v 0 6) + 1) F hH inX4 tyX4 tyX4_ok nmX4 (hE.1 0 (by decide)) (cq_kiln E _) rfl 6 (by decide) (hts (.fieldLink RX4 40 "DryingKiln" "hoursRun" "I") (by decide +kernel)) (fun _ h => h) rfl (by decide +kernel) rfl rfl (Nat.le_of_ble_eq_true rfl) (cq_kiln E _) dX4_endHour_7 (fun H locs hH => ?_)
  refine lv_aload_n hx hb dX4_endHour_10 rfl (lv_at hl 0 rfl) ?_
  refine g_get (x := .ref (eAd E 5)) F hH inX4 (hE.1 0 (by decide)) (cq_kiln E _) rfl 2 (by decide) (hts (.fieldLink RX4 26 "DryingKiln" "load" "LDryingKiln$Load;") (by decide +kernel)) (fun _ h => h) rfl dX4_endHour_11 ?_
  refine lv_aload_n hx hb dX4_endHour_14 rfl (lv_at hl 0 rfl) ?_
  refine g_get (x := .ref (eAd E 1)) F hH inX4 (hE.1 0 (by decide)) (cq_kiln E _) rfl 0 (by decide) (hts (.fieldLink RX4 10 "DryingKiln" "settings" "LDryingKiln$Settings;") (by decide +kernel)) (fun _ h => h) rfl dX4_endHour_15 ?_
  refine g_get (x := .int ((st v 0 6 ((v 0 6) + 1)) 1 3)) F hH inX3 (hE.1 1 (by decide)) (cq_set E _) rfl 3 (by decide) (hts (.fieldLink RX4 107 "DryingKiln$Settings" "strainLimit" "I") (by decide +kernel)) (fun _ h => h) rfl dX4_endHour_18 ?_
  rw [show (st v 0 6 ((v 0 6) + 1)) 1 3 = v 1 3 by rw [st_ne _ _ _ (by decide)]]
  refine lv_aload_n hx hb dX4_endHour_21 rfl (lv_at hl 0 rfl) ?_
  refine g_get (x := .int ((st v 0 6 ((v 0 6) + 1)) 0 6)) F hH inX4 (hE.1 0 (by decide)) (cq_kiln E _) rfl 6 (by decide) (hts (.fieldLink RX4 40 "DryingKiln" "hoursRun" "I") (by decide +kernel)) (fun _ h => h) rfl dX4_endHour_22 ?_
  rw [show (st v 0 6 ((v 0 6) + 1)) 0 6 = (v 0 6) + 1 by rw [st_at]]
  refine g_vi (As := [.int (v 1 3), .int ((v 0 6) + 1)]) F hH (c_X1_recordChecks l E hE (st v 0 6 ((v 0 6) + 1)) 0 (v 1 3) ((v 0 6) + 1) (by first | assumption | omega | decide)) (cwV 2 hts gX4_endHour_X1_recordChecks rfl rfl rfl (by decide +kernel) ⟨Nat.le_of_ble_eq_true rfl, Nat.le_of_ble_eq_true rfl⟩) (hE.1 5 (by decide)) (cq_ld E _ (i := 0) (by decide)) rfl rfl hl.1 [] rfl (Nat.le_of_ble_eq_true rfl) dX4_endHour_25 ⟨Nat.zero_le _, Nat.zero_le _⟩ (fun H locs hH => ?_)
  exact g_iret F hr hlk hH rfl rfl dX4_endHour_28

set_option maxHeartbeats 4000000 in
set_option maxRecDepth 100000 in
theorem c_X4_runDryingHour (l : Launch) (E : Ev) (hE : EO E) (v : Mem) (a : Int32) : Ci l yX4_runDryingHour wsX4_runDryingHour ({ frames := 5, cells := 0, slots := 0, locals := 109 } : Room) E [.ref (eAd E 0), .int a] v (lgiv E 0 a v) (krh E a v) := by
  refine Ci.of (cc := cX4_runDryingHour) (maxL := 3) (ret := (some .int)) (own := RX4) (by decide) rfl rfl (Nat.le_of_ble_eq_true rfl) ?_
  intro p e s m below meth c F hr hlk ls hl hH
  obtain ⟨hx, hb, hml, hown, hts⟩ := id F.1
  have hl : lv_has ls 3 [(0, .ref (eAd E 0)), (1, .int a)] := hl
  have inJx4a65c : ∀ w ∈ wsJx4a65c0, w ∈ wsX4_runDryingHour := fun w h => List.mem_cons_of_mem _ (List.mem_append_left _ (List.mem_append_right _ h))
  have inX0 : ∀ w ∈ wsX00, w ∈ wsX4_runDryingHour := fun w h => List.mem_cons_of_mem _ (List.mem_append_right _ h)
  have inX1 : ∀ w ∈ wsX10, w ∈ wsX4_runDryingHour := fun w h => List.mem_cons_of_mem _ (List.mem_append_left _ (List.mem_append_left _ (List.mem_append_left _ (List.mem_append_right _ h))))
  have inX3 : ∀ w ∈ wsX30, w ∈ wsX4_runDryingHour := fun w h => List.mem_cons_of_mem _ (List.mem_append_left _ (List.mem_append_left _ (List.mem_append_right _ h)))
  have inX4 : ∀ w ∈ wsX40, w ∈ wsX4_runDryingHour := fun w h => List.mem_cons_of_mem _ (List.mem_append_left _ (List.mem_append_left _ (List.mem_append_left _ (List.mem_append_left _ (List.mem_append_right _ h)))))
  refine lv_aload_n hx hb dX4_runDryingHour_0 rfl (lv_at hl 0 rfl) ?_
  refine g_get (x := .ref (eAd E 5)) F hH inX4 (hE.1 0 (by decide)) (cq_kiln E _) rfl 2 (by decide) (hts (.fieldLink RX4 26 "DryingKiln" "load" "LDryingKiln$Load;") (by decide +kernel)) (fun _ h => h) rfl dX4_runDryingHour_1 ?_
  refine lv_iload_n hx hb dX4_runDryingHour_4 rfl (lv_at hl 1 rfl) ?_
  refine lv_aload_n hx hb dX4_runDryingHour_5 rfl (lv_at hl 0 rfl) ?_
  refine g_get (x := .ref (eAd E 1)) F hH inX4 (hE.1 0 (by decide)) (cq_kiln E _) rfl 0 (by decide) (hts (.fieldLink RX4 10 "DryingKiln" "settings" "LDryingKiln$Settings;") (by decide +kernel)) (fun _ h => h) rfl dX4_runDryingHour_6 ?_
  refine g_vi (As := [.int a, .ref (eAd E 1)]) F hH (c_X1_passDryingHour l E hE v 0 a (by first | assumption | omega | decide)) (cwV 2 hts gX4_runDryingHour_X1_passDryingHour rfl rfl rfl (by decide +kernel) ⟨Nat.le_of_ble_eq_true rfl, Nat.le_of_ble_eq_true rfl⟩) (hE.1 5 (by decide)) (cq_ld E _ (i := 0) (by decide)) rfl rfl hl.1 [] rfl (Nat.le_of_ble_eq_true rfl) dX4_runDryingHour_9 ⟨Nat.zero_le _, Nat.zero_le _⟩ (fun H locs hH => ?_)
  refine lv_istore_n (lv' := [(2, .int (lgiv E 0 a v)), (0, .ref (eAd E 0)), (1, .int a)]) hx hb dX4_runDryingHour_12 rfl hl (by decide) rfl (fun ls hl => ?_)
  refine lv_aload_n hx hb dX4_runDryingHour_13 rfl (lv_at hl 1 rfl) ?_
  refine lv_dup hx hb dX4_runDryingHour_14 rfl ?_
  refine g_get (x := .int ((ldry E 0 a v) 0 7)) F hH inX4 (hE.1 0 (by decide)) (cq_kiln E _) rfl 7 (by decide) (hts (.fieldLink RX4 44 "DryingKiln" "waterGivenOff" "I") (by decide +kernel)) (fun _ h => h) rfl dX4_runDryingHour_15 ?_
  rw [show (ldry E 0 a v) 0 7 = v 0 7 from congrFun (ldry_lo E _ _ (by decide) (by decide)) _]
  refine lv_iload_n hx hb dX4_runDryingHour_18 rfl (lv_at hl 0 rfl) ?_
  refine lv_iadd hx hb dX4_runDryingHour_19 ?_
  refine g_put (ty := .int) (x := (v 0 7) + (lgiv E 0 a v)) F hH inX4 tyX4 tyX4_ok nmX4 (hE.1 0 (by decide)) (cq_kiln E _) rfl 7 (by decide) (hts (.fieldLink RX4 44 "DryingKiln" "waterGivenOff" "I") (by decide +kernel)) (fun _ h => h) rfl (by decide +kernel) rfl rfl (Nat.le_of_ble_eq_true rfl) (cq_kiln E _) dX4_runDryingHour_20 (fun H locs hH => ?_)
  refine lv_aload_n hx hb dX4_runDryingHour_23 rfl (lv_at hl 1 rfl) ?_
  refine g_vi (As := []) F hH (c_X4_endHour l E hE (st (ldry E 0 a v) 0 7 ((v 0 7) + (lgiv E 0 a v)))) (cwV 0 hts gX4_runDryingHour_X4_endHour rfl rfl rfl (by decide +kernel) ⟨Nat.le_of_ble_eq_true rfl, Nat.le_of_ble_eq_true rfl⟩) (hE.1 0 (by decide)) (cq_kiln E _) rfl rfl hl.1 [] rfl (Nat.le_of_ble_eq_true rfl) dX4_runDryingHour_24 ⟨Nat.zero_le _, Nat.zero_le _⟩ (fun H locs hH => ?_)
  refine lv_pop hx hb dX4_runDryingHour_27 rfl ?_
  refine lv_iload_n hx hb dX4_runDryingHour_28 rfl (lv_at hl 0 rfl) ?_
  exact g_iret F hr hlk hH rfl rfl dX4_runDryingHour_29

set_option maxHeartbeats 4000000 in
set_option maxRecDepth 100000 in
theorem c_X4_dry (l : Launch) (E : Ev) (hE : EO E) (v : Mem) (a : Int32) : Ci l yX4_dry wsX4_dry ({ frames := 6, cells := 0, slots := 0, locals := 131 } : Room) E [.ref (eAd E 0), .int a] v (kdr E v a) (kdm E v a) := by
  refine Ci.of (cc := cX4_dry) (maxL := 4) (ret := (some .int)) (own := RX4) (by decide) rfl rfl (Nat.le_of_ble_eq_true rfl) ?_
  intro p e s m below meth c F hr hlk ls hl hH
  obtain ⟨hx, hb, hml, hown, hts⟩ := id F.1
  have hl : lv_has ls 4 [(0, .ref (eAd E 0)), (1, .int a)] := hl
  have inJx4a65c : ∀ w ∈ wsJx4a65c0, w ∈ wsX4_dry := fun w h => List.mem_cons_of_mem _ (List.mem_append_left _ (List.mem_append_right _ h))
  have inX0 : ∀ w ∈ wsX00, w ∈ wsX4_dry := fun w h => List.mem_cons_of_mem _ (List.mem_append_right _ h)
  have inX1 : ∀ w ∈ wsX10, w ∈ wsX4_dry := fun w h => List.mem_cons_of_mem _ (List.mem_append_left _ (List.mem_append_left _ (List.mem_append_right _ h)))
  have inX3 : ∀ w ∈ wsX30, w ∈ wsX4_dry := fun w h => List.mem_cons_of_mem _ (List.mem_append_left _ (List.mem_append_left _ (List.mem_append_left _ (List.mem_append_right _ h))))
  have inX4 : ∀ w ∈ wsX40, w ∈ wsX4_dry := fun w h => List.mem_cons_of_mem _ (List.mem_append_left _ (List.mem_append_left _ (List.mem_append_left _ (List.mem_append_left _ (List.mem_append_right _ h)))))
  refine lv_iload_n hx hb dX4_dry_0 rfl (lv_at hl 1 rfl) ?_
  refine lv_iconst (v := 1) hx hb dX4_dry_1 (by decide) ?_
  refine lv_sipush (v := 200) hx hb dX4_dry_2 (by decide) ?_
  refine g_si (As := [.int a, .int 1, .int 200]) F hH (c_X4_isOutside l E hE v a 1 200) (va_cwS 3 hts gX4_dry_X4_isOutside rfl rfl rfl (by decide +kernel) ⟨Nat.le_of_ble_eq_true rfl, Nat.le_of_ble_eq_true rfl⟩) rfl hl.1 [] rfl (Nat.le_of_ble_eq_true rfl) dX4_dry_5 ⟨Nat.zero_le _, Nat.zero_le _⟩ (fun H locs hH => ?_)
  refine lv_if_eq (tgt := 14) hx hb dX4_dry_8 (by decide) (fun c1 => ?_) (fun c1 => ?_)
  · skip
    obtain ⟨N, hN, rfl⟩ := out_200 c1
    have hcl : (nI N).toNatClampNeg = N := nI_clamp (by omega)
    refine lv_iconst (v := 0) hx hb dX4_dry_14 (by decide) ?_
    refine lv_istore_n (lv' := [(2, .int 0), (0, .ref (eAd E 0)), (1, .int (nI N))]) hx hb dX4_dry_15 rfl hl (by decide) rfl (fun ls hl => ?_)
    refine lv_iconst (v := 0) hx hb dX4_dry_16 (by decide) ?_
    refine lv_istore_n (lv' := [(3, .int 0), (2, .int 0), (0, .ref (eAd E 0)), (1, .int (nI N))]) hx hb dX4_dry_17 rfl hl (by decide) rfl (fun ls hl => ?_)
    have loop18 : ∀ (n t : Nat), t + n = N → ∀ (H : Heap) (locs : List Loc) (ls : Array Slot), HS E s.heap ((kdp E v t).1) H locs → lv_has ls 4 [(0, .ref (eAd E 0)), (1, .int (nI N)), (2, .int ((kdp E v t).2)), (3, .int (nI t))] → W p l e ({ frames := 6, cells := 0, slots := 0, locals := 131 } : Room) s m ([.ref (eAd E 0), .int (nI N)] : List Value).toArray below meth c H locs 0 0 (Zi below E ([.ref (eAd E 0), .int (nI N)] : List Value).toArray s (kdr E v (nI N)) (kdm E v (nI N))) (F0 m 18 ls []) := by
      intro n
      induction n with
      | zero =>
        intro t ht H locs ls hH hl
        obtain rfl : N = t := by omega
        refine lv_iload_n hx hb dX4_dry_18 rfl (lv_at hl 3 rfl) ?_
        refine lv_iload_n hx hb dX4_dry_19 rfl (lv_at hl 1 rfl) ?_
        refine lv_icmp_ge (tgt := 43) hx hb dX4_dry_20 (by decide) (fun c2 => ?_) (fun c2 => ?_)
        · skip
          refine lv_iload_n hx hb dX4_dry_43 rfl (lv_at hl 2 rfl) ?_
          exact g_iret F hr hlk hH (by first | rfl | (simp only [kdr, kdm, c1, hcl, c2, if_true, if_false, ↓reduceIte]; done) | (simp only [kdr, kdm, c1, hcl, c2, if_true, if_false, ↓reduceIte]; rfl)) (by first | rfl | (simp only [kdr, kdm, c1, hcl, c2, if_true, if_false, ↓reduceIte]; done) | (simp only [kdr, kdm, c1, hcl, c2, if_true, if_false, ↓reduceIte]; rfl)) dX4_dry_44
        · skip
          exact absurd (nI_le (Nat.le_refl _) (by omega)) c2
      | succ n ih =>
        intro t ht H locs ls hH hl
        have htN : t < N := by omega
        refine lv_iload_n hx hb dX4_dry_18 rfl (lv_at hl 3 rfl) ?_
        refine lv_iload_n hx hb dX4_dry_19 rfl (lv_at hl 1 rfl) ?_
        refine lv_icmp_ge (tgt := 43) hx hb dX4_dry_20 (by decide) (fun c3 => ?_) (fun c3 => ?_)
        · skip
          exact absurd c3 (nI_ge htN (by omega))
        · skip
          refine lv_iload_n hx hb dX4_dry_23 rfl (lv_at hl 2 rfl) ?_
          refine lv_aload_n hx hb dX4_dry_24 rfl (lv_at hl 0 rfl) ?_
          refine lv_aload_n hx hb dX4_dry_25 rfl (lv_at hl 0 rfl) ?_
          refine g_get (x := .ref (eAd E 1)) F hH inX4 (hE.1 0 (by decide)) (cq_kiln E _) rfl 0 (by decide) (hts (.fieldLink RX4 10 "DryingKiln" "settings" "LDryingKiln$Settings;") (by decide +kernel)) (fun _ h => h) rfl dX4_dry_26 ?_
          refine g_get (x := .int (((kdp E v t).1) 1 4)) F hH inX3 (hE.1 1 (by decide)) (cq_set E _) rfl 4 (by decide) (hts (.fieldLink RX4 110 "DryingKiln$Settings" "humidity" "I") (by decide +kernel)) (fun _ h => h) rfl dX4_dry_29 ?_
          refine g_vi (As := [.int (((kdp E v t).1) 1 4)]) F hH (c_X4_runDryingHour l E hE ((kdp E v t).1) (((kdp E v t).1) 1 4)) (cwV 1 hts gX4_dry_X4_runDryingHour rfl rfl rfl (by decide +kernel) ⟨Nat.le_of_ble_eq_true rfl, Nat.le_of_ble_eq_true rfl⟩) (hE.1 0 (by decide)) (cq_kiln E _) rfl rfl hl.1 [.int ((kdp E v t).2)] rfl (Nat.le_of_ble_eq_true rfl) dX4_dry_32 ⟨Nat.zero_le _, Nat.zero_le _⟩ (fun H locs hH => ?_)
          refine lv_iadd hx hb dX4_dry_35 ?_
          refine lv_istore_n (lv' := [(2, .int (((kdp E v t).2) + (lgiv E 0 (((kdp E v t).1) 1 4) ((kdp E v t).1)))), (0, .ref (eAd E 0)), (1, .int (nI N)), (3, .int (nI t))]) hx hb dX4_dry_36 rfl hl (by decide) rfl (fun ls hl => ?_)
          refine lv_iinc (v := nI (t + 1)) (lv' := [(3, .int (nI (t + 1))), (2, .int (((kdp E v t).2) + (lgiv E 0 (((kdp E v t).1) 1 4) ((kdp E v t).1)))), (0, .ref (eAd E 0)), (1, .int (nI N))]) hx hb dX4_dry_37 hl (k := 3) rfl (nI_1 _) (by decide) rfl (fun ls hl => ?_)
          refine lv_goto (tgt := 18) hx hb dX4_dry_40 (by decide) ?_
          exact ih (t + 1) (by omega) _ _ ls (by first | exact hH | (simp only [kdr, kdm, c1, hcl, c3, if_true, if_false, ↓reduceIte]; exact hH)) (by first | exact lv_sub hl [2, 3, 1, 0] rfl | (have h := lv_sub hl [2, 3, 1, 0] rfl; simp only [kdr, kdm, c1, hcl, c3, if_true, if_false, ↓reduceIte]; exact h))
    exact loop18 N 0 (Nat.zero_add _) _ _ ls hH (lv_sub hl [2, 3, 1, 0] rfl)
  · skip
    refine lv_ldc (v := -1000003) hx hb hown (hts (.constant RX4 51 (-1000003)) (by decide +kernel)) dX4_dry_11 ?_
    exact g_iret F hr hlk hH (by first | rfl | (simp only [kdr, kdm, c1, if_true, if_false, ↓reduceIte]; done) | (simp only [kdr, kdm, c1, if_true, if_false, ↓reduceIte]; rfl)) (by first | rfl | (simp only [kdr, kdm, c1, if_true, if_false, ↓reduceIte]; done) | (simp only [kdr, kdm, c1, if_true, if_false, ↓reduceIte]; rfl)) dX4_dry_13

set_option maxHeartbeats 4000000 in
set_option maxRecDepth 100000 in
theorem c_X4_rest (l : Launch) (E : Ev) (hE : EO E) (v : Mem) (a : Int32) : Ci l yX4_rest wsX4_rest ({ frames := 5, cells := 0, slots := 0, locals := 109 } : Room) E [.ref (eAd E 0), .int a] v (krr E v a) (krm E v a) := by
  refine Ci.of (cc := cX4_rest) (maxL := 4) (ret := (some .int)) (own := RX4) (by decide) rfl rfl (Nat.le_of_ble_eq_true rfl) ?_
  intro p e s m below meth c F hr hlk ls hl hH
  obtain ⟨hx, hb, hml, hown, hts⟩ := id F.1
  have hl : lv_has ls 4 [(0, .ref (eAd E 0)), (1, .int a)] := hl
  have inJx4a65c : ∀ w ∈ wsJx4a65c0, w ∈ wsX4_rest := fun w h => List.mem_cons_of_mem _ (List.mem_append_left _ (List.mem_append_right _ h))
  have inX0 : ∀ w ∈ wsX00, w ∈ wsX4_rest := fun w h => List.mem_cons_of_mem _ (List.mem_append_right _ h)
  have inX1 : ∀ w ∈ wsX10, w ∈ wsX4_rest := fun w h => List.mem_cons_of_mem _ (List.mem_append_left _ (List.mem_append_left _ (List.mem_append_left _ (List.mem_append_right _ h))))
  have inX3 : ∀ w ∈ wsX30, w ∈ wsX4_rest := fun w h => List.mem_cons_of_mem _ (List.mem_append_left _ (List.mem_append_left _ (List.mem_append_right _ h)))
  have inX4 : ∀ w ∈ wsX40, w ∈ wsX4_rest := fun w h => List.mem_cons_of_mem _ (List.mem_append_left _ (List.mem_append_left _ (List.mem_append_left _ (List.mem_append_left _ (List.mem_append_right _ h)))))
  refine lv_iload_n hx hb dX4_rest_0 rfl (lv_at hl 1 rfl) ?_
  refine lv_iconst (v := 1) hx hb dX4_rest_1 (by decide) ?_
  refine lv_sipush (v := 200) hx hb dX4_rest_2 (by decide) ?_
  refine g_si (As := [.int a, .int 1, .int 200]) F hH (c_X4_isOutside l E hE v a 1 200) (va_cwS 3 hts gX4_rest_X4_isOutside rfl rfl rfl (by decide +kernel) ⟨Nat.le_of_ble_eq_true rfl, Nat.le_of_ble_eq_true rfl⟩) rfl hl.1 [] rfl (Nat.le_of_ble_eq_true rfl) dX4_rest_5 ⟨Nat.zero_le _, Nat.zero_le _⟩ (fun H locs hH => ?_)
  refine lv_if_eq (tgt := 14) hx hb dX4_rest_8 (by decide) (fun c1 => ?_) (fun c1 => ?_)
  · skip
    obtain ⟨N, hN, rfl⟩ := out_200 c1
    have hcl : (nI N).toNatClampNeg = N := nI_clamp (by omega)
    refine lv_iconst (v := 0) hx hb dX4_rest_14 (by decide) ?_
    refine lv_istore_n (lv' := [(2, .int 0), (0, .ref (eAd E 0)), (1, .int (nI N))]) hx hb dX4_rest_15 rfl hl (by decide) rfl (fun ls hl => ?_)
    refine lv_iconst (v := 0) hx hb dX4_rest_16 (by decide) ?_
    refine lv_istore_n (lv' := [(3, .int 0), (2, .int 0), (0, .ref (eAd E 0)), (1, .int (nI N))]) hx hb dX4_rest_17 rfl hl (by decide) rfl (fun ls hl => ?_)
    have loop18 : ∀ (n t : Nat), t + n = N → ∀ (H : Heap) (locs : List Loc) (ls : Array Slot), HS E s.heap ((krp E v t).1) H locs → lv_has ls 4 [(0, .ref (eAd E 0)), (1, .int (nI N)), (2, .int ((krp E v t).2)), (3, .int (nI t))] → W p l e ({ frames := 5, cells := 0, slots := 0, locals := 109 } : Room) s m ([.ref (eAd E 0), .int (nI N)] : List Value).toArray below meth c H locs 0 0 (Zi below E ([.ref (eAd E 0), .int (nI N)] : List Value).toArray s (krr E v (nI N)) (krm E v (nI N))) (F0 m 18 ls []) := by
      intro n
      induction n with
      | zero =>
        intro t ht H locs ls hH hl
        obtain rfl : N = t := by omega
        refine lv_iload_n hx hb dX4_rest_18 rfl (lv_at hl 3 rfl) ?_
        refine lv_iload_n hx hb dX4_rest_19 rfl (lv_at hl 1 rfl) ?_
        refine lv_icmp_ge (tgt := 47) hx hb dX4_rest_20 (by decide) (fun c2 => ?_) (fun c2 => ?_)
        · skip
          refine lv_iload_n hx hb dX4_rest_47 rfl (lv_at hl 2 rfl) ?_
          exact g_iret F hr hlk hH (by first | rfl | (simp only [krr, krm, c1, hcl, c2, if_true, if_false, ↓reduceIte]; done) | (simp only [krr, krm, c1, hcl, c2, if_true, if_false, ↓reduceIte]; rfl)) (by first | rfl | (simp only [krr, krm, c1, hcl, c2, if_true, if_false, ↓reduceIte]; done) | (simp only [krr, krm, c1, hcl, c2, if_true, if_false, ↓reduceIte]; rfl)) dX4_rest_48
        · skip
          exact absurd (nI_le (Nat.le_refl _) (by omega)) c2
      | succ n ih =>
        intro t ht H locs ls hH hl
        have htN : t < N := by omega
        refine lv_iload_n hx hb dX4_rest_18 rfl (lv_at hl 3 rfl) ?_
        refine lv_iload_n hx hb dX4_rest_19 rfl (lv_at hl 1 rfl) ?_
        refine lv_icmp_ge (tgt := 47) hx hb dX4_rest_20 (by decide) (fun c3 => ?_) (fun c3 => ?_)
        · skip
          exact absurd c3 (nI_ge htN (by omega))
        · skip
          refine lv_aload_n hx hb dX4_rest_23 rfl (lv_at hl 0 rfl) ?_
          refine g_get (x := .ref (eAd E 5)) F hH inX4 (hE.1 0 (by decide)) (cq_kiln E _) rfl 2 (by decide) (hts (.fieldLink RX4 26 "DryingKiln" "load" "LDryingKiln$Load;") (by decide +kernel)) (fun _ h => h) rfl dX4_rest_24 ?_
          refine lv_aload_n hx hb dX4_rest_27 rfl (lv_at hl 0 rfl) ?_
          refine g_get (x := .ref (eAd E 1)) F hH inX4 (hE.1 0 (by decide)) (cq_kiln E _) rfl 0 (by decide) (hts (.fieldLink RX4 10 "DryingKiln" "settings" "LDryingKiln$Settings;") (by decide +kernel)) (fun _ h => h) rfl dX4_rest_28 ?_
          refine g_vv (As := [.ref (eAd E 1)]) F hH (c_X1_passRestHour l E hE ((krp E v t).1) 0 (by first | assumption | omega | decide)) (cwV 1 hts gX4_rest_X1_passRestHour rfl rfl rfl (by decide +kernel) ⟨Nat.le_of_ble_eq_true rfl, Nat.le_of_ble_eq_true rfl⟩) (hE.1 5 (by decide)) (cq_ld E _ (i := 0) (by decide)) rfl rfl hl.1 [] rfl (Nat.le_of_ble_eq_true rfl) dX4_rest_31 ⟨Nat.zero_le _, Nat.zero_le _⟩ (fun H locs hH => ?_)
          refine lv_iload_n hx hb dX4_rest_34 rfl (lv_at hl 2 rfl) ?_
          refine lv_aload_n hx hb dX4_rest_35 rfl (lv_at hl 0 rfl) ?_
          refine g_vi (As := []) F hH (c_X4_endHour l E hE (lrst E 0 ((krp E v t).1))) (cwV 0 hts gX4_rest_X4_endHour rfl rfl rfl (by decide +kernel) ⟨Nat.le_of_ble_eq_true rfl, Nat.le_of_ble_eq_true rfl⟩) (hE.1 0 (by decide)) (cq_kiln E _) rfl rfl hl.1 [.int ((krp E v t).2)] rfl (Nat.le_of_ble_eq_true rfl) dX4_rest_36 ⟨Nat.zero_le _, Nat.zero_le _⟩ (fun H locs hH => ?_)
          refine lv_iadd hx hb dX4_rest_39 ?_
          refine lv_istore_n (lv' := [(2, .int (((krp E v t).2) + ((kend E (lrst E 0 ((krp E v t).1))).2))), (0, .ref (eAd E 0)), (1, .int (nI N)), (3, .int (nI t))]) hx hb dX4_rest_40 rfl hl (by decide) rfl (fun ls hl => ?_)
          refine lv_iinc (v := nI (t + 1)) (lv' := [(3, .int (nI (t + 1))), (2, .int (((krp E v t).2) + ((kend E (lrst E 0 ((krp E v t).1))).2))), (0, .ref (eAd E 0)), (1, .int (nI N))]) hx hb dX4_rest_41 hl (k := 3) rfl (nI_1 _) (by decide) rfl (fun ls hl => ?_)
          refine lv_goto (tgt := 18) hx hb dX4_rest_44 (by decide) ?_
          exact ih (t + 1) (by omega) _ _ ls (by first | exact hH | (simp only [krr, krm, c1, hcl, c3, if_true, if_false, ↓reduceIte]; exact hH)) (by first | exact lv_sub hl [2, 3, 1, 0] rfl | (have h := lv_sub hl [2, 3, 1, 0] rfl; simp only [krr, krm, c1, hcl, c3, if_true, if_false, ↓reduceIte]; exact h))
    exact loop18 N 0 (Nat.zero_add _) _ _ ls hH (lv_sub hl [2, 3, 1, 0] rfl)
  · skip
    refine lv_ldc (v := -1000003) hx hb hown (hts (.constant RX4 51 (-1000003)) (by decide +kernel)) dX4_rest_11 ?_
    exact g_iret F hr hlk hH (by first | rfl | (simp only [krr, krm, c1, if_true, if_false, ↓reduceIte]; done) | (simp only [krr, krm, c1, if_true, if_false, ↓reduceIte]; rfl)) (by first | rfl | (simp only [krr, krm, c1, if_true, if_false, ↓reduceIte]; done) | (simp only [krr, krm, c1, if_true, if_false, ↓reduceIte]; rfl)) dX4_rest_13

set_option maxHeartbeats 4000000 in
set_option maxRecDepth 100000 in
theorem c_X2_append (l : Launch) (E : Ev) (hE : EO E) (v : Mem) (a : Int32) (b : Int32) (ns : Nat) (hns : v 2 2 = nI ns) (h8 : ns ≤ 8) : Ci l yX2_append wsX2_append ({ frames := 0, cells := 0, slots := 0, locals := 0 } : Room) E [.ref (eAd E 2), .int a, .int b] v (sappr v ns a) (sappm v ns a b) := by
  refine Ci.of (cc := cX2_append) (maxL := 5) (ret := (some .int)) (own := RX2) (by decide) rfl rfl (Nat.le_of_ble_eq_true rfl) ?_
  intro p e s m below meth c F hr hlk ls hl hH
  obtain ⟨hx, hb, hml, hown, hts⟩ := id F.1
  have hl : lv_has ls 5 [(0, .ref (eAd E 2)), (1, .int a), (2, .int b)] := hl
  have inX2 : ∀ w ∈ wsX20, w ∈ wsX2_append := fun w h => List.mem_cons_of_mem _ (List.mem_append_right _ h)
  refine lv_aload_n hx hb dX2_append_0 rfl (lv_at hl 0 rfl) ?_
  refine g_get (x := .int (v 2 2)) F hH inX2 (hE.1 2 (by decide)) (cq_sch E _) rfl 2 (by decide) (hts (.fieldLink RX2 18 "DryingKiln$Schedule" "size" "I") (by decide +kernel)) (fun _ h => h) rfl dX2_append_1 ?_
  rw [show v 2 2 = nI ns from hns]
  refine lv_iconst (v := 1) hx hb dX2_append_4 (by decide) ?_
  refine lv_isub hx hb dX2_append_5 ?_
  refine lv_istore_n (lv' := [(3, .int ((nI ns) - 1)), (0, .ref (eAd E 2)), (1, .int a), (2, .int b)]) hx hb dX2_append_6 rfl hl (by decide) rfl (fun ls hl => ?_)
  refine lv_iload_n hx hb dX2_append_7 rfl (lv_at hl 0 rfl) ?_
  refine lv_if_lt (tgt := 30) hx hb dX2_append_8 (by decide) (fun c1 => ?_) (fun c1 => ?_)
  · skip
    have hns0 : ¬ 0 < ns := (fun h => absurd c1 (by rw [nI_m1 h]; exact nI_pos (by omega)))
    refine lv_aload_n hx hb dX2_append_30 rfl (lv_at hl 1 rfl) ?_
    refine g_get (x := .int (v 2 2)) F hH inX2 (hE.1 2 (by decide)) (cq_sch E _) rfl 2 (by decide) (hts (.fieldLink RX2 18 "DryingKiln$Schedule" "size" "I") (by decide +kernel)) (fun _ h => h) rfl dX2_append_31 ?_
    rw [show v 2 2 = nI ns from hns]
    refine lv_istore (lv' := [(4, .int (nI ns)), (3, .int ((nI ns) - 1)), (0, .ref (eAd E 2)), (1, .int a), (2, .int b)]) hx hb dX2_append_34 hl (by decide) rfl (fun ls hl => ?_)
    refine lv_iload hx hb dX2_append_36 (lv_at hl 0 rfl) ?_
    refine lv_if_lt (tgt := 48) hx hb dX2_append_38 (by decide) (fun c2 => ?_) (fun c2 => ?_)
    · skip
      exact absurd c2 (nI_pos (by omega))
    · skip
      refine lv_iload hx hb dX2_append_41 (lv_at hl 0 rfl) ?_
      refine lv_bipush (v := 8) hx hb dX2_append_43 (by decide) ?_
      refine lv_icmp_lt (tgt := 51) hx hb dX2_append_45 (by decide) (fun c3 => ?_) (fun c3 => ?_)
      · skip
        have c3 : ns < 8 := (nI_ltI (b := 8) (by omega) (by omega)).mp c3
        refine lv_aload_n hx hb dX2_append_51 rfl (lv_at hl 2 rfl) ?_
        refine g_get (x := .ref (eAd E 3)) F hH inX2 (hE.1 2 (by decide)) (cq_sch E _) rfl 0 (by decide) (hts (.fieldLink RX2 9 "DryingKiln$Schedule" "thresholds" "[I") (by decide +kernel)) (fun _ h => h) rfl dX2_append_52 ?_
        refine lv_iload hx hb dX2_append_55 (lv_at hl 0 rfl) ?_
        refine lv_iload_n hx hb dX2_append_57 rfl (lv_at hl 3 rfl) ?_
        refine g_iast (n := 8) F hH (hE.1 3 (by decide)) (fun _ => rfl) ns rfl (by omega) (by omega) dX2_append_58 (fun H locs hH => ?_)
        refine lv_aload_n hx hb dX2_append_59 rfl (lv_at hl 2 rfl) ?_
        refine g_get (x := .ref (eAd E 4)) F hH inX2 (hE.1 2 (by decide)) (cq_sch E _) rfl 1 (by decide) (hts (.fieldLink RX2 15 "DryingKiln$Schedule" "inlets" "[I") (by decide +kernel)) (fun _ h => h) rfl dX2_append_60 ?_
        refine lv_iload hx hb dX2_append_63 (lv_at hl 0 rfl) ?_
        refine lv_iload_n hx hb dX2_append_65 rfl (lv_at hl 4 rfl) ?_
        refine g_iast (n := 8) F hH (hE.1 4 (by decide)) (fun _ => rfl) ns rfl (by omega) (by omega) dX2_append_66 (fun H locs hH => ?_)
        refine lv_aload_n hx hb dX2_append_67 rfl (lv_at hl 2 rfl) ?_
        refine lv_dup hx hb dX2_append_68 rfl ?_
        refine g_get (x := .int ((st (st v 3 ns a) 4 ns b) 2 2)) F hH inX2 (hE.1 2 (by decide)) (cq_sch E _) rfl 2 (by decide) (hts (.fieldLink RX2 18 "DryingKiln$Schedule" "size" "I") (by decide +kernel)) (fun _ h => h) rfl dX2_append_69 ?_
        rw [show (st (st v 3 ns a) 4 ns b) 2 2 = v 2 2 by rw [st_ne _ _ _ (by decide), st_ne _ _ _ (by decide)]]
        rw [show v 2 2 = nI ns from hns]
        refine lv_iconst (v := 1) hx hb dX2_append_72 (by decide) ?_
        refine lv_iadd hx hb dX2_append_73 ?_
        rw [nI_1 ns]
        refine g_put (ty := .int) (x := nI (ns + 1)) F hH inX2 tyX2 tyX2_ok nmX2 (hE.1 2 (by decide)) (cq_sch E _) rfl 2 (by decide) (hts (.fieldLink RX2 18 "DryingKiln$Schedule" "size" "I") (by decide +kernel)) (fun _ h => h) rfl (by decide +kernel) rfl rfl (Nat.le_of_ble_eq_true rfl) (cq_sch E _) dX2_append_74 (fun H locs hH => ?_)
        refine lv_iload hx hb dX2_append_77 (lv_at hl 0 rfl) ?_
        exact g_iret F hr hlk hH (by first | rfl | (simp only [sappr, c1, hns0, c2, c3, if_true, if_false, ↓reduceIte, false_and, and_false, true_and, and_true, not_true_eq_false, not_false_eq_true])) (by first | rfl | (simp only [sappm, sapp, c1, hns0, c2, c3, if_true, if_false, ↓reduceIte, false_and, and_false, true_and, and_true, not_true_eq_false, not_false_eq_true])) dX2_append_79
      · skip
        have c3 : ¬ ns < 8 := fun h => c3 (nI_lt (b := 8) h (by omega))
        refine lv_ldc (v := -1000004) hx hb hown (hts (.constant RX2 23 (-1000004)) (by decide +kernel)) dX2_append_48 ?_
        exact g_iret F hr hlk hH (by first | rfl | (simp only [sappr, c1, hns0, c2, c3, if_true, if_false, ↓reduceIte, false_and, and_false, true_and, and_true, not_true_eq_false, not_false_eq_true])) (by first | rfl | (simp only [sappm, sapp, c1, hns0, c2, c3, if_true, if_false, ↓reduceIte, false_and, and_false, true_and, and_true, not_true_eq_false, not_false_eq_true])) dX2_append_50
  · skip
    have hns0 : 0 < ns := Nat.pos_of_ne_zero (fun h => c1 (by rw [h]; decide))
    refine lv_iload_n hx hb dX2_append_11 rfl (lv_at hl 0 rfl) ?_
    refine lv_bipush (v := 8) hx hb dX2_append_12 (by decide) ?_
    refine lv_icmp_ge (tgt := 30) hx hb dX2_append_14 (by decide) (fun c4 => ?_) (fun c4 => ?_)
    · skip
      exact absurd c4 (by rw [nI_m1 hns0]; exact nI_ge (b := 8) (by omega) (by omega))
    · skip
      refine lv_iload_n hx hb dX2_append_17 rfl (lv_at hl 2 rfl) ?_
      refine lv_aload_n hx hb dX2_append_18 rfl (lv_at hl 1 rfl) ?_
      refine g_get (x := .ref (eAd E 3)) F hH inX2 (hE.1 2 (by decide)) (cq_sch E _) rfl 0 (by decide) (hts (.fieldLink RX2 9 "DryingKiln$Schedule" "thresholds" "[I") (by decide +kernel)) (fun _ h => h) rfl dX2_append_19 ?_
      refine lv_iload_n hx hb dX2_append_22 rfl (lv_at hl 0 rfl) ?_
      refine g_iald (n := 8) (x := v 3 (ns - 1)) F hH (hE.1 3 (by decide)) rfl (ns - 1) (nI_m1 hns0) (by omega) (by omega) rfl dX2_append_23 ?_
      refine lv_icmp_lt (tgt := 30) hx hb dX2_append_24 (by decide) (fun c5 => ?_) (fun c5 => ?_)
      · skip
        refine lv_aload_n hx hb dX2_append_30 rfl (lv_at hl 1 rfl) ?_
        refine g_get (x := .int (v 2 2)) F hH inX2 (hE.1 2 (by decide)) (cq_sch E _) rfl 2 (by decide) (hts (.fieldLink RX2 18 "DryingKiln$Schedule" "size" "I") (by decide +kernel)) (fun _ h => h) rfl dX2_append_31 ?_
        rw [show v 2 2 = nI ns from hns]
        refine lv_istore (lv' := [(4, .int (nI ns)), (3, .int ((nI ns) - 1)), (0, .ref (eAd E 2)), (1, .int a), (2, .int b)]) hx hb dX2_append_34 hl (by decide) rfl (fun ls hl => ?_)
        refine lv_iload hx hb dX2_append_36 (lv_at hl 0 rfl) ?_
        refine lv_if_lt (tgt := 48) hx hb dX2_append_38 (by decide) (fun c6 => ?_) (fun c6 => ?_)
        · skip
          exact absurd c6 (nI_pos (by omega))
        · skip
          refine lv_iload hx hb dX2_append_41 (lv_at hl 0 rfl) ?_
          refine lv_bipush (v := 8) hx hb dX2_append_43 (by decide) ?_
          refine lv_icmp_lt (tgt := 51) hx hb dX2_append_45 (by decide) (fun c7 => ?_) (fun c7 => ?_)
          · skip
            have c7 : ns < 8 := (nI_ltI (b := 8) (by omega) (by omega)).mp c7
            refine lv_aload_n hx hb dX2_append_51 rfl (lv_at hl 2 rfl) ?_
            refine g_get (x := .ref (eAd E 3)) F hH inX2 (hE.1 2 (by decide)) (cq_sch E _) rfl 0 (by decide) (hts (.fieldLink RX2 9 "DryingKiln$Schedule" "thresholds" "[I") (by decide +kernel)) (fun _ h => h) rfl dX2_append_52 ?_
            refine lv_iload hx hb dX2_append_55 (lv_at hl 0 rfl) ?_
            refine lv_iload_n hx hb dX2_append_57 rfl (lv_at hl 3 rfl) ?_
            refine g_iast (n := 8) F hH (hE.1 3 (by decide)) (fun _ => rfl) ns rfl (by omega) (by omega) dX2_append_58 (fun H locs hH => ?_)
            refine lv_aload_n hx hb dX2_append_59 rfl (lv_at hl 2 rfl) ?_
            refine g_get (x := .ref (eAd E 4)) F hH inX2 (hE.1 2 (by decide)) (cq_sch E _) rfl 1 (by decide) (hts (.fieldLink RX2 15 "DryingKiln$Schedule" "inlets" "[I") (by decide +kernel)) (fun _ h => h) rfl dX2_append_60 ?_
            refine lv_iload hx hb dX2_append_63 (lv_at hl 0 rfl) ?_
            refine lv_iload_n hx hb dX2_append_65 rfl (lv_at hl 4 rfl) ?_
            refine g_iast (n := 8) F hH (hE.1 4 (by decide)) (fun _ => rfl) ns rfl (by omega) (by omega) dX2_append_66 (fun H locs hH => ?_)
            refine lv_aload_n hx hb dX2_append_67 rfl (lv_at hl 2 rfl) ?_
            refine lv_dup hx hb dX2_append_68 rfl ?_
            refine g_get (x := .int ((st (st v 3 ns a) 4 ns b) 2 2)) F hH inX2 (hE.1 2 (by decide)) (cq_sch E _) rfl 2 (by decide) (hts (.fieldLink RX2 18 "DryingKiln$Schedule" "size" "I") (by decide +kernel)) (fun _ h => h) rfl dX2_append_69 ?_
            rw [show (st (st v 3 ns a) 4 ns b) 2 2 = v 2 2 by rw [st_ne _ _ _ (by decide), st_ne _ _ _ (by decide)]]
            rw [show v 2 2 = nI ns from hns]
            refine lv_iconst (v := 1) hx hb dX2_append_72 (by decide) ?_
            refine lv_iadd hx hb dX2_append_73 ?_
            rw [nI_1 ns]
            refine g_put (ty := .int) (x := nI (ns + 1)) F hH inX2 tyX2 tyX2_ok nmX2 (hE.1 2 (by decide)) (cq_sch E _) rfl 2 (by decide) (hts (.fieldLink RX2 18 "DryingKiln$Schedule" "size" "I") (by decide +kernel)) (fun _ h => h) rfl (by decide +kernel) rfl rfl (Nat.le_of_ble_eq_true rfl) (cq_sch E _) dX2_append_74 (fun H locs hH => ?_)
            refine lv_iload hx hb dX2_append_77 (lv_at hl 0 rfl) ?_
            exact g_iret F hr hlk hH (by first | rfl | (simp only [sappr, c1, hns0, c4, c5, c6, c7, if_true, if_false, ↓reduceIte, false_and, and_false, true_and, and_true, not_true_eq_false, not_false_eq_true])) (by first | rfl | (simp only [sappm, sapp, c1, hns0, c4, c5, c6, c7, if_true, if_false, ↓reduceIte, false_and, and_false, true_and, and_true, not_true_eq_false, not_false_eq_true])) dX2_append_79
          · skip
            have c7 : ¬ ns < 8 := fun h => c7 (nI_lt (b := 8) h (by omega))
            refine lv_ldc (v := -1000004) hx hb hown (hts (.constant RX2 23 (-1000004)) (by decide +kernel)) dX2_append_48 ?_
            exact g_iret F hr hlk hH (by first | rfl | (simp only [sappr, c1, hns0, c4, c5, c6, c7, if_true, if_false, ↓reduceIte, false_and, and_false, true_and, and_true, not_true_eq_false, not_false_eq_true])) (by first | rfl | (simp only [sappm, sapp, c1, hns0, c4, c5, c6, c7, if_true, if_false, ↓reduceIte, false_and, and_false, true_and, and_true, not_true_eq_false, not_false_eq_true])) dX2_append_50
      · skip
        refine lv_ldc (v := -1000003) hx hb hown (hts (.constant RX2 22 (-1000003)) (by decide +kernel)) dX2_append_27 ?_
        exact g_iret F hr hlk hH (by first | rfl | (simp only [sappr, c1, hns0, c4, c5, if_true, if_false, ↓reduceIte, false_and, and_false, true_and, and_true, not_true_eq_false, not_false_eq_true])) (by first | rfl | (simp only [sappm, sapp, c1, hns0, c4, c5, if_true, if_false, ↓reduceIte, false_and, and_false, true_and, and_true, not_true_eq_false, not_false_eq_true])) dX2_append_29

set_option maxHeartbeats 4000000 in
set_option maxRecDepth 100000 in
theorem c_X4_addStage (l : Launch) (E : Ev) (hE : EO E) (v : Mem) (a : Int32) (b : Int32) (ns : Nat) (hns : v 2 2 = nI ns) (h8 : ns ≤ 8) : Ci l yX4_addStage wsX4_addStage ({ frames := 1, cells := 0, slots := 0, locals := 24 } : Room) E [.ref (eAd E 0), .int a, .int b] v (kasr v ns a b) (kasm v ns a b) := by
  refine Ci.of (cc := cX4_addStage) (maxL := 3) (ret := (some .int)) (own := RX4) (by decide) rfl rfl (Nat.le_of_ble_eq_true rfl) ?_
  intro p e s m below meth c F hr hlk ls hl hH
  obtain ⟨hx, hb, hml, hown, hts⟩ := id F.1
  have hl : lv_has ls 3 [(0, .ref (eAd E 0)), (1, .int a), (2, .int b)] := hl
  have inX2 : ∀ w ∈ wsX20, w ∈ wsX4_addStage := fun w h => List.mem_cons_of_mem _ (List.mem_append_right _ h)
  have inX4 : ∀ w ∈ wsX40, w ∈ wsX4_addStage := fun w h => List.mem_cons_of_mem _ (List.mem_append_left _ (List.mem_append_right _ h))
  refine lv_iload_n hx hb dX4_addStage_0 rfl (lv_at hl 1 rfl) ?_
  refine lv_iconst (v := 0) hx hb dX4_addStage_1 (by decide) ?_
  refine lv_sipush (v := 2000) hx hb dX4_addStage_2 (by decide) ?_
  refine g_si (As := [.int a, .int 0, .int 2000]) F hH (c_X4_isOutside l E hE v a 0 2000) (va_cwS 3 hts gX4_addStage_X4_isOutside rfl rfl rfl (by decide +kernel) ⟨Nat.le_of_ble_eq_true rfl, Nat.le_of_ble_eq_true rfl⟩) rfl hl.1 [] rfl (Nat.le_of_ble_eq_true rfl) dX4_addStage_5 ⟨Nat.zero_le _, Nat.zero_le _⟩ (fun H locs hH => ?_)
  refine lv_if_ne (tgt := 22) hx hb dX4_addStage_8 (by decide) (fun c1 => ?_) (fun c1 => ?_)
  · skip
    refine lv_ldc (v := -1000003) hx hb hown (hts (.constant RX4 51 (-1000003)) (by decide +kernel)) dX4_addStage_22 ?_
    exact g_iret F hr hlk hH (by first | rfl | (simp only [kasr, kasm, c1, if_true, if_false, ↓reduceIte]; done) | (simp only [kasr, kasm, c1, if_true, if_false, ↓reduceIte]; rfl)) (by first | rfl | (simp only [kasr, kasm, c1, if_true, if_false, ↓reduceIte]; done) | (simp only [kasr, kasm, c1, if_true, if_false, ↓reduceIte]; rfl)) dX4_addStage_24
  · skip
    refine lv_iload_n hx hb dX4_addStage_11 rfl (lv_at hl 2 rfl) ?_
    refine lv_iconst (v := 0) hx hb dX4_addStage_12 (by decide) ?_
    refine lv_sipush (v := 300) hx hb dX4_addStage_13 (by decide) ?_
    refine g_si (As := [.int b, .int 0, .int 300]) F hH (c_X4_isOutside l E hE v b 0 300) (va_cwS 3 hts gX4_addStage_X4_isOutside rfl rfl rfl (by decide +kernel) ⟨Nat.le_of_ble_eq_true rfl, Nat.le_of_ble_eq_true rfl⟩) rfl hl.1 [] rfl (Nat.le_of_ble_eq_true rfl) dX4_addStage_16 ⟨Nat.zero_le _, Nat.zero_le _⟩ (fun H locs hH => ?_)
    refine lv_if_eq (tgt := 25) hx hb dX4_addStage_19 (by decide) (fun c2 => ?_) (fun c2 => ?_)
    · skip
      refine lv_aload_n hx hb dX4_addStage_25 rfl (lv_at hl 0 rfl) ?_
      refine g_get (x := .ref (eAd E 2)) F hH inX4 (hE.1 0 (by decide)) (cq_kiln E _) rfl 1 (by decide) (hts (.fieldLink RX4 19 "DryingKiln" "schedule" "LDryingKiln$Schedule;") (by decide +kernel)) (fun _ h => h) rfl dX4_addStage_26 ?_
      refine lv_iload_n hx hb dX4_addStage_29 rfl (lv_at hl 1 rfl) ?_
      refine lv_iload_n hx hb dX4_addStage_30 rfl (lv_at hl 2 rfl) ?_
      refine g_vi (As := [.int a, .int b]) F hH (c_X2_append l E hE v a b ns (by first | assumption | omega | decide) (by first | assumption | omega | decide)) (cwV 2 hts gX4_addStage_X2_append rfl rfl rfl (by decide +kernel) ⟨Nat.le_of_ble_eq_true rfl, Nat.le_of_ble_eq_true rfl⟩) (hE.1 2 (by decide)) (cq_sch E _) rfl rfl hl.1 [] rfl (Nat.le_of_ble_eq_true rfl) dX4_addStage_31 ⟨Nat.zero_le _, Nat.zero_le _⟩ (fun H locs hH => ?_)
      exact g_iret F hr hlk hH (by first | rfl | (simp only [kasr, kasm, c1, c2, if_true, if_false, ↓reduceIte]; done) | (simp only [kasr, kasm, c1, c2, if_true, if_false, ↓reduceIte]; rfl)) (by first | rfl | (simp only [kasr, kasm, c1, c2, if_true, if_false, ↓reduceIte]; done) | (simp only [kasr, kasm, c1, c2, if_true, if_false, ↓reduceIte]; rfl)) dX4_addStage_34
    · skip
      refine lv_ldc (v := -1000003) hx hb hown (hts (.constant RX4 51 (-1000003)) (by decide +kernel)) dX4_addStage_22 ?_
      exact g_iret F hr hlk hH (by first | rfl | (simp only [kasr, kasm, c1, c2, if_true, if_false, ↓reduceIte]; done) | (simp only [kasr, kasm, c1, c2, if_true, if_false, ↓reduceIte]; rfl)) (by first | rfl | (simp only [kasr, kasm, c1, c2, if_true, if_false, ↓reduceIte]; done) | (simp only [kasr, kasm, c1, c2, if_true, if_false, ↓reduceIte]; rfl)) dX4_addStage_24

set_option maxHeartbeats 4000000 in
set_option maxRecDepth 100000 in
theorem c_X4_clearStages (l : Launch) (E : Ev) (hE : EO E) (v : Mem) : Ci l yX4_clearStages wsX4_clearStages ({ frames := 1, cells := 0, slots := 0, locals := 21 } : Room) E [.ref (eAd E 0)] v (v 2 2) (st v 2 2 0) := by
  refine Ci.of (cc := cX4_clearStages) (maxL := 1) (ret := (some .int)) (own := RX4) (by decide) rfl rfl (Nat.le_of_ble_eq_true rfl) ?_
  intro p e s m below meth c F hr hlk ls hl hH
  obtain ⟨hx, hb, hml, hown, hts⟩ := id F.1
  have hl : lv_has ls 1 [(0, .ref (eAd E 0))] := hl
  have inX2 : ∀ w ∈ wsX20, w ∈ wsX4_clearStages := fun w h => List.mem_cons_of_mem _ (List.mem_append_right _ h)
  have inX4 : ∀ w ∈ wsX40, w ∈ wsX4_clearStages := fun w h => List.mem_cons_of_mem _ (List.mem_append_left _ (List.mem_append_right _ h))
  refine lv_aload_n hx hb dX4_clearStages_0 rfl (lv_at hl 0 rfl) ?_
  refine g_get (x := .ref (eAd E 2)) F hH inX4 (hE.1 0 (by decide)) (cq_kiln E _) rfl 1 (by decide) (hts (.fieldLink RX4 19 "DryingKiln" "schedule" "LDryingKiln$Schedule;") (by decide +kernel)) (fun _ h => h) rfl dX4_clearStages_1 ?_
  refine g_vi (As := []) F hH (c_X2_clear l E hE v) (cwV 0 hts gX4_clearStages_X2_clear rfl rfl rfl (by decide +kernel) ⟨Nat.le_of_ble_eq_true rfl, Nat.le_of_ble_eq_true rfl⟩) (hE.1 2 (by decide)) (cq_sch E _) rfl rfl hl.1 [] rfl (Nat.le_of_ble_eq_true rfl) dX4_clearStages_4 ⟨Nat.zero_le _, Nat.zero_le _⟩ (fun H locs hH => ?_)
  exact g_iret F hr hlk hH (by first | rfl | (simp only [if_true, if_false, ↓reduceIte]; done) | (simp only [if_true, if_false, ↓reduceIte]; rfl)) (by first | rfl | (simp only [if_true, if_false, ↓reduceIte]; done) | (simp only [if_true, if_false, ↓reduceIte]; rfl)) dX4_clearStages_7

set_option maxHeartbeats 4000000 in
set_option maxRecDepth 100000 in
theorem c_X4_currentStage (l : Launch) (E : Ev) (hE : EO E) (v : Mem) (ns : Nat) (hns : v 2 2 = nI ns) (h8 : ns ≤ 8) : Ci l yX4_currentStage wsX4_currentStage ({ frames := 4, cells := 0, slots := 0, locals := 86 } : Room) E [.ref (eAd E 0)] v (kcs E v ns) v := by
  refine Ci.of (cc := cX4_currentStage) (maxL := 1) (ret := (some .int)) (own := RX4) (by decide) rfl rfl (Nat.le_of_ble_eq_true rfl) ?_
  intro p e s m below meth c F hr hlk ls hl hH
  obtain ⟨hx, hb, hml, hown, hts⟩ := id F.1
  have hl : lv_has ls 1 [(0, .ref (eAd E 0))] := hl
  have inJx4a65c : ∀ w ∈ wsJx4a65c0, w ∈ wsX4_currentStage := fun w h => List.mem_cons_of_mem _ (List.mem_append_left _ (List.mem_append_left _ (List.mem_append_right _ h)))
  have inX0 : ∀ w ∈ wsX00, w ∈ wsX4_currentStage := fun w h => List.mem_cons_of_mem _ (List.mem_append_left _ (List.mem_append_right _ h))
  have inX1 : ∀ w ∈ wsX10, w ∈ wsX4_currentStage := fun w h => List.mem_cons_of_mem _ (List.mem_append_left _ (List.mem_append_left _ (List.mem_append_left _ (List.mem_append_right _ h))))
  have inX2 : ∀ w ∈ wsX20, w ∈ wsX4_currentStage := fun w h => List.mem_cons_of_mem _ (List.mem_append_right _ h)
  have inX4 : ∀ w ∈ wsX40, w ∈ wsX4_currentStage := fun w h => List.mem_cons_of_mem _ (List.mem_append_left _ (List.mem_append_left _ (List.mem_append_left _ (List.mem_append_left _ (List.mem_append_right _ h)))))
  refine lv_aload_n hx hb dX4_currentStage_0 rfl (lv_at hl 0 rfl) ?_
  refine g_get (x := .ref (eAd E 5)) F hH inX4 (hE.1 0 (by decide)) (cq_kiln E _) rfl 2 (by decide) (hts (.fieldLink RX4 26 "DryingKiln" "load" "LDryingKiln$Load;") (by decide +kernel)) (fun _ h => h) rfl dX4_currentStage_1 ?_
  refine g_vi (As := []) F hH (c_X1_size l E hE v 0 (by first | assumption | omega | decide)) (cwV 0 hts gX4_currentStage_X1_size rfl rfl rfl (by decide +kernel) ⟨Nat.le_of_ble_eq_true rfl, Nat.le_of_ble_eq_true rfl⟩) (hE.1 5 (by decide)) (cq_ld E _ (i := 0) (by decide)) rfl rfl hl.1 [] rfl (Nat.le_of_ble_eq_true rfl) dX4_currentStage_4 ⟨Nat.zero_le _, Nat.zero_le _⟩ (fun H locs hH => ?_)
  refine lv_if_ne (tgt := 15) hx hb dX4_currentStage_7 (by decide) (fun c1 => ?_) (fun c1 => ?_)
  · skip
    refine lv_aload_n hx hb dX4_currentStage_15 rfl (lv_at hl 0 rfl) ?_
    refine g_get (x := .ref (eAd E 2)) F hH inX4 (hE.1 0 (by decide)) (cq_kiln E _) rfl 1 (by decide) (hts (.fieldLink RX4 19 "DryingKiln" "schedule" "LDryingKiln$Schedule;") (by decide +kernel)) (fun _ h => h) rfl dX4_currentStage_16 ?_
    refine lv_aload_n hx hb dX4_currentStage_19 rfl (lv_at hl 0 rfl) ?_
    refine g_get (x := .ref (eAd E 5)) F hH inX4 (hE.1 0 (by decide)) (cq_kiln E _) rfl 2 (by decide) (hts (.fieldLink RX4 26 "DryingKiln" "load" "LDryingKiln$Load;") (by decide +kernel)) (fun _ h => h) rfl dX4_currentStage_20 ?_
    refine g_vi (As := []) F hH (c_X1_greatestAverage l E hE v 0 (by first | assumption | omega | decide)) (cwV 0 hts gX4_currentStage_X1_greatestAverage rfl rfl rfl (by decide +kernel) ⟨Nat.le_of_ble_eq_true rfl, Nat.le_of_ble_eq_true rfl⟩) (hE.1 5 (by decide)) (cq_ld E _ (i := 0) (by decide)) rfl rfl hl.1 [.ref (eAd E 2)] rfl (Nat.le_of_ble_eq_true rfl) dX4_currentStage_23 ⟨Nat.zero_le _, Nat.zero_le _⟩ (fun H locs hH => ?_)
    refine g_vi (As := [.int (lga E v 0 (eNb E 0))]) F hH (c_X2_stageFor l E hE v (lga E v 0 (eNb E 0)) ns (by first | assumption | omega | decide) (by first | assumption | omega | decide)) (cwV 1 hts gX4_currentStage_X2_stageFor rfl rfl rfl (by decide +kernel) ⟨Nat.le_of_ble_eq_true rfl, Nat.le_of_ble_eq_true rfl⟩) (hE.1 2 (by decide)) (cq_sch E _) rfl rfl hl.1 [] rfl (Nat.le_of_ble_eq_true rfl) dX4_currentStage_26 ⟨Nat.zero_le _, Nat.zero_le _⟩ (fun H locs hH => ?_)
    exact g_iret F hr hlk hH (by first | rfl | (simp only [kcs, c1, if_true, if_false, ↓reduceIte]; done) | (simp only [kcs, c1, if_true, if_false, ↓reduceIte]; rfl)) (by first | rfl | (simp only [kcs, c1, if_true, if_false, ↓reduceIte]; done) | (simp only [kcs, c1, if_true, if_false, ↓reduceIte]; rfl)) dX4_currentStage_29
  · skip
    refine lv_ldc (v := -1000005) hx hb hown (hts (.constant RX4 140 (-1000005)) (by decide +kernel)) dX4_currentStage_10 ?_
    refine lv_goto (tgt := 29) hx hb dX4_currentStage_12 (by decide) ?_
    exact g_iret F hr hlk hH (by first | rfl | (simp only [kcs, c1, if_true, if_false, ↓reduceIte]; done) | (simp only [kcs, c1, if_true, if_false, ↓reduceIte]; rfl)) (by first | rfl | (simp only [kcs, c1, if_true, if_false, ↓reduceIte]; done) | (simp only [kcs, c1, if_true, if_false, ↓reduceIte]; rfl)) dX4_currentStage_29

set_option maxHeartbeats 4000000 in
set_option maxRecDepth 100000 in
theorem c_X4_scheduledInlet (l : Launch) (E : Ev) (hE : EO E) (v : Mem) (ns : Nat) (hns : v 2 2 = nI ns) (h8 : ns ≤ 8) : Ci l yX4_scheduledInlet wsX4_scheduledInlet ({ frames := 5, cells := 0, slots := 0, locals := 106 } : Room) E [.ref (eAd E 0)] v (ksi E v ns) v := by
  refine Ci.of (cc := cX4_scheduledInlet) (maxL := 1) (ret := (some .int)) (own := RX4) (by decide) rfl rfl (Nat.le_of_ble_eq_true rfl) ?_
  intro p e s m below meth c F hr hlk ls hl hH
  obtain ⟨hx, hb, hml, hown, hts⟩ := id F.1
  have hl : lv_has ls 1 [(0, .ref (eAd E 0))] := hl
  have inJx4a65c : ∀ w ∈ wsJx4a65c0, w ∈ wsX4_scheduledInlet := fun w h => List.mem_cons_of_mem _ (List.mem_append_left _ (List.mem_append_left _ (List.mem_append_right _ h)))
  have inX0 : ∀ w ∈ wsX00, w ∈ wsX4_scheduledInlet := fun w h => List.mem_cons_of_mem _ (List.mem_append_left _ (List.mem_append_right _ h))
  have inX1 : ∀ w ∈ wsX10, w ∈ wsX4_scheduledInlet := fun w h => List.mem_cons_of_mem _ (List.mem_append_left _ (List.mem_append_left _ (List.mem_append_left _ (List.mem_append_right _ h))))
  have inX2 : ∀ w ∈ wsX20, w ∈ wsX4_scheduledInlet := fun w h => List.mem_cons_of_mem _ (List.mem_append_right _ h)
  have inX3 : ∀ w ∈ wsX30, w ∈ wsX4_scheduledInlet := fun w h => List.mem_cons_of_mem _ (List.mem_append_left _ (List.mem_append_left _ (List.mem_append_left _ (List.mem_append_left _ (List.mem_append_right _ h)))))
  have inX4 : ∀ w ∈ wsX40, w ∈ wsX4_scheduledInlet := fun w h => List.mem_cons_of_mem _ (List.mem_append_left _ (List.mem_append_left _ (List.mem_append_left _ (List.mem_append_left _ (List.mem_append_left _ (List.mem_append_right _ h))))))
  refine lv_aload_n hx hb dX4_scheduledInlet_0 rfl (lv_at hl 0 rfl) ?_
  refine g_get (x := .ref (eAd E 2)) F hH inX4 (hE.1 0 (by decide)) (cq_kiln E _) rfl 1 (by decide) (hts (.fieldLink RX4 19 "DryingKiln" "schedule" "LDryingKiln$Schedule;") (by decide +kernel)) (fun _ h => h) rfl dX4_scheduledInlet_1 ?_
  refine lv_aload_n hx hb dX4_scheduledInlet_4 rfl (lv_at hl 0 rfl) ?_
  refine g_vi (As := []) F hH (c_X4_currentStage l E hE v ns (by first | assumption | omega | decide) (by first | assumption | omega | decide)) (cwV 0 hts gX4_scheduledInlet_X4_currentStage rfl rfl rfl (by decide +kernel) ⟨Nat.le_of_ble_eq_true rfl, Nat.le_of_ble_eq_true rfl⟩) (hE.1 0 (by decide)) (cq_kiln E _) rfl rfl hl.1 [.ref (eAd E 2)] rfl (Nat.le_of_ble_eq_true rfl) dX4_scheduledInlet_5 ⟨Nat.zero_le _, Nat.zero_le _⟩ (fun H locs hH => ?_)
  refine lv_aload_n hx hb dX4_scheduledInlet_8 rfl (lv_at hl 0 rfl) ?_
  refine g_get (x := .ref (eAd E 1)) F hH inX4 (hE.1 0 (by decide)) (cq_kiln E _) rfl 0 (by decide) (hts (.fieldLink RX4 10 "DryingKiln" "settings" "LDryingKiln$Settings;") (by decide +kernel)) (fun _ h => h) rfl dX4_scheduledInlet_9 ?_
  refine g_get (x := .int (v 1 4)) F hH inX3 (hE.1 1 (by decide)) (cq_set E _) rfl 4 (by decide) (hts (.fieldLink RX4 110 "DryingKiln$Settings" "humidity" "I") (by decide +kernel)) (fun _ h => h) rfl dX4_scheduledInlet_12 ?_
  refine g_vi (As := [.int (kcs E v ns), .int (v 1 4)]) F hH (c_X2_inletOf l E hE v (kcs E v ns) (v 1 4)) (cwV 2 hts gX4_scheduledInlet_X2_inletOf rfl rfl rfl (by decide +kernel) ⟨Nat.le_of_ble_eq_true rfl, Nat.le_of_ble_eq_true rfl⟩) (hE.1 2 (by decide)) (cq_sch E _) rfl rfl hl.1 [] rfl (Nat.le_of_ble_eq_true rfl) dX4_scheduledInlet_15 ⟨Nat.zero_le _, Nat.zero_le _⟩ (fun H locs hH => ?_)
  exact g_iret F hr hlk hH rfl rfl dX4_scheduledInlet_18

set_option maxHeartbeats 4000000 in
set_option maxRecDepth 100000 in
theorem c_X4_runSchedule (l : Launch) (E : Ev) (hE : EO E) (v : Mem) (a : Int32) (b : Int32) (ns : Nat) (hns : v 2 2 = nI ns) (h8 : ns ≤ 8) : Ci l yX4_runSchedule wsX4_runSchedule ({ frames := 6, cells := 0, slots := 0, locals := 131 } : Room) E [.ref (eAd E 0), .int a, .int b] v (ksdr E v ns a b) (ksdm E v ns a b) := by
  refine Ci.of (cc := cX4_runSchedule) (maxL := 4) (ret := (some .int)) (own := RX4) (by decide) rfl rfl (Nat.le_of_ble_eq_true rfl) ?_
  intro p e s m below meth c F hr hlk ls hl hH
  obtain ⟨hx, hb, hml, hown, hts⟩ := id F.1
  have hl : lv_has ls 4 [(0, .ref (eAd E 0)), (1, .int a), (2, .int b)] := hl
  have inJx4a65c : ∀ w ∈ wsJx4a65c0, w ∈ wsX4_runSchedule := fun w h => List.mem_cons_of_mem _ (List.mem_append_left _ (List.mem_append_left _ (List.mem_append_left _ (List.mem_append_right _ h))))
  have inX0 : ∀ w ∈ wsX00, w ∈ wsX4_runSchedule := fun w h => List.mem_cons_of_mem _ (List.mem_append_left _ (List.mem_append_left _ (List.mem_append_right _ h)))
  have inX1 : ∀ w ∈ wsX10, w ∈ wsX4_runSchedule := fun w h => List.mem_cons_of_mem _ (List.mem_append_left _ (List.mem_append_left _ (List.mem_append_left _ (List.mem_append_left _ (List.mem_append_right _ h)))))
  have inX2 : ∀ w ∈ wsX20, w ∈ wsX4_runSchedule := fun w h => List.mem_cons_of_mem _ (List.mem_append_right _ h)
  have inX3 : ∀ w ∈ wsX30, w ∈ wsX4_runSchedule := fun w h => List.mem_cons_of_mem _ (List.mem_append_left _ (List.mem_append_right _ h))
  have inX4 : ∀ w ∈ wsX40, w ∈ wsX4_runSchedule := fun w h => List.mem_cons_of_mem _ (List.mem_append_left _ (List.mem_append_left _ (List.mem_append_left _ (List.mem_append_left _ (List.mem_append_left _ (List.mem_append_right _ h))))))
  refine lv_iload_n hx hb dX4_runSchedule_0 rfl (lv_at hl 1 rfl) ?_
  refine lv_iconst (v := 0) hx hb dX4_runSchedule_1 (by decide) ?_
  refine lv_sipush (v := 2000) hx hb dX4_runSchedule_2 (by decide) ?_
  refine g_si (As := [.int a, .int 0, .int 2000]) F hH (c_X4_isOutside l E hE v a 0 2000) (va_cwS 3 hts gX4_runSchedule_X4_isOutside rfl rfl rfl (by decide +kernel) ⟨Nat.le_of_ble_eq_true rfl, Nat.le_of_ble_eq_true rfl⟩) rfl hl.1 [] rfl (Nat.le_of_ble_eq_true rfl) dX4_runSchedule_5 ⟨Nat.zero_le _, Nat.zero_le _⟩ (fun H locs hH => ?_)
  refine lv_if_ne (tgt := 22) hx hb dX4_runSchedule_8 (by decide) (fun c1 => ?_) (fun c1 => ?_)
  · skip
    refine lv_ldc (v := -1000003) hx hb hown (hts (.constant RX4 51 (-1000003)) (by decide +kernel)) dX4_runSchedule_22 ?_
    exact g_iret F hr hlk hH (by first | (simp only [ksdr, c1, if_true, if_false, ↓reduceIte]; done) | (simp only [ksdr, c1, if_true, if_false, ↓reduceIte]; rw [hw3]; simp only [krs, c1, if_true, ↓reduceIte, Nat.add_zero])) (by first | (simp only [ksdm, c1, if_true, if_false, ↓reduceIte]; done) | (simp only [ksdm, c1, if_true, if_false, ↓reduceIte]; rw [hw2]; simp only [krs, c1, if_true, ↓reduceIte])) dX4_runSchedule_24
  · skip
    refine lv_iload_n hx hb dX4_runSchedule_11 rfl (lv_at hl 2 rfl) ?_
    refine lv_iconst (v := 1) hx hb dX4_runSchedule_12 (by decide) ?_
    refine lv_sipush (v := 200) hx hb dX4_runSchedule_13 (by decide) ?_
    refine g_si (As := [.int b, .int 1, .int 200]) F hH (c_X4_isOutside l E hE v b 1 200) (va_cwS 3 hts gX4_runSchedule_X4_isOutside rfl rfl rfl (by decide +kernel) ⟨Nat.le_of_ble_eq_true rfl, Nat.le_of_ble_eq_true rfl⟩) rfl hl.1 [] rfl (Nat.le_of_ble_eq_true rfl) dX4_runSchedule_16 ⟨Nat.zero_le _, Nat.zero_le _⟩ (fun H locs hH => ?_)
    refine lv_if_eq (tgt := 25) hx hb dX4_runSchedule_19 (by decide) (fun c2 => ?_) (fun c2 => ?_)
    · skip
      obtain ⟨N, hN, rfl⟩ := out_200 c2
      have hcl : (nI N).toNatClampNeg = N := nI_clamp (by omega)
      refine lv_iconst (v := 0) hx hb dX4_runSchedule_25 (by decide) ?_
      refine lv_istore_n (lv' := [(3, .int 0), (0, .ref (eAd E 0)), (1, .int a), (2, .int (nI N))]) hx hb dX4_runSchedule_26 rfl hl (by decide) rfl (fun ls hl => ?_)
      have loop27 : ∀ (n t : Nat), t + n = N → ∀ (w : Mem), w 2 2 = nI ns → (krs E ns a N v).1 = (krs E ns a n w).1 → (krs E ns a N v).2 = t + (krs E ns a n w).2 → ∀ (H : Heap) (locs : List Loc) (ls : Array Slot), HS E s.heap w H locs → lv_has ls 4 [(0, .ref (eAd E 0)), (1, .int a), (2, .int (nI N)), (3, .int (nI t))] → W p l e ({ frames := 6, cells := 0, slots := 0, locals := 131 } : Room) s m ([.ref (eAd E 0), .int a, .int (nI N)] : List Value).toArray below meth c H locs 0 0 (Zi below E ([.ref (eAd E 0), .int a, .int (nI N)] : List Value).toArray s (ksdr E v ns a (nI N)) (ksdm E v ns a (nI N))) (F0 m 27 ls []) := by
        intro n
        induction n with
        | zero =>
          intro t ht w hw1 hw2 hw3 H locs ls hH hl
          obtain rfl : N = t := by omega
          refine lv_iload_n hx hb dX4_runSchedule_27 rfl (lv_at hl 3 rfl) ?_
          refine lv_iload_n hx hb dX4_runSchedule_28 rfl (lv_at hl 2 rfl) ?_
          refine lv_icmp_ge (tgt := 58) hx hb dX4_runSchedule_29 (by decide) (fun c3 => ?_) (fun c3 => ?_)
          · skip
            refine lv_iload_n hx hb dX4_runSchedule_58 rfl (lv_at hl 3 rfl) ?_
            exact g_iret F hr hlk hH (by first | (simp only [ksdr, c1, c2, hcl, c3, if_true, if_false, ↓reduceIte]; done) | (simp only [ksdr, c1, c2, hcl, c3, if_true, if_false, ↓reduceIte]; rw [hw3]; simp only [krs, c1, c2, hcl, c3, if_true, ↓reduceIte, Nat.add_zero])) (by first | (simp only [ksdm, c1, c2, hcl, c3, if_true, if_false, ↓reduceIte]; done) | (simp only [ksdm, c1, c2, hcl, c3, if_true, if_false, ↓reduceIte]; rw [hw2]; simp only [krs, c1, c2, hcl, c3, if_true, ↓reduceIte])) dX4_runSchedule_59
          · skip
            exact absurd (nI_le (Nat.le_refl _) (by omega)) c3
        | succ n ih =>
          intro t ht w hw1 hw2 hw3 H locs ls hH hl
          have htN : t < N := by omega
          refine lv_iload_n hx hb dX4_runSchedule_27 rfl (lv_at hl 3 rfl) ?_
          refine lv_iload_n hx hb dX4_runSchedule_28 rfl (lv_at hl 2 rfl) ?_
          refine lv_icmp_ge (tgt := 58) hx hb dX4_runSchedule_29 (by decide) (fun c4 => ?_) (fun c4 => ?_)
          · skip
            exact absurd c4 (nI_ge htN (by omega))
          · skip
            refine lv_aload_n hx hb dX4_runSchedule_32 rfl (lv_at hl 0 rfl) ?_
            refine g_get (x := .ref (eAd E 5)) F hH inX4 (hE.1 0 (by decide)) (cq_kiln E _) rfl 2 (by decide) (hts (.fieldLink RX4 26 "DryingKiln" "load" "LDryingKiln$Load;") (by decide +kernel)) (fun _ h => h) rfl dX4_runSchedule_33 ?_
            refine lv_iload_n hx hb dX4_runSchedule_36 rfl (lv_at hl 1 rfl) ?_
            refine g_vi (As := [.int a]) F hH (c_X1_isWetterThan l E hE w 0 a (by first | assumption | omega | decide)) (cwV 1 hts gX4_runSchedule_X1_isWetterThan rfl rfl rfl (by decide +kernel) ⟨Nat.le_of_ble_eq_true rfl, Nat.le_of_ble_eq_true rfl⟩) (hE.1 5 (by decide)) (cq_ld E _ (i := 0) (by decide)) rfl rfl hl.1 [] rfl (Nat.le_of_ble_eq_true rfl) dX4_runSchedule_37 ⟨Nat.zero_le _, Nat.zero_le _⟩ (fun H locs hH => ?_)
            refine lv_if_eq (tgt := 58) hx hb dX4_runSchedule_40 (by decide) (fun c5 => ?_) (fun c5 => ?_)
            · skip
              refine lv_iload_n hx hb dX4_runSchedule_58 rfl (lv_at hl 3 rfl) ?_
              exact g_iret F hr hlk hH (by first | (simp only [ksdr, c1, c2, hcl, c4, c5, if_true, if_false, ↓reduceIte]; done) | (simp only [ksdr, c1, c2, hcl, c4, c5, if_true, if_false, ↓reduceIte]; rw [hw3]; simp only [krs, c1, c2, hcl, c4, c5, if_true, ↓reduceIte, Nat.add_zero])) (by first | (simp only [ksdm, c1, c2, hcl, c4, c5, if_true, if_false, ↓reduceIte]; done) | (simp only [ksdm, c1, c2, hcl, c4, c5, if_true, if_false, ↓reduceIte]; rw [hw2]; simp only [krs, c1, c2, hcl, c4, c5, if_true, ↓reduceIte])) dX4_runSchedule_59
            · skip
              refine lv_aload_n hx hb dX4_runSchedule_43 rfl (lv_at hl 0 rfl) ?_
              refine lv_aload_n hx hb dX4_runSchedule_44 rfl (lv_at hl 0 rfl) ?_
              refine g_vi (As := []) F hH (c_X4_scheduledInlet l E hE w ns hw1 h8) (cwV 0 hts gX4_runSchedule_X4_scheduledInlet rfl rfl rfl (by decide +kernel) ⟨Nat.le_of_ble_eq_true rfl, Nat.le_of_ble_eq_true rfl⟩) (hE.1 0 (by decide)) (cq_kiln E _) rfl rfl hl.1 [.ref (eAd E 0)] rfl (Nat.le_of_ble_eq_true rfl) dX4_runSchedule_45 ⟨Nat.zero_le _, Nat.zero_le _⟩ (fun H locs hH => ?_)
              refine g_vi (As := [.int (ksi E w ns)]) F hH (c_X4_runDryingHour l E hE w (ksi E w ns)) (cwV 1 hts gX4_runSchedule_X4_runDryingHour rfl rfl rfl (by decide +kernel) ⟨Nat.le_of_ble_eq_true rfl, Nat.le_of_ble_eq_true rfl⟩) (hE.1 0 (by decide)) (cq_kiln E _) rfl rfl hl.1 [] rfl (Nat.le_of_ble_eq_true rfl) dX4_runSchedule_48 ⟨Nat.zero_le _, Nat.zero_le _⟩ (fun H locs hH => ?_)
              refine lv_pop hx hb dX4_runSchedule_51 rfl ?_
              refine lv_iinc (v := nI (t + 1)) (lv' := [(3, .int (nI (t + 1))), (0, .ref (eAd E 0)), (1, .int a), (2, .int (nI N))]) hx hb dX4_runSchedule_52 hl (k := 3) rfl (nI_1 _) (by decide) rfl (fun ls hl => ?_)
              refine lv_goto (tgt := 27) hx hb dX4_runSchedule_55 (by decide) ?_
              exact ih (t + 1) (by omega) (krh E (ksi E w ns) w) (by rw [krh_lo E _ _ (by decide) (by decide) (by decide)]; exact hw1) (by rw [hw2]; simp only [krs, c1, c2, hcl, c4, c5, if_false, ↓reduceIte]) (by rw [hw3]; simp only [krs, c1, c2, hcl, c4, c5, if_false, ↓reduceIte]; omega) _ _ ls (by first | exact hH | (simp only [ksdr, ksdm, c1, c2, hcl, c4, c5, if_true, if_false, ↓reduceIte]; exact hH)) (by first | exact lv_sub hl [1, 2, 3, 0] rfl | (have h := lv_sub hl [1, 2, 3, 0] rfl; simp only [ksdr, ksdm, c1, c2, hcl, c4, c5, if_true, if_false, ↓reduceIte]; exact h))
      exact loop27 N 0 (Nat.zero_add _) v hns rfl (Nat.zero_add _).symm _ _ ls hH (lv_sub hl [1, 2, 3, 0] rfl)
    · skip
      refine lv_ldc (v := -1000003) hx hb hown (hts (.constant RX4 51 (-1000003)) (by decide +kernel)) dX4_runSchedule_22 ?_
      exact g_iret F hr hlk hH (by first | (simp only [ksdr, c1, c2, if_true, if_false, ↓reduceIte]; done) | (simp only [ksdr, c1, c2, if_true, if_false, ↓reduceIte]; rw [hw3]; simp only [krs, c1, c2, if_true, ↓reduceIte, Nat.add_zero])) (by first | (simp only [ksdm, c1, c2, if_true, if_false, ↓reduceIte]; done) | (simp only [ksdm, c1, c2, if_true, if_false, ↓reduceIte]; rw [hw2]; simp only [krs, c1, c2, if_true, ↓reduceIte])) dX4_runSchedule_24
end
section
set_option maxHeartbeats 4000000 in
set_option maxRecDepth 100000 in
theorem c_X4_chooseInlet (l : Launch) (E : Ev) (hE : EO E) (v : Mem) (h12 : eNb E 1 = eNb E 2) (hv6 : isB (v 6 0)) : Ci l yX4_chooseInlet wsX4_chooseInlet ({ frames := 4, cells := 0, slots := 0, locals := 104 } : Room) E [.ref (eAd E 0)] v ((kch E 31 0 v).2) ((kch E 31 0 v).1) := by
  refine Ci.of (cc := cX4_chooseInlet) (maxL := 2) (ret := (some .int)) (own := RX4) (by decide) rfl rfl (Nat.le_of_ble_eq_true rfl) ?_
  intro p e s m below meth c F hr hlk ls hl hH
  obtain ⟨hx, hb, hml, hown, hts⟩ := id F.1
  have hl : lv_has ls 2 [(0, .ref (eAd E 0))] := hl
  have inJx4a65c : ∀ w ∈ wsJx4a65c0, w ∈ wsX4_chooseInlet := fun w h => List.mem_cons_of_mem _ (List.mem_append_left _ (List.mem_append_right _ h))
  have inX0 : ∀ w ∈ wsX00, w ∈ wsX4_chooseInlet := fun w h => List.mem_cons_of_mem _ (List.mem_append_right _ h)
  have inX1 : ∀ w ∈ wsX10, w ∈ wsX4_chooseInlet := fun w h => List.mem_cons_of_mem _ (List.mem_append_left _ (List.mem_append_left _ (List.mem_append_right _ h)))
  have inX3 : ∀ w ∈ wsX30, w ∈ wsX4_chooseInlet := fun w h => List.mem_cons_of_mem _ (List.mem_append_left _ (List.mem_append_left _ (List.mem_append_left _ (List.mem_append_right _ h))))
  have inX4 : ∀ w ∈ wsX40, w ∈ wsX4_chooseInlet := fun w h => List.mem_cons_of_mem _ (List.mem_append_left _ (List.mem_append_left _ (List.mem_append_left _ (List.mem_append_left _ (List.mem_append_right _ h)))))
  refine lv_iconst (v := 0) hx hb dX4_chooseInlet_0 (by decide) ?_
  refine lv_istore_n (lv' := [(1, .int 0), (0, .ref (eAd E 0))]) hx hb dX4_chooseInlet_1 rfl hl (by decide) rfl (fun ls hl => ?_)
  have loop2 : ∀ (n t : Nat), t + n = 31 → ∀ (w : Mem), isB (w 6 0) → kch E 31 0 v = kch E n t w → ∀ (H : Heap) (locs : List Loc) (ls : Array Slot), HS E s.heap w H locs → lv_has ls 2 [(0, .ref (eAd E 0)), (1, .int (nI (10 * t)))] → W p l e ({ frames := 4, cells := 0, slots := 0, locals := 104 } : Room) s m ([.ref (eAd E 0)] : List Value).toArray below meth c H locs 0 0 (Zi below E ([.ref (eAd E 0)] : List Value).toArray s ((kch E 31 0 v).2) ((kch E 31 0 v).1)) (F0 m 2 ls []) := by
    intro n
    induction n with
    | zero =>
      intro t ht w hw1 hw2 H locs ls hH hl
      obtain rfl : 31 = t := by omega
      refine lv_iload_n hx hb dX4_chooseInlet_2 rfl (lv_at hl 1 rfl) ?_
      refine lv_sipush (v := 300) hx hb dX4_chooseInlet_3 (by decide) ?_
      refine lv_icmp_gt (tgt := 58) hx hb dX4_chooseInlet_6 (by decide) (fun c1 => ?_) (fun c1 => ?_)
      · skip
        refine lv_ldc (v := -1000006) hx hb hown (hts (.constant RX4 176 (-1000006)) (by decide +kernel)) dX4_chooseInlet_58 ?_
        exact g_iret F hr hlk hH (by rw [hw2]; first | rfl | exact (congrArg Prod.snd (kch_stop E n t w c1)).symm) (by rw [hw2]; first | rfl | exact (congrArg Prod.fst (kch_stop E n t w c1)).symm) dX4_chooseInlet_60
      · skip
        exact absurd (by decide) c1
    | succ n ih =>
      intro t ht w hw1 hw2 H locs ls hH hl
      have htN : t < 31 := by omega
      refine lv_iload_n hx hb dX4_chooseInlet_2 rfl (lv_at hl 1 rfl) ?_
      refine lv_sipush (v := 300) hx hb dX4_chooseInlet_3 (by decide) ?_
      refine lv_icmp_gt (tgt := 58) hx hb dX4_chooseInlet_6 (by decide) (fun c2 => ?_) (fun c2 => ?_)
      · skip
        exact absurd c2 (nI_nlt (a := 300) (by omega) (by omega))
      · skip
        refine lv_aload_n hx hb dX4_chooseInlet_9 rfl (lv_at hl 0 rfl) ?_
        refine g_get (x := .ref (eAd E 7)) F hH inX4 (hE.1 0 (by decide)) (cq_kiln E _) rfl 4 (by decide) (hts (.fieldLink RX4 33 "DryingKiln" "trial" "LDryingKiln$Load;") (by decide +kernel)) (fun _ h => h) rfl dX4_chooseInlet_10 ?_
        refine lv_aload_n hx hb dX4_chooseInlet_13 rfl (lv_at hl 0 rfl) ?_
        refine g_get (x := .ref (eAd E 6)) F hH inX4 (hE.1 0 (by decide)) (cq_kiln E _) rfl 3 (by decide) (hts (.fieldLink RX4 30 "DryingKiln" "planned" "LDryingKiln$Load;") (by decide +kernel)) (fun _ h => h) rfl dX4_chooseInlet_14 ?_
        refine g_vv (As := [.ref (eAd E 6)]) F hH (c_X1_copyFrom l E hE w 2 1 (by decide) (by decide) (by decide) h12 hw1) (cwV 1 hts gX4_chooseInlet_X1_copyFrom rfl rfl rfl (by decide +kernel) ⟨Nat.le_of_ble_eq_true rfl, Nat.le_of_ble_eq_true rfl⟩) (hE.1 7 (by decide)) (cq_ld E _ (i := 2) (by decide)) rfl rfl hl.1 [] rfl (Nat.le_of_ble_eq_true rfl) dX4_chooseInlet_17 ⟨Nat.zero_le _, Nat.zero_le _⟩ (fun H locs hH => ?_)
        refine lv_aload_n hx hb dX4_chooseInlet_20 rfl (lv_at hl 0 rfl) ?_
        refine g_get (x := .ref (eAd E 7)) F hH inX4 (hE.1 0 (by decide)) (cq_kiln E _) rfl 4 (by decide) (hts (.fieldLink RX4 33 "DryingKiln" "trial" "LDryingKiln$Load;") (by decide +kernel)) (fun _ h => h) rfl dX4_chooseInlet_21 ?_
        refine lv_iload_n hx hb dX4_chooseInlet_24 rfl (lv_at hl 1 rfl) ?_
        refine lv_aload_n hx hb dX4_chooseInlet_25 rfl (lv_at hl 0 rfl) ?_
        refine g_get (x := .ref (eAd E 1)) F hH inX4 (hE.1 0 (by decide)) (cq_kiln E _) rfl 0 (by decide) (hts (.fieldLink RX4 10 "DryingKiln" "settings" "LDryingKiln$Settings;") (by decide +kernel)) (fun _ h => h) rfl dX4_chooseInlet_26 ?_
        refine g_vi (As := [.int (nI (10 * t)), .ref (eAd E 1)]) F hH (c_X1_passDryingHour l E hE (lcpy E 2 1 w) 2 (nI (10 * t)) (by first | assumption | omega | decide)) (cwV 2 hts gX4_chooseInlet_X1_passDryingHour rfl rfl rfl (by decide +kernel) ⟨Nat.le_of_ble_eq_true rfl, Nat.le_of_ble_eq_true rfl⟩) (hE.1 7 (by decide)) (cq_ld E _ (i := 2) (by decide)) rfl rfl hl.1 [] rfl (Nat.le_of_ble_eq_true rfl) dX4_chooseInlet_29 ⟨Nat.zero_le _, Nat.zero_le _⟩ (fun H locs hH => ?_)
        refine lv_pop hx hb dX4_chooseInlet_32 rfl ?_
        refine lv_aload_n hx hb dX4_chooseInlet_33 rfl (lv_at hl 0 rfl) ?_
        refine g_get (x := .ref (eAd E 7)) F hH inX4 (hE.1 0 (by decide)) (cq_kiln E _) rfl 4 (by decide) (hts (.fieldLink RX4 33 "DryingKiln" "trial" "LDryingKiln$Load;") (by decide +kernel)) (fun _ h => h) rfl dX4_chooseInlet_34 ?_
        refine g_vi (As := []) F hH (c_X1_greatestGradient l E hE (ldry E 2 (nI (10 * t)) (lcpy E 2 1 w)) 2 (by first | assumption | omega | decide)) (cwV 0 hts gX4_chooseInlet_X1_greatestGradient rfl rfl rfl (by decide +kernel) ⟨Nat.le_of_ble_eq_true rfl, Nat.le_of_ble_eq_true rfl⟩) (hE.1 7 (by decide)) (cq_ld E _ (i := 2) (by decide)) rfl rfl hl.1 [] rfl (Nat.le_of_ble_eq_true rfl) dX4_chooseInlet_37 ⟨Nat.zero_le _, Nat.zero_le _⟩ (fun H locs hH => ?_)
        refine lv_aload_n hx hb dX4_chooseInlet_40 rfl (lv_at hl 0 rfl) ?_
        refine g_get (x := .ref (eAd E 1)) F hH inX4 (hE.1 0 (by decide)) (cq_kiln E _) rfl 0 (by decide) (hts (.fieldLink RX4 10 "DryingKiln" "settings" "LDryingKiln$Settings;") (by decide +kernel)) (fun _ h => h) rfl dX4_chooseInlet_41 ?_
        refine g_get (x := .int ((ldry E 2 (nI (10 * t)) (lcpy E 2 1 w)) 1 3)) F hH inX3 (hE.1 1 (by decide)) (cq_set E _) rfl 3 (by decide) (hts (.fieldLink RX4 107 "DryingKiln$Settings" "strainLimit" "I") (by decide +kernel)) (fun _ h => h) rfl dX4_chooseInlet_44 ?_
        refine lv_icmp_gt (tgt := 52) hx hb dX4_chooseInlet_47 (by decide) (fun c3 => ?_) (fun c3 => ?_)
        · skip
          refine lv_iinc (v := nI (10 * (t + 1))) (lv' := [(1, .int (nI (10 * (t + 1)))), (0, .ref (eAd E 0))]) hx hb dX4_chooseInlet_52 hl (k := 1) rfl (by rw [show 10 * (t + 1) = 10 * t + 10 by omega, ← nI_add]; rfl) (by decide) rfl (fun ls hl => ?_)
          refine lv_goto (tgt := 2) hx hb dX4_chooseInlet_55 (by decide) ?_
          exact ih (t + 1) (by omega) (ktry E t w) (by rw [ktry_lo E t w (by decide) (by decide)]; exact hw1) (hw2.trans (if_pos c3)) _ _ ls (by first | exact hH | (simp only [c2, c3, if_true, if_false, ↓reduceIte]; exact hH)) (by first | exact lv_sub hl [1, 0] rfl | (have h := lv_sub hl [1, 0] rfl; simp only [c2, c3, if_true, if_false, ↓reduceIte]; exact h))
        · skip
          refine lv_iload_n hx hb dX4_chooseInlet_50 rfl (lv_at hl 1 rfl) ?_
          exact g_iret F hr hlk hH (by rw [hw2]; first | rfl | exact (congrArg Prod.snd (kch_stop E n t w c3)).symm) (by rw [hw2]; first | rfl | exact (congrArg Prod.fst (kch_stop E n t w c3)).symm) dX4_chooseInlet_51
  exact loop2 31 0 (Nat.zero_add _) v hv6 rfl _ _ ls hH (lv_sub hl [1, 0] rfl)

set_option maxHeartbeats 4000000 in
set_option maxRecDepth 100000 in
theorem c_X4_makePlan (l : Launch) (E : Ev) (hE : EO E) (v : Mem) (a : Int32) (h01 : eNb E 0 = eNb E 1) (h12 : eNb E 1 = eNb E 2) (hv5 : isB (v 5 0)) : Ci l yX4_makePlan wsX4_makePlan ({ frames := 5, cells := 0, slots := 0, locals := 125 } : Room) E [.ref (eAd E 0), .int a] v (kplr E v a) (kplm E v a) := by
  refine Ci.of (cc := cX4_makePlan) (maxL := 4) (ret := (some .int)) (own := RX4) (by decide) rfl rfl (Nat.le_of_ble_eq_true rfl) ?_
  intro p e s m below meth c F hr hlk ls hl hH
  obtain ⟨hx, hb, hml, hown, hts⟩ := id F.1
  have hl : lv_has ls 4 [(0, .ref (eAd E 0)), (1, .int a)] := hl
  have inJx4a65c : ∀ w ∈ wsJx4a65c0, w ∈ wsX4_makePlan := fun w h => List.mem_cons_of_mem _ (List.mem_append_left _ (List.mem_append_left _ (List.mem_append_right _ h)))
  have inX0 : ∀ w ∈ wsX00, w ∈ wsX4_makePlan := fun w h => List.mem_cons_of_mem _ (List.mem_append_left _ (List.mem_append_right _ h))
  have inX1 : ∀ w ∈ wsX10, w ∈ wsX4_makePlan := fun w h => List.mem_cons_of_mem _ (List.mem_append_left _ (List.mem_append_left _ (List.mem_append_left _ (List.mem_append_right _ h))))
  have inX3 : ∀ w ∈ wsX30, w ∈ wsX4_makePlan := fun w h => List.mem_cons_of_mem _ (List.mem_append_right _ h)
  have inX4 : ∀ w ∈ wsX40, w ∈ wsX4_makePlan := fun w h => List.mem_cons_of_mem _ (List.mem_append_left _ (List.mem_append_left _ (List.mem_append_left _ (List.mem_append_left _ (List.mem_append_right _ h)))))
  refine lv_aload_n hx hb dX4_makePlan_0 rfl (lv_at hl 0 rfl) ?_
  refine g_get (x := .ref (eAd E 6)) F hH inX4 (hE.1 0 (by decide)) (cq_kiln E _) rfl 3 (by decide) (hts (.fieldLink RX4 30 "DryingKiln" "planned" "LDryingKiln$Load;") (by decide +kernel)) (fun _ h => h) rfl dX4_makePlan_1 ?_
  refine lv_aload_n hx hb dX4_makePlan_4 rfl (lv_at hl 0 rfl) ?_
  refine g_get (x := .ref (eAd E 5)) F hH inX4 (hE.1 0 (by decide)) (cq_kiln E _) rfl 2 (by decide) (hts (.fieldLink RX4 26 "DryingKiln" "load" "LDryingKiln$Load;") (by decide +kernel)) (fun _ h => h) rfl dX4_makePlan_5 ?_
  refine g_vv (As := [.ref (eAd E 5)]) F hH (c_X1_copyFrom l E hE v 1 0 (by decide) (by decide) (by decide) h01 hv5) (cwV 1 hts gX4_makePlan_X1_copyFrom rfl rfl rfl (by decide +kernel) ⟨Nat.le_of_ble_eq_true rfl, Nat.le_of_ble_eq_true rfl⟩) (hE.1 6 (by decide)) (cq_ld E _ (i := 1) (by decide)) rfl rfl hl.1 [] rfl (Nat.le_of_ble_eq_true rfl) dX4_makePlan_8 ⟨Nat.zero_le _, Nat.zero_le _⟩ (fun H locs hH => ?_)
  refine lv_iconst (v := 0) hx hb dX4_makePlan_11 (by decide) ?_
  refine lv_istore_n (lv' := [(2, .int 0), (0, .ref (eAd E 0)), (1, .int a)]) hx hb dX4_makePlan_12 rfl hl (by decide) rfl (fun ls hl => ?_)
  have loop13 : ∀ (n t : Nat), t + n = 300 → ∀ (w : Mem), isB (w 6 0) → kpn E a 300 0 (lcpy E 1 0 v) = kpn E a n t w → ∀ (H : Heap) (locs : List Loc) (ls : Array Slot), HS E s.heap w H locs → lv_has ls 4 [(0, .ref (eAd E 0)), (1, .int a), (2, .int (nI t))] → W p l e ({ frames := 5, cells := 0, slots := 0, locals := 125 } : Room) s m ([.ref (eAd E 0), .int a] : List Value).toArray below meth c H locs 0 0 (Zi below E ([.ref (eAd E 0), .int a] : List Value).toArray s (kplr E v a) (kplm E v a)) (F0 m 13 ls []) := by
    intro n
    induction n with
    | zero =>
      intro t ht w hw1 hw2 H locs ls hH hl
      obtain rfl : 300 = t := by omega
      refine lv_iload_n hx hb dX4_makePlan_13 rfl (lv_at hl 2 rfl) ?_
      refine lv_aload_n hx hb dX4_makePlan_14 rfl (lv_at hl 0 rfl) ?_
      refine g_get (x := .ref (eAd E 11)) F hH inX4 (hE.1 0 (by decide)) (cq_kiln E _) rfl 5 (by decide) (hts (.fieldLink RX4 36 "DryingKiln" "plan" "[I") (by decide +kernel)) (fun _ h => h) rfl dX4_makePlan_15 ?_
      refine g_alen (n := 300) F hH (hE.1 11 (by decide)) rfl dX4_makePlan_18 ?_
      refine lv_icmp_ge (tgt := 82) hx hb dX4_makePlan_19 (by decide) (fun c1 => ?_) (fun c1 => ?_)
      · skip
        have hfin : kpn E a 300 0 (lcpy E 1 0 v) = (w, 300) := by first | exact hw2 | exact hw2.trans (if_pos (by assumption))
        refine lv_aload_n hx hb dX4_makePlan_82 rfl (lv_at hl 0 rfl) ?_
        refine g_get (x := .ref (eAd E 6)) F hH inX4 (hE.1 0 (by decide)) (cq_kiln E _) rfl 3 (by decide) (hts (.fieldLink RX4 30 "DryingKiln" "planned" "LDryingKiln$Load;") (by decide +kernel)) (fun _ h => h) rfl dX4_makePlan_83 ?_
        refine lv_iload_n hx hb dX4_makePlan_86 rfl (lv_at hl 1 rfl) ?_
        refine g_vi (As := [.int a]) F hH (c_X1_isWetterThan l E hE w 1 a (by first | assumption | omega | decide)) (cwV 1 hts gX4_makePlan_X1_isWetterThan rfl rfl rfl (by decide +kernel) ⟨Nat.le_of_ble_eq_true rfl, Nat.le_of_ble_eq_true rfl⟩) (hE.1 6 (by decide)) (cq_ld E _ (i := 1) (by decide)) rfl rfl hl.1 [] rfl (Nat.le_of_ble_eq_true rfl) dX4_makePlan_87 ⟨Nat.zero_le _, Nat.zero_le _⟩ (fun H locs hH => ?_)
        refine lv_if_eq (tgt := 98) hx hb dX4_makePlan_90 (by decide) (fun c2 => ?_) (fun c2 => ?_)
        · skip
          refine lv_iload_n hx hb dX4_makePlan_98 rfl (lv_at hl 2 rfl) ?_
          exact g_iret F hr hlk hH (by unfold kplr kplm; rw [hfin]; first | exact (if_pos c2).symm | exact (if_neg c2).symm) (by unfold kplm; rw [hfin]) dX4_makePlan_99
        · skip
          refine lv_ldc (v := -1000005) hx hb hown (hts (.constant RX4 140 (-1000005)) (by decide +kernel)) dX4_makePlan_93 ?_
          refine lv_goto (tgt := 99) hx hb dX4_makePlan_95 (by decide) ?_
          exact g_iret F hr hlk hH (by unfold kplr kplm; rw [hfin]; first | exact (if_pos c2).symm | exact (if_neg c2).symm) (by unfold kplm; rw [hfin]) dX4_makePlan_99
      · skip
        exact absurd (nI_le (Nat.le_refl _) (by omega)) c1
    | succ n ih =>
      intro t ht w hw1 hw2 H locs ls hH hl
      have htN : t < 300 := by omega
      refine lv_iload_n hx hb dX4_makePlan_13 rfl (lv_at hl 2 rfl) ?_
      refine lv_aload_n hx hb dX4_makePlan_14 rfl (lv_at hl 0 rfl) ?_
      refine g_get (x := .ref (eAd E 11)) F hH inX4 (hE.1 0 (by decide)) (cq_kiln E _) rfl 5 (by decide) (hts (.fieldLink RX4 36 "DryingKiln" "plan" "[I") (by decide +kernel)) (fun _ h => h) rfl dX4_makePlan_15 ?_
      refine g_alen (n := 300) F hH (hE.1 11 (by decide)) rfl dX4_makePlan_18 ?_
      refine lv_icmp_ge (tgt := 82) hx hb dX4_makePlan_19 (by decide) (fun c3 => ?_) (fun c3 => ?_)
      · skip
        exact absurd c3 (nI_ge htN (by omega))
      · skip
        refine lv_aload_n hx hb dX4_makePlan_22 rfl (lv_at hl 0 rfl) ?_
        refine g_get (x := .ref (eAd E 6)) F hH inX4 (hE.1 0 (by decide)) (cq_kiln E _) rfl 3 (by decide) (hts (.fieldLink RX4 30 "DryingKiln" "planned" "LDryingKiln$Load;") (by decide +kernel)) (fun _ h => h) rfl dX4_makePlan_23 ?_
        refine lv_iload_n hx hb dX4_makePlan_26 rfl (lv_at hl 1 rfl) ?_
        refine g_vi (As := [.int a]) F hH (c_X1_isWetterThan l E hE w 1 a (by first | assumption | omega | decide)) (cwV 1 hts gX4_makePlan_X1_isWetterThan rfl rfl rfl (by decide +kernel) ⟨Nat.le_of_ble_eq_true rfl, Nat.le_of_ble_eq_true rfl⟩) (hE.1 6 (by decide)) (cq_ld E _ (i := 1) (by decide)) rfl rfl hl.1 [] rfl (Nat.le_of_ble_eq_true rfl) dX4_makePlan_27 ⟨Nat.zero_le _, Nat.zero_le _⟩ (fun H locs hH => ?_)
        refine lv_if_eq (tgt := 82) hx hb dX4_makePlan_30 (by decide) (fun c4 => ?_) (fun c4 => ?_)
        · skip
          have hfin : kpn E a 300 0 (lcpy E 1 0 v) = (w, t) := by first | exact hw2 | exact hw2.trans (if_pos (by assumption))
          refine lv_aload_n hx hb dX4_makePlan_82 rfl (lv_at hl 0 rfl) ?_
          refine g_get (x := .ref (eAd E 6)) F hH inX4 (hE.1 0 (by decide)) (cq_kiln E _) rfl 3 (by decide) (hts (.fieldLink RX4 30 "DryingKiln" "planned" "LDryingKiln$Load;") (by decide +kernel)) (fun _ h => h) rfl dX4_makePlan_83 ?_
          refine lv_iload_n hx hb dX4_makePlan_86 rfl (lv_at hl 1 rfl) ?_
          refine g_vi (As := [.int a]) F hH (c_X1_isWetterThan l E hE w 1 a (by first | assumption | omega | decide)) (cwV 1 hts gX4_makePlan_X1_isWetterThan rfl rfl rfl (by decide +kernel) ⟨Nat.le_of_ble_eq_true rfl, Nat.le_of_ble_eq_true rfl⟩) (hE.1 6 (by decide)) (cq_ld E _ (i := 1) (by decide)) rfl rfl hl.1 [] rfl (Nat.le_of_ble_eq_true rfl) dX4_makePlan_87 ⟨Nat.zero_le _, Nat.zero_le _⟩ (fun H locs hH => ?_)
          refine lv_if_eq (tgt := 98) hx hb dX4_makePlan_90 (by decide) (fun c5 => ?_) (fun c5 => ?_)
          · skip
            refine lv_iload_n hx hb dX4_makePlan_98 rfl (lv_at hl 2 rfl) ?_
            exact g_iret F hr hlk hH (by unfold kplr kplm; rw [hfin]; first | exact (if_pos c5).symm | exact (if_neg c5).symm) (by unfold kplm; rw [hfin]) dX4_makePlan_99
          · skip
            refine lv_ldc (v := -1000005) hx hb hown (hts (.constant RX4 140 (-1000005)) (by decide +kernel)) dX4_makePlan_93 ?_
            refine lv_goto (tgt := 99) hx hb dX4_makePlan_95 (by decide) ?_
            exact g_iret F hr hlk hH (by unfold kplr kplm; rw [hfin]; first | exact (if_pos c5).symm | exact (if_neg c5).symm) (by unfold kplm; rw [hfin]) dX4_makePlan_99
        · skip
          refine lv_aload_n hx hb dX4_makePlan_33 rfl (lv_at hl 0 rfl) ?_
          refine g_vi (As := []) F hH (c_X4_chooseInlet l E hE w h12 hw1) (cwV 0 hts gX4_makePlan_X4_chooseInlet rfl rfl rfl (by decide +kernel) ⟨Nat.le_of_ble_eq_true rfl, Nat.le_of_ble_eq_true rfl⟩) (hE.1 0 (by decide)) (cq_kiln E _) rfl rfl hl.1 [] rfl (Nat.le_of_ble_eq_true rfl) dX4_makePlan_34 ⟨Nat.zero_le _, Nat.zero_le _⟩ (fun H locs hH => ?_)
          refine lv_istore_n (lv' := [(3, .int ((kch E 31 0 w).2)), (0, .ref (eAd E 0)), (1, .int a), (2, .int (nI t))]) hx hb dX4_makePlan_37 rfl hl (by decide) rfl (fun ls hl => ?_)
          refine lv_aload_n hx hb dX4_makePlan_38 rfl (lv_at hl 1 rfl) ?_
          refine g_get (x := .ref (eAd E 11)) F hH inX4 (hE.1 0 (by decide)) (cq_kiln E _) rfl 5 (by decide) (hts (.fieldLink RX4 36 "DryingKiln" "plan" "[I") (by decide +kernel)) (fun _ h => h) rfl dX4_makePlan_39 ?_
          refine lv_iload_n hx hb dX4_makePlan_42 rfl (lv_at hl 3 rfl) ?_
          refine lv_iload_n hx hb dX4_makePlan_43 rfl (lv_at hl 0 rfl) ?_
          refine g_iast (n := 300) F hH (hE.1 11 (by decide)) (fun _ => rfl) t rfl (by omega) (by omega) dX4_makePlan_44 (fun H locs hH => ?_)
          refine lv_iload_n hx hb dX4_makePlan_45 rfl (lv_at hl 0 rfl) ?_
          refine lv_ldc (v := -1000006) hx hb hown (hts (.constant RX4 176 (-1000006)) (by decide +kernel)) dX4_makePlan_46 ?_
          refine lv_icmp_ne (tgt := 65) hx hb dX4_makePlan_48 (by decide) (fun c6 => ?_) (fun c6 => ?_)
          · skip
            refine lv_aload_n hx hb dX4_makePlan_65 rfl (lv_at hl 1 rfl) ?_
            refine g_get (x := .ref (eAd E 6)) F hH inX4 (hE.1 0 (by decide)) (cq_kiln E _) rfl 3 (by decide) (hts (.fieldLink RX4 30 "DryingKiln" "planned" "LDryingKiln$Load;") (by decide +kernel)) (fun _ h => h) rfl dX4_makePlan_66 ?_
            refine lv_aload_n hx hb dX4_makePlan_69 rfl (lv_at hl 1 rfl) ?_
            refine g_get (x := .ref (eAd E 7)) F hH inX4 (hE.1 0 (by decide)) (cq_kiln E _) rfl 4 (by decide) (hts (.fieldLink RX4 33 "DryingKiln" "trial" "LDryingKiln$Load;") (by decide +kernel)) (fun _ h => h) rfl dX4_makePlan_70 ?_
            refine g_vv (As := [.ref (eAd E 7)]) F hH (c_X1_copyFrom l E hE (st ((kch E 31 0 w).1) 11 t ((kch E 31 0 w).2)) 1 2 (by decide) (by decide) (by decide) h12.symm (by show isB (st _ 11 t _ 7 0); rw [st_ne _ _ _ (by decide)]; exact kch_isB E 31 0 w hw1 c6)) (cwV 1 hts gX4_makePlan_X1_copyFrom rfl rfl rfl (by decide +kernel) ⟨Nat.le_of_ble_eq_true rfl, Nat.le_of_ble_eq_true rfl⟩) (hE.1 6 (by decide)) (cq_ld E _ (i := 1) (by decide)) rfl rfl hl.1 [] rfl (Nat.le_of_ble_eq_true rfl) dX4_makePlan_73 ⟨Nat.zero_le _, Nat.zero_le _⟩ (fun H locs hH => ?_)
            refine lv_iinc (v := nI (t + 1)) (lv' := [(2, .int (nI (t + 1))), (3, .int ((kch E 31 0 w).2)), (0, .ref (eAd E 0)), (1, .int a)]) hx hb dX4_makePlan_76 hl (k := 3) rfl (nI_1 _) (by decide) rfl (fun ls hl => ?_)
            refine lv_goto (tgt := 13) hx hb dX4_makePlan_79 (by decide) ?_
            exact ih (t + 1) (by omega) (kps E t w) (kps_isB E t hw1) (hw2.trans (if_neg c4)) _ _ ls (by unfold kps; first | (rw [if_pos c6]; exact hH) | (rw [if_neg c6]; exact hH)) (by first | exact lv_sub hl [2, 3, 0] rfl | (have h := lv_sub hl [2, 3, 0] rfl; simp only [c3, c4, c6, if_true, if_false, ↓reduceIte]; exact h))
          · skip
            refine lv_aload_n hx hb dX4_makePlan_51 rfl (lv_at hl 1 rfl) ?_
            refine g_get (x := .ref (eAd E 6)) F hH inX4 (hE.1 0 (by decide)) (cq_kiln E _) rfl 3 (by decide) (hts (.fieldLink RX4 30 "DryingKiln" "planned" "LDryingKiln$Load;") (by decide +kernel)) (fun _ h => h) rfl dX4_makePlan_52 ?_
            refine lv_aload_n hx hb dX4_makePlan_55 rfl (lv_at hl 1 rfl) ?_
            refine g_get (x := .ref (eAd E 1)) F hH inX4 (hE.1 0 (by decide)) (cq_kiln E _) rfl 0 (by decide) (hts (.fieldLink RX4 10 "DryingKiln" "settings" "LDryingKiln$Settings;") (by decide +kernel)) (fun _ h => h) rfl dX4_makePlan_56 ?_
            refine g_vv (As := [.ref (eAd E 1)]) F hH (c_X1_passRestHour l E hE (st ((kch E 31 0 w).1) 11 t ((kch E 31 0 w).2)) 1 (by first | assumption | omega | decide)) (cwV 1 hts gX4_makePlan_X1_passRestHour rfl rfl rfl (by decide +kernel) ⟨Nat.le_of_ble_eq_true rfl, Nat.le_of_ble_eq_true rfl⟩) (hE.1 6 (by decide)) (cq_ld E _ (i := 1) (by decide)) rfl rfl hl.1 [] rfl (Nat.le_of_ble_eq_true rfl) dX4_makePlan_59 ⟨Nat.zero_le _, Nat.zero_le _⟩ (fun H locs hH => ?_)
            refine lv_goto (tgt := 76) hx hb dX4_makePlan_62 (by decide) ?_
            refine lv_iinc (v := nI (t + 1)) (lv' := [(2, .int (nI (t + 1))), (3, .int ((kch E 31 0 w).2)), (0, .ref (eAd E 0)), (1, .int a)]) hx hb dX4_makePlan_76 hl (k := 3) rfl (nI_1 _) (by decide) rfl (fun ls hl => ?_)
            refine lv_goto (tgt := 13) hx hb dX4_makePlan_79 (by decide) ?_
            exact ih (t + 1) (by omega) (kps E t w) (kps_isB E t hw1) (hw2.trans (if_neg c4)) _ _ ls (by unfold kps; first | (rw [if_pos c6]; exact hH) | (rw [if_neg c6]; exact hH)) (by first | exact lv_sub hl [2, 3, 0] rfl | (have h := lv_sub hl [2, 3, 0] rfl; simp only [c3, c4, c6, if_true, if_false, ↓reduceIte]; exact h))
  exact loop13 300 0 (Nat.zero_add _) (lcpy E 1 0 v) (isB_lcpy E (i := 1) (o := 0) hv5) rfl _ _ ls hH (lv_sub hl [1, 2, 0] rfl)

set_option maxHeartbeats 4000000 in
set_option maxRecDepth 100000 in
theorem c_X4_plannedHours (l : Launch) (E : Ev) (hE : EO E) (v : Mem) (a : Int32) (h01 : eNb E 0 = eNb E 1) (h12 : eNb E 1 = eNb E 2) (hv5 : isB (v 5 0)) : Ci l yX4_plannedHours wsX4_plannedHours ({ frames := 6, cells := 0, slots := 0, locals := 148 } : Room) E [.ref (eAd E 0), .int a] v (kphr E v a) (kphm E v a) := by
  refine Ci.of (cc := cX4_plannedHours) (maxL := 2) (ret := (some .int)) (own := RX4) (by decide) rfl rfl (Nat.le_of_ble_eq_true rfl) ?_
  intro p e s m below meth c F hr hlk ls hl hH
  obtain ⟨hx, hb, hml, hown, hts⟩ := id F.1
  have hl : lv_has ls 2 [(0, .ref (eAd E 0)), (1, .int a)] := hl
  have inJx4a65c : ∀ w ∈ wsJx4a65c0, w ∈ wsX4_plannedHours := fun w h => List.mem_cons_of_mem _ (List.mem_append_left _ (List.mem_append_left _ (List.mem_append_right _ h)))
  have inX0 : ∀ w ∈ wsX00, w ∈ wsX4_plannedHours := fun w h => List.mem_cons_of_mem _ (List.mem_append_left _ (List.mem_append_right _ h))
  have inX1 : ∀ w ∈ wsX10, w ∈ wsX4_plannedHours := fun w h => List.mem_cons_of_mem _ (List.mem_append_left _ (List.mem_append_left _ (List.mem_append_left _ (List.mem_append_right _ h))))
  have inX3 : ∀ w ∈ wsX30, w ∈ wsX4_plannedHours := fun w h => List.mem_cons_of_mem _ (List.mem_append_right _ h)
  have inX4 : ∀ w ∈ wsX40, w ∈ wsX4_plannedHours := fun w h => List.mem_cons_of_mem _ (List.mem_append_left _ (List.mem_append_left _ (List.mem_append_left _ (List.mem_append_left _ (List.mem_append_right _ h)))))
  refine lv_iload_n hx hb dX4_plannedHours_0 rfl (lv_at hl 1 rfl) ?_
  refine lv_iconst (v := 0) hx hb dX4_plannedHours_1 (by decide) ?_
  refine lv_sipush (v := 2000) hx hb dX4_plannedHours_2 (by decide) ?_
  refine g_si (As := [.int a, .int 0, .int 2000]) F hH (c_X4_isOutside l E hE v a 0 2000) (va_cwS 3 hts gX4_plannedHours_X4_isOutside rfl rfl rfl (by decide +kernel) ⟨Nat.le_of_ble_eq_true rfl, Nat.le_of_ble_eq_true rfl⟩) rfl hl.1 [] rfl (Nat.le_of_ble_eq_true rfl) dX4_plannedHours_5 ⟨Nat.zero_le _, Nat.zero_le _⟩ (fun H locs hH => ?_)
  refine lv_if_eq (tgt := 16) hx hb dX4_plannedHours_8 (by decide) (fun c1 => ?_) (fun c1 => ?_)
  · skip
    refine lv_aload_n hx hb dX4_plannedHours_16 rfl (lv_at hl 0 rfl) ?_
    refine lv_iload_n hx hb dX4_plannedHours_17 rfl (lv_at hl 1 rfl) ?_
    refine g_vi (As := [.int a]) F hH (c_X4_makePlan l E hE v a (by first | assumption | omega | decide) (by first | assumption | omega | decide) (by first | assumption | omega | decide)) (cwV 1 hts gX4_plannedHours_X4_makePlan rfl rfl rfl (by decide +kernel) ⟨Nat.le_of_ble_eq_true rfl, Nat.le_of_ble_eq_true rfl⟩) (hE.1 0 (by decide)) (cq_kiln E _) rfl rfl hl.1 [] rfl (Nat.le_of_ble_eq_true rfl) dX4_plannedHours_18 ⟨Nat.zero_le _, Nat.zero_le _⟩ (fun H locs hH => ?_)
    exact g_iret F hr hlk hH (by first | rfl | (simp only [kphr, kphm, c1, if_true, if_false, ↓reduceIte]; done) | (simp only [kphr, kphm, c1, if_true, if_false, ↓reduceIte]; rfl)) (by first | rfl | (simp only [kphr, kphm, c1, if_true, if_false, ↓reduceIte]; done) | (simp only [kphr, kphm, c1, if_true, if_false, ↓reduceIte]; rfl)) dX4_plannedHours_21
  · skip
    refine lv_ldc (v := -1000003) hx hb hown (hts (.constant RX4 51 (-1000003)) (by decide +kernel)) dX4_plannedHours_11 ?_
    refine lv_goto (tgt := 21) hx hb dX4_plannedHours_13 (by decide) ?_
    exact g_iret F hr hlk hH (by first | rfl | (simp only [kphr, kphm, c1, if_true, if_false, ↓reduceIte]; done) | (simp only [kphr, kphm, c1, if_true, if_false, ↓reduceIte]; rfl)) (by first | rfl | (simp only [kphr, kphm, c1, if_true, if_false, ↓reduceIte]; done) | (simp only [kphr, kphm, c1, if_true, if_false, ↓reduceIte]; rfl)) dX4_plannedHours_21

set_option maxHeartbeats 4000000 in
set_option maxRecDepth 100000 in
theorem c_X4_plannedInlet (l : Launch) (E : Ev) (hE : EO E) (v : Mem) (a : Int32) (b : Int32) (h01 : eNb E 0 = eNb E 1) (h12 : eNb E 1 = eNb E 2) (hv5 : isB (v 5 0)) : Ci l yX4_plannedInlet wsX4_plannedInlet ({ frames := 6, cells := 0, slots := 0, locals := 148 } : Room) E [.ref (eAd E 0), .int a, .int b] v (kpir E v a b) (kpim E v a b) := by
  refine Ci.of (cc := cX4_plannedInlet) (maxL := 3) (ret := (some .int)) (own := RX4) (by decide) rfl rfl (Nat.le_of_ble_eq_true rfl) ?_
  intro p e s m below meth c F hr hlk ls hl hH
  obtain ⟨hx, hb, hml, hown, hts⟩ := id F.1
  have hl : lv_has ls 3 [(0, .ref (eAd E 0)), (1, .int a), (2, .int b)] := hl
  have inJx4a65c : ∀ w ∈ wsJx4a65c0, w ∈ wsX4_plannedInlet := fun w h => List.mem_cons_of_mem _ (List.mem_append_left _ (List.mem_append_left _ (List.mem_append_right _ h)))
  have inX0 : ∀ w ∈ wsX00, w ∈ wsX4_plannedInlet := fun w h => List.mem_cons_of_mem _ (List.mem_append_left _ (List.mem_append_right _ h))
  have inX1 : ∀ w ∈ wsX10, w ∈ wsX4_plannedInlet := fun w h => List.mem_cons_of_mem _ (List.mem_append_left _ (List.mem_append_left _ (List.mem_append_left _ (List.mem_append_right _ h))))
  have inX3 : ∀ w ∈ wsX30, w ∈ wsX4_plannedInlet := fun w h => List.mem_cons_of_mem _ (List.mem_append_right _ h)
  have inX4 : ∀ w ∈ wsX40, w ∈ wsX4_plannedInlet := fun w h => List.mem_cons_of_mem _ (List.mem_append_left _ (List.mem_append_left _ (List.mem_append_left _ (List.mem_append_left _ (List.mem_append_right _ h)))))
  refine lv_iload_n hx hb dX4_plannedInlet_0 rfl (lv_at hl 1 rfl) ?_
  refine lv_iconst (v := 0) hx hb dX4_plannedInlet_1 (by decide) ?_
  refine lv_sipush (v := 2000) hx hb dX4_plannedInlet_2 (by decide) ?_
  refine g_si (As := [.int a, .int 0, .int 2000]) F hH (c_X4_isOutside l E hE v a 0 2000) (va_cwS 3 hts gX4_plannedInlet_X4_isOutside rfl rfl rfl (by decide +kernel) ⟨Nat.le_of_ble_eq_true rfl, Nat.le_of_ble_eq_true rfl⟩) rfl hl.1 [] rfl (Nat.le_of_ble_eq_true rfl) dX4_plannedInlet_5 ⟨Nat.zero_le _, Nat.zero_le _⟩ (fun H locs hH => ?_)
  refine lv_if_ne (tgt := 15) hx hb dX4_plannedInlet_8 (by decide) (fun c1 => ?_) (fun c1 => ?_)
  · skip
    refine lv_ldc (v := -1000003) hx hb hown (hts (.constant RX4 51 (-1000003)) (by decide +kernel)) dX4_plannedInlet_15 ?_
    exact g_iret F hr hlk hH (by first | rfl | (simp only [kpir, kpim, c1, if_true, if_false, ↓reduceIte]; done) | (simp only [kpir, kpim, c1, if_true, if_false, ↓reduceIte]; rfl)) (by first | rfl | (simp only [kpir, kpim, c1, if_true, if_false, ↓reduceIte]; done) | (simp only [kpir, kpim, c1, if_true, if_false, ↓reduceIte]; rfl)) dX4_plannedInlet_17
  · skip
    refine lv_iload_n hx hb dX4_plannedInlet_11 rfl (lv_at hl 2 rfl) ?_
    refine lv_if_ge (tgt := 18) hx hb dX4_plannedInlet_12 (by decide) (fun c2 => ?_) (fun c2 => ?_)
    · skip
      refine lv_iload_n hx hb dX4_plannedInlet_18 rfl (lv_at hl 2 rfl) ?_
      refine lv_aload_n hx hb dX4_plannedInlet_19 rfl (lv_at hl 0 rfl) ?_
      refine lv_iload_n hx hb dX4_plannedInlet_20 rfl (lv_at hl 1 rfl) ?_
      refine g_vi (As := [.int a]) F hH (c_X4_makePlan l E hE v a (by first | assumption | omega | decide) (by first | assumption | omega | decide) (by first | assumption | omega | decide)) (cwV 1 hts gX4_plannedInlet_X4_makePlan rfl rfl rfl (by decide +kernel) ⟨Nat.le_of_ble_eq_true rfl, Nat.le_of_ble_eq_true rfl⟩) (hE.1 0 (by decide)) (cq_kiln E _) rfl rfl hl.1 [.int b] rfl (Nat.le_of_ble_eq_true rfl) dX4_plannedInlet_21 ⟨Nat.zero_le _, Nat.zero_le _⟩ (fun H locs hH => ?_)
      refine lv_icmp_ge (tgt := 45) hx hb dX4_plannedInlet_24 (by decide) (fun c3 => ?_) (fun c3 => ?_)
      · skip
        refine lv_ldc (v := -1000005) hx hb hown (hts (.constant RX4 140 (-1000005)) (by decide +kernel)) dX4_plannedInlet_45 ?_
        exact g_iret F hr hlk hH (by first | rfl | (simp only [kpir, kpim, c1, c2, c3, if_true, if_false, ↓reduceIte]; done) | (simp only [kpir, kpim, c1, c2, c3, if_true, if_false, ↓reduceIte]; rfl)) (by first | rfl | (simp only [kpir, kpim, c1, c2, c3, if_true, if_false, ↓reduceIte]; done) | (simp only [kpir, kpim, c1, c2, c3, if_true, if_false, ↓reduceIte]; rfl)) dX4_plannedInlet_47
      · skip
        refine lv_iload_n hx hb dX4_plannedInlet_27 rfl (lv_at hl 2 rfl) ?_
        refine lv_aload_n hx hb dX4_plannedInlet_28 rfl (lv_at hl 0 rfl) ?_
        refine g_get (x := .ref (eAd E 11)) F hH inX4 (hE.1 0 (by decide)) (cq_kiln E _) rfl 5 (by decide) (hts (.fieldLink RX4 36 "DryingKiln" "plan" "[I") (by decide +kernel)) (fun _ h => h) rfl dX4_plannedInlet_29 ?_
        refine g_alen (n := 300) F hH (hE.1 11 (by decide)) rfl dX4_plannedInlet_32 ?_
        refine lv_icmp_ge (tgt := 45) hx hb dX4_plannedInlet_33 (by decide) (fun c4 => ?_) (fun c4 => ?_)
        · skip
          refine lv_ldc (v := -1000005) hx hb hown (hts (.constant RX4 140 (-1000005)) (by decide +kernel)) dX4_plannedInlet_45 ?_
          exact g_iret F hr hlk hH (by first | rfl | (simp only [kpir, kpim, c1, c2, c3, c4, if_true, if_false, ↓reduceIte]; done) | (simp only [kpir, kpim, c1, c2, c3, c4, if_true, if_false, ↓reduceIte]; rfl)) (by first | rfl | (simp only [kpir, kpim, c1, c2, c3, c4, if_true, if_false, ↓reduceIte]; done) | (simp only [kpir, kpim, c1, c2, c3, c4, if_true, if_false, ↓reduceIte]; rfl)) dX4_plannedInlet_47
        · skip
          obtain ⟨q, hq, rfl⟩ : ∃ q : Nat, q < 300 ∧ b = nI q := (by rcases pk_ix b (n := 300) (by omega) with h | h | h; exact absurd (Int32.lt_of_lt_of_le h c2) (Int32.lt_irrefl); exact absurd h c4; exact h)
          have hcq : (nI q).toNatClampNeg = q := nI_clamp (by omega)
          refine lv_aload_n hx hb dX4_plannedInlet_36 rfl (lv_at hl 0 rfl) ?_
          refine g_get (x := .ref (eAd E 11)) F hH inX4 (hE.1 0 (by decide)) (cq_kiln E _) rfl 5 (by decide) (hts (.fieldLink RX4 36 "DryingKiln" "plan" "[I") (by decide +kernel)) (fun _ h => h) rfl dX4_plannedInlet_37 ?_
          refine lv_iload_n hx hb dX4_plannedInlet_40 rfl (lv_at hl 2 rfl) ?_
          refine g_iald (n := 300) (x := (kplm E v a) 11 q) F hH (hE.1 11 (by decide)) rfl q rfl (by omega) (by omega) rfl dX4_plannedInlet_41 ?_
          refine lv_goto (tgt := 47) hx hb dX4_plannedInlet_42 (by decide) ?_
          exact g_iret F hr hlk hH (by first | rfl | (simp only [kpir, kpim, c1, c2, c3, c4, hcq, if_true, if_false, ↓reduceIte]; done) | (simp only [kpir, kpim, c1, c2, c3, c4, hcq, if_true, if_false, ↓reduceIte]; rfl)) (by first | rfl | (simp only [kpir, kpim, c1, c2, c3, c4, hcq, if_true, if_false, ↓reduceIte]; done) | (simp only [kpir, kpim, c1, c2, c3, c4, hcq, if_true, if_false, ↓reduceIte]; rfl)) dX4_plannedInlet_47
    · skip
      refine lv_ldc (v := -1000003) hx hb hown (hts (.constant RX4 51 (-1000003)) (by decide +kernel)) dX4_plannedInlet_15 ?_
      exact g_iret F hr hlk hH (by first | rfl | (simp only [kpir, kpim, c1, c2, if_true, if_false, ↓reduceIte]; done) | (simp only [kpir, kpim, c1, c2, if_true, if_false, ↓reduceIte]; rfl)) (by first | rfl | (simp only [kpir, kpim, c1, c2, if_true, if_false, ↓reduceIte]; done) | (simp only [kpir, kpim, c1, c2, if_true, if_false, ↓reduceIte]; rfl)) dX4_plannedInlet_17
end
section
/-! the model's functions -/
theorem nI_9 (n : Nat) : 9 * nI n = nI (9 * n) := pk_mul 9 n
def mrow (v : Mem) (b : Nat) : Nat → Int32 := fun k => v 17 (9 * b + k)
def btw (x a b : Int32) : Int32 := if x < a then 0 else if b < x then 0 else 1
def mbd (E : Ev) (a : Int32) : Int32 := btw a 0 (nI (eNb E 3) - 1)
def mcl (E : Ev) (a b : Int32) : Int32 := if mbd E a = 0 then -1000001 else if btw b 0 (nI (eLn E a.toNatClampNeg) - 1) = 0 then -1000002 else 0
theorem btw_in {x a b : Int32} (h : ¬ btw x a b = 0) : ¬ x < a ∧ ¬ b < x := by
  unfold btw at h
  by_cases h1 : x < a
  · rw [if_pos h1] at h; exact absurd rfl h
  · rw [if_neg h1] at h
    by_cases h2 : b < x
    · rw [if_pos h2] at h; exact absurd rfl h
    · exact ⟨h1, h2⟩
theorem sub1_toInt {n : Nat} (h : n < 1000) : (nI n - 1).toInt = (n : Int) - 1 := by
  cases n with
  | zero => decide
  | succ n => rw [nI_pred, nI_toInt (by omega)]; omega
theorem btw_ix {a : Int32} {n : Nat} (hn : n < 1000) (h : ¬ btw a 0 (nI n - 1) = 0) : ∃ j, j < n ∧ a = nI j := by
  obtain ⟨h1, h2⟩ := btw_in h
  rcases pk_ix a (n := n) (by omega) with q | q | q
  · exact absurd q h1
  · refine absurd (Int32.lt_iff_toInt_lt.mpr ?_) h2
    have q2 := Int32.le_iff_toInt_le.mp q
    rw [nI_toInt (by omega)] at q2
    rw [sub1_toInt hn]
    omega
  · exact q
theorem mcl_ok {E : Ev} (hE : EO E) {a b : Int32} (h : 0 ≤ mcl E a b) : ∃ j q, j < eNb E 3 ∧ q < eLn E j ∧ a = nI j ∧ b = nI q := by
  have hn := hE.2.2.2.2.1 3 (by decide)
  unfold mcl at h
  by_cases h1 : mbd E a = 0
  · rw [if_pos h1] at h; exact absurd h (by decide)
  · obtain ⟨j, hj, rfl⟩ := btw_ix (by omega) h1
    have hln := hE.2.2.2.2.2.1 j (by omega)
    rw [if_neg h1, nI_clamp (by omega)] at h
    by_cases h2 : btw b 0 (nI (eLn E j) - 1) = 0
    · rw [if_pos h2] at h; exact absurd h (by decide)
    · obtain ⟨q, hq, rfl⟩ := btw_ix (by omega) h2
      exact ⟨j, q, hj, hq, rfl, rfl⟩
def mslr (E : Ev) (v : Mem) (a b d : Int32) : Int32 := if 0 ≤ mcl E a b then (if btw d 0 2000 = 0 then -1000003 else v 17 (9 * a.toNatClampNeg + b.toNatClampNeg)) else mcl E a b
def mslm (E : Ev) (v : Mem) (a b d : Int32) : Mem := if 0 ≤ mcl E a b then (if btw d 0 2000 = 0 then v else st v 17 (9 * a.toNatClampNeg + b.toNatClampNeg) d) else v
def mlm (E : Ev) (v : Mem) (a b : Int32) : Int32 := if 0 ≤ mcl E a b then v 17 (9 * a.toNatClampNeg + b.toNatClampNeg) else mcl E a b
def mavg (E : Ev) (v : Mem) (b : Nat) : Int32 := psum (mrow v b) (eLn E b) / nI (eLn E b)
def mmx (f : Nat → Int32) : Nat → Int32
  | 0 => 0
  | t + 1 => if f t ≤ mmx f t then mmx f t else f t
def mstr (E : Ev) (v : Mem) (b : Nat) : Int32 := mmx (mrow v b) (eLn E b) - (if mrow v b (eLn E b - 1) ≤ mrow v b 0 then mrow v b (eLn E b - 1) else mrow v b 0)
def mav (E : Ev) (v : Mem) (a : Int32) : Int32 := if mbd E a = 0 then -1000001 else mavg E v a.toNatClampNeg
def mst (E : Ev) (v : Mem) (a : Int32) : Int32 := if mbd E a = 0 then -1000001 else mstr E v a.toNatClampNeg
def mfld (E : Ev) (v : Mem) (k : Nat) (a : Int32) : Int32 := if mbd E a = 0 then -1000001 else v k a.toNatClampNeg
def mwi (E : Ev) (v : Mem) : Nat → Nat
  | 0 => 0
  | t + 1 => if t = 0 then 0 else if mavg E v t ≤ mavg E v (mwi E v t) then mwi E v t else t
def mwb (E : Ev) (v : Mem) (t : Nat) : Int32 := if t = 0 then -1000005 else nI (mwi E v t)
theorem mwi_lt (E : Ev) (v : Mem) : ∀ t, 0 < t → mwi E v t < t
  | 0, h => absurd h (by decide)
  | t + 1, _ => by
    simp only [mwi]
    split
    · omega
    · rename_i h
      have := mwi_lt E v t (by omega)
      split <;> omega
theorem nI_none {n : Nat} (h : n < 1000) : ¬ nI n = -1000005 := fun q => by
  have e := congrArg Int32.toInt q
  rw [nI_toInt (by omega)] at e
  have e2 : (-1000005 : Int32).toInt = -1000005 := by decide
  omega
theorem mwb_0 {E : Ev} {v : Mem} {t : Nat} (ht : t < 1000) (h : mwb E v t = -1000005) : t = 0 := by
  unfold mwb at h
  by_cases h0 : t = 0
  · exact h0
  · rw [if_neg h0] at h
    have := mwi_lt E v t (by omega)
    exact absurd h (nI_none (by omega))
theorem mwb_n {E : Ev} {v : Mem} {t : Nat} (h : ¬ mwb E v t = -1000005) : t ≠ 0 := fun q => h (by unfold mwb; rw [if_pos q])
theorem mw_a (E : Ev) (v : Mem) {t : Nat} (h : t = 0) : mwb E v (t + 1) = nI t := by
  subst h
  rfl
theorem mw_b (E : Ev) (v : Mem) {t : Nat} (h : t ≠ 0) (c : mavg E v t ≤ mavg E v (mwi E v t)) : mwb E v (t + 1) = nI (mwi E v t) := by
  unfold mwb
  rw [if_neg (by omega), mwi, if_neg h, if_pos c]
theorem mw_c (E : Ev) (v : Mem) {t : Nat} (h : t ≠ 0) (c : ¬ mavg E v t ≤ mavg E v (mwi E v t)) : mwb E v (t + 1) = nI t := by
  unfold mwb
  rw [if_neg (by omega), mwi, if_neg h, if_neg c]
def mwat (E : Ev) (v : Mem) : Nat → Int32
  | 0 => 0
  | t + 1 => mwat E v t + psum (mrow v t) (eLn E t)
def mms (E : Ev) (v : Mem) (a : Int32) : Nat → Int32
  | 0 => 0
  | t + 1 => if a >>> (nI t &&& 31) &&& 1 = 1 then mms E v a t + mavg E v t else mms E v a t
def mmc (a : Int32) : Nat → Int32
  | 0 => 0
  | t + 1 => if a >>> (nI t &&& 31) &&& 1 = 1 then mmc a t + 1 else mmc a t
def mmean (E : Ev) (v : Mem) (a : Int32) : Int32 := mms E v a (eNb E 3) / mmc a (eNb E 3)
def mall (E : Ev) : Int32 := (1 <<< (nI (eNb E 3) &&& 31)) - 1
def mse (E : Ev) (v : Mem) (a : Int32) : Int32 := if a = 0 then -1000003 else if a &&& (mall E ^^^ -1) = 0 then mmean E v a - mmean E v (mall E) else -1000003
theorem bits6 : ∀ n, n < 7 → ∀ m, m < 64 → ¬ nI m = 0 → nI m &&& (((1 <<< (nI n &&& 31)) - 1) ^^^ -1) = 0 → ¬ mmc (nI m) n = 0 ∧ bitc (nI m) = mmc (nI m) n := by decide +kernel
theorem bits_lt {a : Int32} {n : Nat} (hn : n < 7) (h : a &&& (((1 <<< (nI n &&& 31)) - 1) ^^^ -1) = 0) : ∃ m, m < 64 ∧ a = nI m := by
  have hm : ∀ n, n < 7 → ((((1 : Int32) <<< (nI n &&& 31)) - 1) ^^^ -1) &&& (-64) = (-64 : Int32) := by decide +kernel
  have h1 : a &&& (-64) = 0 := by
    rw [← hm n hn, ← Int32.and_assoc, h]
    decide
  refine ⟨(a &&& 63).toBitVec.toNat, ?_, ?_⟩
  · have := pk_and a (m := 63) 6 (by decide)
    rw [this, pk_tn (by omega)]
    omega
  · have e : a = (a &&& (-64)) ||| (a &&& 63) := by
      apply Int32.toBitVec_inj.mp
      apply BitVec.eq_of_getLsbD_eq
      intro i hi
      have hb : ∀ i, i < 32 → ((-64 : Int32).toBitVec.getLsbD i || (63 : Int32).toBitVec.getLsbD i) = true := by decide
      have hb := hb i hi
      simp only [Int32.toBitVec_or, Int32.toBitVec_and, BitVec.getLsbD_or, BitVec.getLsbD_and]
      generalize (-64 : Int32).toBitVec.getLsbD i = x at hb ⊢
      generalize (63 : Int32).toBitVec.getLsbD i = y at hb ⊢
      cases a.toBitVec.getLsbD i <;> simp_all
    rw [h1, Int32.zero_or] at e
    rw [← e]
    apply Int32.toBitVec_inj.mp
    simp [nI]
theorem bits_ok {a : Int32} {n : Nat} (hn : n < 7) (h0 : ¬ a = 0) (h : a &&& (((1 <<< (nI n &&& 31)) - 1) ^^^ -1) = 0) : ¬ mmc a n = 0 ∧ bitc a = mmc a n := by
  obtain ⟨m, hm, rfl⟩ := bits_lt hn h
  exact bits6 n hn m hm h0 h
theorem bits_all : ∀ n, n < 7 → ((((1 : Int32) <<< (nI n &&& 31)) - 1) &&& ((((1 : Int32) <<< (nI n &&& 31)) - 1) ^^^ -1)) = 0 := by decide +kernel
theorem bits_ne {a : Int32} {n : Nat} (hn : n < 7) (h0 : ¬ a = 0) (h : a &&& (((1 <<< (nI n &&& 31)) - 1) ^^^ -1) = 0) : ¬ ((1 : Int32) <<< (nI n &&& 31)) - 1 = 0 := fun q => by
  rw [q] at h
  exact h0 (by rw [show (0 : Int32) ^^^ -1 = -1 by decide, Int32.and_neg_one] at h; exact h)
def msr (v : Mem) (j : Nat) (a lo hi : Int32) : Int32 := if btw a lo hi = 0 then -1000003 else v 15 j
def msm (v : Mem) (j : Nat) (a lo hi : Int32) : Mem := if btw a lo hi = 0 then v else st v 15 j a
/-! move -/
def mfl (f g : Nat → Int32) (n : Nat) (d top bot : Int32) (t : Nat) : Nat → Int32 := fun k => if k ≤ t ∧ k < n then ent f n d top bot k else if k = n then bot else g k
theorem mfl_init (v : Mem) (f : Nat → Int32) {n : Nat} (hn : 0 < n) (d top bot : Int32) {x : Int32} (hx : x = -top) : st (st v 20 0 x) 20 n bot = va_up v 20 (mfl f (v 20) n d top bot 0) := by
  subst hx
  rw [st, st, up_at, up_up]
  congr 1
  funext k
  unfold upd mfl
  by_cases h1 : k = n
  · subst h1
    rw [if_pos rfl, if_neg (by omega), if_pos rfl]
  · rw [if_neg h1]
    by_cases h2 : k = 0
    · subst h2
      rw [if_pos rfl, if_pos ⟨Nat.le_refl _, hn⟩]
      rfl
    · rw [if_neg h2, if_neg (by omega), if_neg h1]
theorem mfl_step (v : Mem) (f : Nat → Int32) {n t : Nat} (hn : t + 1 < n) (d top bot : Int32) {x : Int32} (hx : x = (f t - f (t + 1)) * d / 1000) : st (va_up v 20 (mfl f (v 20) n d top bot t)) 20 (t + 1) x = va_up v 20 (mfl f (v 20) n d top bot (t + 1)) := by
  rw [st_up]
  congr 1
  funext k
  unfold upd mfl
  by_cases h1 : k = t + 1
  · subst h1
    rw [if_pos rfl, if_pos ⟨Nat.le_refl _, hn⟩]
    show x = lea f n d bot t
    rw [lea, if_pos hn]
    exact hx
  · rw [if_neg h1]
    by_cases h2 : k ≤ t ∧ k < n
    · rw [if_pos h2, if_pos (by omega)]
    · have h3 : ¬ (k ≤ t + 1 ∧ k < n) := by omega
      rw [if_neg h2, if_neg h3]
theorem mfl_ent (f g : Nat → Int32) {n t : Nat} (h : t < n) (d top bot : Int32) : mfl f g n d top bot (n - 1) t = ent f n d top bot t := by
  unfold mfl
  rw [if_pos (by omega)]
theorem mfl_lea (f g : Nat → Int32) {n t : Nat} (h : t < n) (d top bot : Int32) : mfl f g n d top bot (n - 1) (t + 1) = lea f n d bot t := by
  unfold mfl
  by_cases h2 : t + 1 < n
  · rw [if_pos (by omega)]
    rfl
  · rw [if_neg (by omega), if_pos (by omega), lea, if_neg h2]
theorem mfl_n (f g : Nat → Int32) (n : Nat) (d top bot : Int32) (t : Nat) : mfl f g n d top bot t n = bot := by
  unfold mfl
  rw [if_neg (by omega), if_pos rfl]
def mcp (c : Nat → Int32) (b n : Nat) (d top bot : Int32) (t : Nat) : Nat → Int32 := fun q => if 9 * b ≤ q ∧ q < 9 * b + t then c q + (ent (fun k => c (9 * b + k)) n d top bot (q - 9 * b) - lea (fun k => c (9 * b + k)) n d bot (q - 9 * b)) else c q
theorem mcp_zero (c : Nat → Int32) (b n : Nat) (d top bot : Int32) : mcp c b n d top bot 0 = c := by
  funext q
  unfold mcp
  rw [if_neg (by omega)]
theorem mcp_get (c : Nat → Int32) (b n : Nat) (d top bot : Int32) (t : Nat) : mcp c b n d top bot t (9 * b + t) = c (9 * b + t) := by
  unfold mcp
  rw [if_neg (by omega)]
theorem mcp_step (v w : Mem) (b n : Nat) (d top bot : Int32) (t : Nat) {x : Int32} (hx : x = v 17 (9 * b + t) + (ent (mrow v b) n d top bot t - lea (mrow v b) n d bot t)) : st (va_up w 17 (mcp (v 17) b n d top bot t)) 17 (9 * b + t) x = va_up w 17 (mcp (v 17) b n d top bot (t + 1)) := by
  rw [st_up]
  congr 1
  funext q
  unfold upd mcp
  by_cases h1 : q = 9 * b + t
  · subst h1
    rw [if_pos rfl, if_pos (by omega), show 9 * b + t - 9 * b = t by omega]
    exact hx
  · rw [if_neg h1]
    by_cases h2 : 9 * b ≤ q ∧ q < 9 * b + t
    · rw [if_pos h2, if_pos (by omega)]
    · rw [if_neg h2, if_neg (by omega)]
def mmv (E : Ev) (b : Nat) (top bot : Int32) (v : Mem) : Mem := va_up (va_up v 20 (mfl (mrow v b) (v 20) (eLn E b) (v 15 5) top bot (eLn E b - 1))) 17 (mcp (v 17) b (eLn E b) (v 15 5) top bot (eLn E b))
def mtop (v : Mem) (b : Nat) (a : Int32) : Int32 := (mrow v b 0 - a) * v 15 6 / 1000
def mbot (E : Ev) (v : Mem) (b : Nat) (a : Int32) : Int32 := (mrow v b (eLn E b - 1) - a) * v 15 6 / 1000
theorem mmv_ne (E : Ev) (b : Nat) (top bot : Int32) (v : Mem) {q : Nat} (h1 : q ≠ 17) (h2 : q ≠ 20) : mmv E b top bot v q = v q := by
  rw [mmv, up_ne _ _ h1, up_ne _ _ h2]
/-! hours -/
def mnum (E : Ev) (w : Mem) (t : Nat) : Nat := if w 15 10 = 0 then t else eNb E 3 - 1 - t
def mair (a g k : Int32) : Int32 := if 0 ≤ a + g / k then a + g / k else 0
def mone (E : Ev) (b : Nat) (a : Int32) (w : Mem) : Mem := mmv E b (mtop w b a) (mbot E w b a) (st w 19 b a)
def mbp (E : Ev) (a : Int32) (v : Mem) : Nat → Mem × Int32
  | 0 => (v, 0)
  | t + 1 => (mone E (mnum E (mbp E a v t).1 t) (mair a (mbp E a v t).2 ((mbp E a v t).1 15 7)) (mbp E a v t).1, (mbp E a v t).2 + (mbot E (mbp E a v t).1 (mnum E (mbp E a v t).1 t) (mair a (mbp E a v t).2 ((mbp E a v t).1 15 7)) - -(mtop (mbp E a v t).1 (mnum E (mbp E a v t).1 t) (mair a (mbp E a v t).2 ((mbp E a v t).1 15 7)))))
theorem mbp_ne (E : Ev) (a : Int32) (v : Mem) {q : Nat} (h1 : q ≠ 17) (h2 : q ≠ 20) (h3 : q ≠ 19) : ∀ t, (mbp E a v t).1 q = v q
  | 0 => rfl
  | t + 1 => by
    show mone E _ _ (mbp E a v t).1 q = v q
    rw [mone, mmv_ne E _ _ _ _ h1 h2, st_ne _ _ _ h3, mbp_ne E a v h1 h2 h3 t]
def mblm (E : Ev) (a : Int32) (v : Mem) : Mem := (mbp E a v (eNb E 3)).1
def mblr (E : Ev) (a : Int32) (v : Mem) : Int32 := (mbp E a v (eNb E 3)).2
def mrs (E : Ev) (v : Mem) : Nat → Mem
  | 0 => v
  | t + 1 => mmv E t 0 0 (mrs E v t)
def mrst (E : Ev) (v : Mem) : Mem := mrs E v (eNb E 3)
theorem mrs_ne (E : Ev) (v : Mem) {q : Nat} (h1 : q ≠ 17) (h2 : q ≠ 20) : ∀ t, mrs E v t q = v q
  | 0 => rfl
  | t + 1 => by
    show mmv E t 0 0 (mrs E v t) q = v q
    rw [mmv_ne E _ _ _ _ h1 h2, mrs_ne E v h1 h2 t]
def mec (E : Ev) (v : Mem) : Nat → Mem × Int32
  | 0 => (v, 0)
  | t + 1 => if mstr E (mec E v t).1 t ≤ (mec E v t).1 15 8 then mec E v t else if (mec E v t).1 18 t = -1000005 then (st (mec E v t).1 18 t ((mec E v t).1 15 12), (mec E v t).2 + 1) else mec E v t
def mend (E : Ev) (v : Mem) : Mem × Int32 := mec E (st v 15 12 (v 15 12 + 1)) (eNb E 3)
theorem mec_ne (E : Ev) (v : Mem) {q : Nat} (h : q ≠ 18) : ∀ t, (mec E v t).1 q = v q
  | 0 => rfl
  | t + 1 => by
    have ih := mec_ne E v h t
    simp only [mec]
    split
    · exact ih
    · split
      · show st _ 18 _ _ q = v q
        rw [st_ne _ _ _ h]
        exact ih
      · exact ih
theorem mend_ne (E : Ev) (v : Mem) {q : Nat} (h : q ≠ 18) (h2 : q ≠ 15) : (mend E v).1 q = v q := by
  rw [mend, mec_ne E _ h, st_ne _ _ _ h2]
theorem mend_15 (E : Ev) (v : Mem) {j : Nat} (h : j ≠ 12) : (mend E v).1 15 j = v 15 j := by
  rw [mend, mec_ne E _ (by decide), st_nj _ _ _ h]
def med (v : Mem) : Mem :=
  if v 15 11 ≤ 0 then st v 15 13 (v 15 13 + 1)
  else if (v 15 13 + 1) - (v 15 13 + 1) / v 15 11 * v 15 11 = 0 then st (st v 15 13 (v 15 13 + 1)) 15 10 (ntg (v 15 10))
  else st v 15 13 (v 15 13 + 1)
theorem med_ne (v : Mem) {q : Nat} (h : q ≠ 15) : med v q = v q := by
  unfold med
  split
  · rw [st_ne _ _ _ h]
  · split
    · rw [st_ne _ _ _ h, st_ne _ _ _ h]
    · rw [st_ne _ _ _ h]
theorem med_15 (v : Mem) {j : Nat} (h : j ≠ 13) (h2 : j ≠ 10) : med v 15 j = v 15 j := by
  unfold med
  split
  · rw [st_nj _ _ _ h]
  · split
    · rw [st_nj _ _ _ h2, st_nj _ _ _ h]
    · rw [st_nj _ _ _ h]
/-- a drying hour of the model -/
def mdh (E : Ev) (a : Int32) (v : Mem) : Mem := med (mend E (st (mblm E a v) 15 14 (v 15 14 + mblr E a v))).1
theorem mdh_15 (E : Ev) (a : Int32) (v : Mem) {j : Nat} (h1 : j ≠ 13) (h2 : j ≠ 10) (h3 : j ≠ 12) (h4 : j ≠ 14) : mdh E a v 15 j = v 15 j := by
  rw [mdh, med_15 _ h1 h2, mend_15 E _ h3, st_nj _ _ _ h4, mblm, mbp_ne E _ _ (by decide) (by decide) (by decide)]
def mdp (E : Ev) (v : Mem) : Nat → Mem × Int32
  | 0 => (v, 0)
  | t + 1 => (mdh E ((mdp E v t).1 15 9) (mdp E v t).1, (mdp E v t).2 + mblr E ((mdp E v t).1 15 9) (mdp E v t).1)
theorem mdp_15 (E : Ev) (v : Mem) {j : Nat} (h1 : j ≠ 13) (h2 : j ≠ 10) (h3 : j ≠ 12) (h4 : j ≠ 14) : ∀ t, (mdp E v t).1 15 j = v 15 j
  | 0 => rfl
  | t + 1 => by
    show mdh E _ (mdp E v t).1 15 j = v 15 j
    rw [mdh_15 E _ _ h1 h2 h3 h4, mdp_15 E v h1 h2 h3 h4 t]
def mdr (E : Ev) (v : Mem) (a : Int32) : Int32 := if btw a 1 200 = 0 then -1000003 else (mdp E v a.toNatClampNeg).2
def mdm (E : Ev) (v : Mem) (a : Int32) : Mem := if btw a 1 200 = 0 then v else (mdp E v a.toNatClampNeg).1
def mrp (E : Ev) (v : Mem) : Nat → Mem × Int32
  | 0 => (v, 0)
  | t + 1 => ((mend E (mrst E (mrp E v t).1)).1, (mrp E v t).2 + (mend E (mrst E (mrp E v t).1)).2)
def mrr (E : Ev) (v : Mem) (a : Int32) : Int32 := if btw a 1 200 = 0 then -1000003 else (mrp E v a.toNatClampNeg).2
def mrm (E : Ev) (v : Mem) (a : Int32) : Mem := if btw a 1 200 = 0 then v else (mrp E v a.toNatClampNeg).1
theorem btw_200 {a : Int32} (h : ¬ btw a 1 200 = 0) : ∃ N, N ≤ 200 ∧ a = nI N := by
  obtain ⟨h1, h2⟩ := btw_in h
  have e0 : (0 : Int32).toInt = 0 := by decide
  have e1 : (1 : Int32).toInt = 1 := by decide
  refine nI_of2 (M := 200) (by decide) (fun h => h1 (Int32.lt_iff_toInt_lt.mpr ?_)) ?_
  · have := Int32.lt_iff_toInt_lt.mp h
    omega
  · exact Int32.not_lt.mp h2
end

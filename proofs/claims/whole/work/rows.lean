section
-- ===== PART A: goes FIRST, ahead of the names: the tables' words, and 'selects' of the private methods out of them =====
/-- a private method of a class that the tables say can be made, by its rows of tables_1 -/
def lw_okq (q : MethodName × Nat) : Prop := (q.1.cls ≠ "java/lang/invoke/MethodHandle" ∧ q.1.cls ≠ "java/lang/invoke/VarHandle") ∧ Cond.instantiable q.1.cls q.2 ∈ tables_1 ∧ Cond.privateMethod q.1 ∈ tables_1 ∧ Cond.instanceMethod q.1 ∈ tables_1
theorem lw_p0 : lw_okq (⟨"KeyHall$Sorted", "isKeyAt", "(IJ)Z"⟩, 3) := ⟨⟨by decide +kernel, by decide +kernel⟩, List.mem_of_getElem? (i := 16) (by decide +kernel), List.mem_of_getElem? (i := 83) (by decide +kernel), List.mem_of_getElem? (i := 84) (by decide +kernel)⟩
theorem lw_p1 : lw_okq (⟨"KeyHall$Sorted", "isInside", "(I)Z"⟩, 3) := ⟨⟨by decide +kernel, by decide +kernel⟩, List.mem_of_getElem? (i := 16) (by decide +kernel), List.mem_of_getElem? (i := 87) (by decide +kernel), List.mem_of_getElem? (i := 88) (by decide +kernel)⟩
theorem lw_p2 : lw_okq (⟨"KeyHall", "takeTape", "()J"⟩, 9) := ⟨⟨by decide +kernel, by decide +kernel⟩, List.mem_of_getElem? (i := 8) (by decide +kernel), List.mem_of_getElem? (i := 229) (by decide +kernel), List.mem_of_getElem? (i := 230) (by decide +kernel)⟩
theorem lw_p3 : lw_okq (⟨"KeyHall", "tallyAllAround", "()V"⟩, 9) := ⟨⟨by decide +kernel, by decide +kernel⟩, List.mem_of_getElem? (i := 8) (by decide +kernel), List.mem_of_getElem? (i := 267) (by decide +kernel), List.mem_of_getElem? (i := 268) (by decide +kernel)⟩
theorem lw_p4 : lw_okq (⟨"KeyHall", "tallyAround", "(II)V"⟩, 9) := ⟨⟨by decide +kernel, by decide +kernel⟩, List.mem_of_getElem? (i := 8) (by decide +kernel), List.mem_of_getElem? (i := 271) (by decide +kernel), List.mem_of_getElem? (i := 272) (by decide +kernel)⟩
theorem lw_p5 : lw_okq (⟨"KeyHall", "isMarkedThen", "(JJ)Z"⟩, 9) := ⟨⟨by decide +kernel, by decide +kernel⟩, List.mem_of_getElem? (i := 8) (by decide +kernel), List.mem_of_getElem? (i := 275) (by decide +kernel), List.mem_of_getElem? (i := 276) (by decide +kernel)⟩
theorem lw_p6 : lw_okq (⟨"KeyHallModel", "nearest", "(IIZZZ)I"⟩, 10) := ⟨⟨by decide +kernel, by decide +kernel⟩, List.mem_of_getElem? (i := 309) (by decide +kernel), List.mem_of_getElem? (i := 431) (by decide +kernel), List.mem_of_getElem? (i := 432) (by decide +kernel)⟩
theorem lw_p7 : lw_okq (⟨"KeyHallModel", "wordOfTape", "()I"⟩, 10) := ⟨⟨by decide +kernel, by decide +kernel⟩, List.mem_of_getElem? (i := 309) (by decide +kernel), List.mem_of_getElem? (i := 459) (by decide +kernel), List.mem_of_getElem? (i := 460) (by decide +kernel)⟩
theorem lw_p8 : lw_okq (⟨"KeyHallModel", "against", "(I)I"⟩, 10) := ⟨⟨by decide +kernel, by decide +kernel⟩, List.mem_of_getElem? (i := 309) (by decide +kernel), List.mem_of_getElem? (i := 463) (by decide +kernel), List.mem_of_getElem? (i := 464) (by decide +kernel)⟩
theorem lw_p9 : lw_okq (⟨"KeyHallModel", "signOf", "(II)I"⟩, 10) := ⟨⟨by decide +kernel, by decide +kernel⟩, List.mem_of_getElem? (i := 309) (by decide +kernel), List.mem_of_getElem? (i := 467) (by decide +kernel), List.mem_of_getElem? (i := 468) (by decide +kernel)⟩
theorem lw_p10 : lw_okq (⟨"KeyHallModel", "tapeSign", "(I)I"⟩, 10) := ⟨⟨by decide +kernel, by decide +kernel⟩, List.mem_of_getElem? (i := 309) (by decide +kernel), List.mem_of_getElem? (i := 471) (by decide +kernel), List.mem_of_getElem? (i := 472) (by decide +kernel)⟩
theorem lw_p11 : lw_okq (⟨"KeyHallModel", "numbers", "(I)I"⟩, 10) := ⟨⟨by decide +kernel, by decide +kernel⟩, List.mem_of_getElem? (i := 309) (by decide +kernel), List.mem_of_getElem? (i := 475) (by decide +kernel), List.mem_of_getElem? (i := 476) (by decide +kernel)⟩
theorem lw_p12 : lw_okq (⟨"KeyHallModel", "before", "(II)Z"⟩, 10) := ⟨⟨by decide +kernel, by decide +kernel⟩, List.mem_of_getElem? (i := 309) (by decide +kernel), List.mem_of_getElem? (i := 487) (by decide +kernel), List.mem_of_getElem? (i := 488) (by decide +kernel)⟩
theorem lw_p13 : lw_okq (⟨"KeyHallModel", "rows", "()I"⟩, 10) := ⟨⟨by decide +kernel, by decide +kernel⟩, List.mem_of_getElem? (i := 309) (by decide +kernel), List.mem_of_getElem? (i := 528) (by decide +kernel), List.mem_of_getElem? (i := 529) (by decide +kernel)⟩
def lw_privs_1 : List (MethodName × Nat) := [(⟨"KeyHall$Sorted", "isKeyAt", "(IJ)Z"⟩, 3), (⟨"KeyHall$Sorted", "isInside", "(I)Z"⟩, 3), (⟨"KeyHall", "takeTape", "()J"⟩, 9), (⟨"KeyHall", "tallyAllAround", "()V"⟩, 9), (⟨"KeyHall", "tallyAround", "(II)V"⟩, 9), (⟨"KeyHall", "isMarkedThen", "(JJ)Z"⟩, 9), (⟨"KeyHallModel", "nearest", "(IIZZZ)I"⟩, 10), (⟨"KeyHallModel", "wordOfTape", "()I"⟩, 10), (⟨"KeyHallModel", "against", "(I)I"⟩, 10), (⟨"KeyHallModel", "signOf", "(II)I"⟩, 10), (⟨"KeyHallModel", "tapeSign", "(I)I"⟩, 10), (⟨"KeyHallModel", "numbers", "(I)I"⟩, 10), (⟨"KeyHallModel", "before", "(II)Z"⟩, 10), (⟨"KeyHallModel", "rows", "()I"⟩, 10)]
theorem lw_r1 : ∀ q ∈ lw_privs_1, lw_okq q := List.forall_mem_cons.mpr ⟨lw_p0, List.forall_mem_cons.mpr ⟨lw_p1, List.forall_mem_cons.mpr ⟨lw_p2, List.forall_mem_cons.mpr ⟨lw_p3, List.forall_mem_cons.mpr ⟨lw_p4, List.forall_mem_cons.mpr ⟨lw_p5, List.forall_mem_cons.mpr ⟨lw_p6, List.forall_mem_cons.mpr ⟨lw_p7, List.forall_mem_cons.mpr ⟨lw_p8, List.forall_mem_cons.mpr ⟨lw_p9, List.forall_mem_cons.mpr ⟨lw_p10, List.forall_mem_cons.mpr ⟨lw_p11, List.forall_mem_cons.mpr ⟨lw_p12, List.forall_mem_cons.mpr ⟨lw_p13, fun _ h => absurd h List.not_mem_nil⟩⟩⟩⟩⟩⟩⟩⟩⟩⟩⟩⟩⟩⟩
def lw_privs : List (MethodName × Nat) := lw_privs_1
def lw_tbl : List Cond := k2_sels lw_privs ++ tables_1
theorem lw_privs_ok : ∀ q ∈ lw_privs, lw_okq q := lw_r1
end
section
/-! ===== BEGIN words of one list among another's, by their places ===== -/
theorem goodIn_r {big : List Cond} (ws : List Cond) (ps : List Nat) (hp : ws = ps.filterMap (fun i => big[i]?)) (h : ws.all goodWord = true) : GoodIn big ws := by
  intro w hw
  have h1 := List.all_eq_true.mp h w hw
  rw [hp] at hw
  obtain ⟨i, -, hi⟩ := List.mem_filterMap.mp hw
  have hm : w ∈ big := by first | exact List.mem_of_getElem? hi | exact List.getElem?_mem hi
  exact ⟨hm, good_of_word h1⟩
theorem goodIn_app {big a b : List Cond} (ha : GoodIn big a) (hb : GoodIn big b) : GoodIn big (a ++ b) := fun w h => (List.mem_append.mp h).elim (ha w) (hb w)
theorem goodIn_ca {big a b : List Cond} {c : Cond} (ha : GoodIn big (c :: a)) (hb : GoodIn big b) : GoodIn big (c :: (a ++ b)) := fun w h => (List.mem_cons.mp h).elim (fun e => ha w (List.mem_cons.mpr (Or.inl e))) (fun h => (List.mem_append.mp h).elim (fun h => ha w (List.mem_cons.mpr (Or.inr h))) (hb w))
theorem goodIn_sub {big ws : List Cond} (hm : ∀ w ∈ ws, w ∈ big) (h : ws.all goodWord = true) : GoodIn big ws := fun w hw => ⟨hm w hw, good_of_word (List.all_eq_true.mp h w hw)⟩
/-! ===== END ===== -/
/-! ===== BEGIN printed: names, fields, word lists, decode rows ===== -/
def RX0 : String := "KeyHall$Sorted"
def TX0 : u_T := fun k => match k with
  | 0 => ("KeyHall$Sorted", "keys", "[J", true)
  | 1 => ("KeyHall$Sorted", "values", "[J", true)
  | _ => ("KeyHall$Sorted", "held", "I", false)
def tyX0 : Nat → FieldType := fun k => match k with
  | 0 => .array .long
  | 1 => .array .long
  | _ => .int
abbrev wsX00 : List Cond := u_ws RX0 TX0 3
theorem nmX0 : ∀ a, a < 3 → ∀ b, b < 3 → a ≠ b → (TX0 a).2.1 ≠ (TX0 b).2.1 := by decide +kernel
theorem tyX0_ok : ∀ k, k < 3 → parseFieldDescriptor (TX0 k).2.2.1 = some (tyX0 k) := by decide +kernel
abbrev cX0_init : ByteArray := prog_2_method_1_code
def yX0_init : MethodName := ⟨RX0, "<init>", "(I)V"⟩
abbrev cX0_held : ByteArray := prog_2_method_2_code
def yX0_held : MethodName := ⟨RX0, "held", "()I"⟩
abbrev cX0_below : ByteArray := prog_2_method_3_code
def yX0_below : MethodName := ⟨RX0, "below", "(J)I"⟩
abbrev cX0_upTo : ByteArray := prog_2_method_4_code
def yX0_upTo : MethodName := ⟨RX0, "upTo", "(J)I"⟩
abbrev cX0_find : ByteArray := prog_2_method_5_code
def yX0_find : MethodName := ⟨RX0, "find", "(J)I"⟩
abbrev cX0_holds : ByteArray := prog_2_method_6_code
def yX0_holds : MethodName := ⟨RX0, "holds", "(J)Z"⟩
abbrev cX0_findValue : ByteArray := prog_2_method_7_code
def yX0_findValue : MethodName := ⟨RX0, "findValue", "(J)I"⟩
abbrev cX0_keyAt : ByteArray := prog_2_method_8_code
def yX0_keyAt : MethodName := ⟨RX0, "keyAt", "(I)J"⟩
abbrev cX0_valueAt : ByteArray := prog_2_method_9_code
def yX0_valueAt : MethodName := ⟨RX0, "valueAt", "(I)J"⟩
abbrev cX0_store : ByteArray := prog_2_method_10_code
def yX0_store : MethodName := ⟨RX0, "store", "(JJ)J"⟩
abbrev cX0_raise : ByteArray := prog_2_method_11_code
def yX0_raise : MethodName := ⟨RX0, "raise", "(JJ)J"⟩
abbrev cX0_insert : ByteArray := prog_2_method_12_code
def yX0_insert : MethodName := ⟨RX0, "insert", "(IJJ)V"⟩
abbrev cX0_takeAt : ByteArray := prog_2_method_13_code
def yX0_takeAt : MethodName := ⟨RX0, "takeAt", "(I)J"⟩
abbrev cX0_takeOut : ByteArray := prog_2_method_14_code
def yX0_takeOut : MethodName := ⟨RX0, "takeOut", "(II)V"⟩
abbrev cX0_move : ByteArray := prog_2_method_15_code
def yX0_move : MethodName := ⟨RX0, "move", "(II)V"⟩
abbrev cX0_shorten : ByteArray := prog_2_method_16_code
def yX0_shorten : MethodName := ⟨RX0, "shorten", "(I)V"⟩
abbrev cX0_groups : ByteArray := prog_2_method_17_code
def yX0_groups : MethodName := ⟨RX0, "groups", "(I)I"⟩
abbrev cX0_isInside : ByteArray := prog_2_method_18_code
def yX0_isInside : MethodName := ⟨RX0, "isInside", "(I)Z"⟩
abbrev cX0_isKeyAt : ByteArray := prog_2_method_19_code
def yX0_isKeyAt : MethodName := ⟨RX0, "isKeyAt", "(IJ)Z"⟩
def RX1 : String := "KeyHall"
def TX1 : u_T := fun k => match k with
  | 0 => ("KeyHall", "counts", "LKeyHall$Sorted;", true)
  | 1 => ("KeyHall", "coming", "LKeyHall$Sorted;", true)
  | 2 => ("KeyHall", "rising", "LKeyHall$Sorted;", true)
  | 3 => ("KeyHall", "lines", "LKeyHall$Sorted;", true)
  | 4 => ("KeyHall", "table", "LKeyHall$Sorted;", true)
  | 5 => ("KeyHall", "points", "LKeyHall$Sorted;", false)
  | 6 => ("KeyHall", "tally", "LKeyHall$Sorted;", false)
  | 7 => ("KeyHall", "tape", "J", false)
  | _ => ("KeyHall", "turn", "J", false)
def tyX1 : Nat → FieldType := fun k => match k with
  | 0 => .object "KeyHall$Sorted"
  | 1 => .object "KeyHall$Sorted"
  | 2 => .object "KeyHall$Sorted"
  | 3 => .object "KeyHall$Sorted"
  | 4 => .object "KeyHall$Sorted"
  | 5 => .object "KeyHall$Sorted"
  | 6 => .object "KeyHall$Sorted"
  | 7 => .long
  | _ => .long
abbrev wsX10 : List Cond := u_ws RX1 TX1 9
theorem nmX1 : ∀ a, a < 9 → ∀ b, b < 9 → a ≠ b → (TX1 a).2.1 ≠ (TX1 b).2.1 := by decide +kernel
theorem tyX1_ok : ∀ k, k < 9 → parseFieldDescriptor (TX1 k).2.2.1 = some (tyX1 k) := by decide +kernel
abbrev cX1_init : ByteArray := prog_1_method_1_code
def yX1_init : MethodName := ⟨RX1, "<init>", "(I)V"⟩
abbrev cX1_add : ByteArray := prog_1_method_2_code
def yX1_add : MethodName := ⟨RX1, "add", "(III)J"⟩
abbrev cX1_count : ByteArray := prog_1_method_3_code
def yX1_count : MethodName := ⟨RX1, "count", "(II)J"⟩
abbrev cX1_drop : ByteArray := prog_1_method_4_code
def yX1_drop : MethodName := ⟨RX1, "drop", "(II)J"⟩
abbrev cX1_total : ByteArray := prog_1_method_5_code
def yX1_total : MethodName := ⟨RX1, "total", "()J"⟩
abbrev cX1_sweep : ByteArray := prog_1_method_6_code
def yX1_sweep : MethodName := ⟨RX1, "sweep", "()I"⟩
abbrev cX1_come : ByteArray := prog_1_method_7_code
def yX1_come : MethodName := ⟨RX1, "come", "(II)Z"⟩
abbrev cX1_leave : ByteArray := prog_1_method_8_code
def yX1_leave : MethodName := ⟨RX1, "leave", "(II)Z"⟩
abbrev cX1_comer : ByteArray := prog_1_method_9_code
def yX1_comer : MethodName := ⟨RX1, "comer", "(IZ)J"⟩
abbrev cX1_retain : ByteArray := prog_1_method_10_code
def yX1_retain : MethodName := ⟨RX1, "retain", "()I"⟩
abbrev cX1_rank : ByteArray := prog_1_method_11_code
def yX1_rank : MethodName := ⟨RX1, "rank", "(III)J"⟩
abbrev cX1_near : ByteArray := prog_1_method_12_code
def yX1_near : MethodName := ⟨RX1, "near", "(IIZZ)J"⟩
abbrev cX1_poll : ByteArray := prog_1_method_13_code
def yX1_poll : MethodName := ⟨RX1, "poll", "(Z)J"⟩
abbrev cX1_between : ByteArray := prog_1_method_14_code
def yX1_between : MethodName := ⟨RX1, "between", "(IIII)I"⟩
abbrev cX1_sign : ByteArray := prog_1_method_15_code
def yX1_sign : MethodName := ⟨RX1, "sign", "(I)I"⟩
abbrev cX1_erase : ByteArray := prog_1_method_16_code
def yX1_erase : MethodName := ⟨RX1, "erase", "()I"⟩
abbrev cX1_line : ByteArray := prog_1_method_17_code
def yX1_line : MethodName := ⟨RX1, "line", "(I)I"⟩
abbrev cX1_read : ByteArray := prog_1_method_18_code
def yX1_read : MethodName := ⟨RX1, "read", "(I)J"⟩
abbrev cX1_next : ByteArray := prog_1_method_19_code
def yX1_next : MethodName := ⟨RX1, "next", "()I"⟩
abbrev cX1_letter : ByteArray := prog_1_method_20_code
def yX1_letter : MethodName := ⟨RX1, "letter", "(I)I"⟩
abbrev cX1_forget : ByteArray := prog_1_method_21_code
def yX1_forget : MethodName := ⟨RX1, "forget", "()I"⟩
abbrev cX1_mark : ByteArray := prog_1_method_22_code
def yX1_mark : MethodName := ⟨RX1, "mark", "(II)I"⟩
abbrev cX1_around : ByteArray := prog_1_method_23_code
def yX1_around : MethodName := ⟨RX1, "around", "(II)I"⟩
abbrev cX1_step : ByteArray := prog_1_method_24_code
def yX1_step : MethodName := ⟨RX1, "step", "()I"⟩
abbrev cX1_put : ByteArray := prog_1_method_25_code
def yX1_put : MethodName := ⟨RX1, "put", "(III)J"⟩
abbrev cX1_get : ByteArray := prog_1_method_26_code
def yX1_get : MethodName := ⟨RX1, "get", "(II)J"⟩
abbrev cX1_end : ByteArray := prog_1_method_27_code
def yX1_end : MethodName := ⟨RX1, "end", "(I)J"⟩
abbrev cX1_cut : ByteArray := prog_1_method_28_code
def yX1_cut : MethodName := ⟨RX1, "cut", "(II)I"⟩
abbrev cX1_size : ByteArray := prog_1_method_29_code
def yX1_size : MethodName := ⟨RX1, "size", "(I)I"⟩
abbrev cX1_pairKey : ByteArray := prog_1_method_30_code
def yX1_pairKey : MethodName := ⟨RX1, "pairKey", "(II)J"⟩
abbrev cX1_firstOf : ByteArray := prog_1_method_31_code
def yX1_firstOf : MethodName := ⟨RX1, "firstOf", "(J)I"⟩
abbrev cX1_secondOf : ByteArray := prog_1_method_32_code
def yX1_secondOf : MethodName := ⟨RX1, "secondOf", "(J)I"⟩
abbrev cX1_hasEvenSum : ByteArray := prog_1_method_33_code
def yX1_hasEvenSum : MethodName := ⟨RX1, "hasEvenSum", "(J)Z"⟩
abbrev cX1_placeOf : ByteArray := prog_1_method_34_code
def yX1_placeOf : MethodName := ⟨RX1, "placeOf", "(I)I"⟩
abbrev cX1_signAt : ByteArray := prog_1_method_35_code
def yX1_signAt : MethodName := ⟨RX1, "signAt", "(JI)I"⟩
abbrev cX1_signsOf : ByteArray := prog_1_method_36_code
def yX1_signsOf : MethodName := ⟨RX1, "signsOf", "(J)I"⟩
abbrev cX1_takeTape : ByteArray := prog_1_method_37_code
def yX1_takeTape : MethodName := ⟨RX1, "takeTape", "()J"⟩
abbrev cX1_tallyAllAround : ByteArray := prog_1_method_38_code
def yX1_tallyAllAround : MethodName := ⟨RX1, "tallyAllAround", "()V"⟩
abbrev cX1_tallyAround : ByteArray := prog_1_method_39_code
def yX1_tallyAround : MethodName := ⟨RX1, "tallyAround", "(II)V"⟩
abbrev cX1_isMarkedThen : ByteArray := prog_1_method_40_code
def yX1_isMarkedThen : MethodName := ⟨RX1, "isMarkedThen", "(JJ)Z"⟩
def RX2 : String := "KeyHallModel$Rows"
def TX2 : u_T := fun k => match k with
  | 0 => ("KeyHallModel$Rows", "a", "[I", false)
  | 1 => ("KeyHallModel$Rows", "b", "[I", false)
  | 2 => ("KeyHallModel$Rows", "v", "[J", false)
  | _ => ("KeyHallModel$Rows", "many", "I", false)
def tyX2 : Nat → FieldType := fun k => match k with
  | 0 => .array .int
  | 1 => .array .int
  | 2 => .array .long
  | _ => .int
abbrev wsX20 : List Cond := u_ws RX2 TX2 4
theorem nmX2 : ∀ a, a < 4 → ∀ b, b < 4 → a ≠ b → (TX2 a).2.1 ≠ (TX2 b).2.1 := by decide +kernel
theorem tyX2_ok : ∀ k, k < 4 → parseFieldDescriptor (TX2 k).2.2.1 = some (tyX2 k) := by decide +kernel
abbrev cX2_init : ByteArray := prog_5_method_1_code
def yX2_init : MethodName := ⟨RX2, "<init>", "()V"⟩
abbrev cX2_find : ByteArray := prog_5_method_2_code
def yX2_find : MethodName := ⟨RX2, "find", "(II)I"⟩
abbrev cX2_add : ByteArray := prog_5_method_3_code
def yX2_add : MethodName := ⟨RX2, "add", "(IIJ)V"⟩
abbrev cX2_remove : ByteArray := prog_5_method_4_code
def yX2_remove : MethodName := ⟨RX2, "remove", "(I)V"⟩
def RX3 : String := "KeyHallModel"
def TX3 : u_T := fun k => match k with
  | 0 => ("KeyHallModel", "counts", "LKeyHallModel$Rows;", true)
  | 1 => ("KeyHallModel", "coming", "LKeyHallModel$Rows;", true)
  | 2 => ("KeyHallModel", "rising", "LKeyHallModel$Rows;", true)
  | 3 => ("KeyHallModel", "points", "LKeyHallModel$Rows;", true)
  | 4 => ("KeyHallModel", "table", "LKeyHallModel$Rows;", true)
  | 5 => ("KeyHallModel", "lines", "LKeyHallModel$Rows;", true)
  | 6 => ("KeyHallModel", "words", "[I", false)
  | 7 => ("KeyHallModel", "tape", "[I", true)
  | 8 => ("KeyHallModel", "wordMany", "I", false)
  | _ => ("KeyHallModel", "tapeMany", "I", false)
def tyX3 : Nat → FieldType := fun k => match k with
  | 0 => .object "KeyHallModel$Rows"
  | 1 => .object "KeyHallModel$Rows"
  | 2 => .object "KeyHallModel$Rows"
  | 3 => .object "KeyHallModel$Rows"
  | 4 => .object "KeyHallModel$Rows"
  | 5 => .object "KeyHallModel$Rows"
  | 6 => .array .int
  | 7 => .array .int
  | 8 => .int
  | _ => .int
abbrev wsX30 : List Cond := u_ws RX3 TX3 10
theorem nmX3 : ∀ a, a < 10 → ∀ b, b < 10 → a ≠ b → (TX3 a).2.1 ≠ (TX3 b).2.1 := by decide +kernel
theorem tyX3_ok : ∀ k, k < 10 → parseFieldDescriptor (TX3 k).2.2.1 = some (tyX3 k) := by decide +kernel
abbrev cX3_init : ByteArray := prog_4_method_1_code
def yX3_init : MethodName := ⟨RX3, "<init>", "(I)V"⟩
abbrev cX3_add : ByteArray := prog_4_method_2_code
def yX3_add : MethodName := ⟨RX3, "add", "(III)J"⟩
abbrev cX3_told : ByteArray := prog_4_method_3_code
def yX3_told : MethodName := ⟨RX3, "told", "(LKeyHallModel$Rows;I)J"⟩
abbrev cX3_count : ByteArray := prog_4_method_4_code
def yX3_count : MethodName := ⟨RX3, "count", "(II)J"⟩
abbrev cX3_drop : ByteArray := prog_4_method_5_code
def yX3_drop : MethodName := ⟨RX3, "drop", "(II)J"⟩
abbrev cX3_total : ByteArray := prog_4_method_6_code
def yX3_total : MethodName := ⟨RX3, "total", "()J"⟩
abbrev cX3_sweep : ByteArray := prog_4_method_7_code
def yX3_sweep : MethodName := ⟨RX3, "sweep", "()I"⟩
abbrev cX3_come : ByteArray := prog_4_method_8_code
def yX3_come : MethodName := ⟨RX3, "come", "(II)Z"⟩
abbrev cX3_leave : ByteArray := prog_4_method_9_code
def yX3_leave : MethodName := ⟨RX3, "leave", "(II)Z"⟩
abbrev cX3_comer : ByteArray := prog_4_method_10_code
def yX3_comer : MethodName := ⟨RX3, "comer", "(IZ)J"⟩
abbrev cX3_retain : ByteArray := prog_4_method_11_code
def yX3_retain : MethodName := ⟨RX3, "retain", "()I"⟩
abbrev cX3_order : ByteArray := prog_4_method_12_code
def yX3_order : MethodName := ⟨RX3, "order", "(IIII)I"⟩
abbrev cX3_rank : ByteArray := prog_4_method_13_code
def yX3_rank : MethodName := ⟨RX3, "rank", "(III)J"⟩
abbrev cX3_nearest : ByteArray := prog_4_method_14_code
def yX3_nearest : MethodName := ⟨RX3, "nearest", "(IIZZZ)I"⟩
abbrev cX3_near : ByteArray := prog_4_method_15_code
def yX3_near : MethodName := ⟨RX3, "near", "(IIZZ)J"⟩
abbrev cX3_poll : ByteArray := prog_4_method_16_code
def yX3_poll : MethodName := ⟨RX3, "poll", "(Z)J"⟩
abbrev cX3_between : ByteArray := prog_4_method_17_code
def yX3_between : MethodName := ⟨RX3, "between", "(IIII)I"⟩
abbrev cX3_sign : ByteArray := prog_4_method_18_code
def yX3_sign : MethodName := ⟨RX3, "sign", "(I)I"⟩
abbrev cX3_erase : ByteArray := prog_4_method_19_code
def yX3_erase : MethodName := ⟨RX3, "erase", "()I"⟩
abbrev cX3_signOf : ByteArray := prog_4_method_20_code
def yX3_signOf : MethodName := ⟨RX3, "signOf", "(II)I"⟩
abbrev cX3_tapeSign : ByteArray := prog_4_method_21_code
def yX3_tapeSign : MethodName := ⟨RX3, "tapeSign", "(I)I"⟩
abbrev cX3_against : ByteArray := prog_4_method_22_code
def yX3_against : MethodName := ⟨RX3, "against", "(I)I"⟩
abbrev cX3_wordOfTape : ByteArray := prog_4_method_23_code
def yX3_wordOfTape : MethodName := ⟨RX3, "wordOfTape", "()I"⟩
abbrev cX3_numbers : ByteArray := prog_4_method_24_code
def yX3_numbers : MethodName := ⟨RX3, "numbers", "(I)I"⟩
abbrev cX3_line : ByteArray := prog_4_method_25_code
def yX3_line : MethodName := ⟨RX3, "line", "(I)I"⟩
abbrev cX3_read : ByteArray := prog_4_method_26_code
def yX3_read : MethodName := ⟨RX3, "read", "(I)J"⟩
abbrev cX3_next : ByteArray := prog_4_method_27_code
def yX3_next : MethodName := ⟨RX3, "next", "()I"⟩
abbrev cX3_before : ByteArray := prog_4_method_28_code
def yX3_before : MethodName := ⟨RX3, "before", "(II)Z"⟩
abbrev cX3_letter : ByteArray := prog_4_method_29_code
def yX3_letter : MethodName := ⟨RX3, "letter", "(I)I"⟩
abbrev cX3_forget : ByteArray := prog_4_method_30_code
def yX3_forget : MethodName := ⟨RX3, "forget", "()I"⟩
abbrev cX3_mark : ByteArray := prog_4_method_31_code
def yX3_mark : MethodName := ⟨RX3, "mark", "(II)I"⟩
abbrev cX3_around : ByteArray := prog_4_method_32_code
def yX3_around : MethodName := ⟨RX3, "around", "(II)I"⟩
abbrev cX3_step : ByteArray := prog_4_method_33_code
def yX3_step : MethodName := ⟨RX3, "step", "()I"⟩
abbrev cX3_put : ByteArray := prog_4_method_34_code
def yX3_put : MethodName := ⟨RX3, "put", "(III)J"⟩
abbrev cX3_get : ByteArray := prog_4_method_35_code
def yX3_get : MethodName := ⟨RX3, "get", "(II)J"⟩
abbrev cX3_end : ByteArray := prog_4_method_36_code
def yX3_end : MethodName := ⟨RX3, "end", "(I)J"⟩
abbrev cX3_rows : ByteArray := prog_4_method_37_code
def yX3_rows : MethodName := ⟨RX3, "rows", "()I"⟩
abbrev cX3_cut : ByteArray := prog_4_method_38_code
def yX3_cut : MethodName := ⟨RX3, "cut", "(II)I"⟩
abbrev cX3_size : ByteArray := prog_4_method_39_code
def yX3_size : MethodName := ⟨RX3, "size", "(I)I"⟩
def RJ9 : String := "java/lang/Math"
def TJ9 : u_T := fun k => match k with
  | _ => ("", "", "", false)
def tyJ9 : Nat → FieldType := fun k => match k with
  | _ => .int
abbrev wsJ90 : List Cond := u_ws RJ9 TJ9 0
theorem nmJ9 : ∀ a, a < 0 → ∀ b, b < 0 → a ≠ b → (TJ9 a).2.1 ≠ (TJ9 b).2.1 := by decide +kernel
theorem tyJ9_ok : ∀ k, k < 0 → parseFieldDescriptor (TJ9 k).2.2.1 = some (tyJ9 k) := by decide +kernel
abbrev cJ9_max_7cf53 : ByteArray := prog_6_method_65_code
def yJ9_max_7cf53 : MethodName := ⟨RJ9, "max", "(II)I"⟩
abbrev cJ9_min_7cf53 : ByteArray := prog_6_method_69_code
def yJ9_min_7cf53 : MethodName := ⟨RJ9, "min", "(II)I"⟩
def RJ10 : String := "java/lang/System"
def TJ10 : u_T := fun k => match k with
  | _ => ("", "", "", false)
def tyJ10 : Nat → FieldType := fun k => match k with
  | _ => .int
abbrev wsJ100 : List Cond := u_ws RJ10 TJ10 0
theorem nmJ10 : ∀ a, a < 0 → ∀ b, b < 0 → a ≠ b → (TJ10 a).2.1 ≠ (TJ10 b).2.1 := by decide +kernel
theorem tyJ10_ok : ∀ k, k < 0 → parseFieldDescriptor (TJ10 k).2.2.1 = some (tyJ10 k) := by decide +kernel
def RL : String := "KeyHallLaw"
abbrev cL_cell : ByteArray := method_2_code
def yL_cell : MethodName := ⟨RL, "cell", "([II)I"⟩
abbrev cL_law : ByteArray := code
def yL_law : MethodName := ⟨RL, "law", "([I)Z"⟩
def wsX0_init : List Cond := .code yX0_init cX0_init 3 none :: ([.methodLink RX0 5 objectInit, .instanceMethod objectInit, .code objectInit ⟨#[0xb1]⟩ 1 none, .fieldLink RX0 11 "KeyHall$Sorted" "held" "I", .methodLink RX0 15 Lib.Math.min.name, .static Lib.Math.min.name, .initialized "java/lang/Math", .code Lib.Math.min.name Lib.Math.min.code 2 (some .int), .methodLink RX0 21 Lib.Math.max.name, .static Lib.Math.max.name, .code Lib.Math.max.name Lib.Math.max.code 2 (some .int), .arrayClass .long, .fieldLink RX0 24 "KeyHall$Sorted" "keys" "[J", .fieldLink RX0 28 "KeyHall$Sorted" "values" "[J"] ++ wsX00)
def wsX0_held : List Cond := .code yX0_held cX0_held 1 (some .int) :: ([.fieldLink RX0 11 "KeyHall$Sorted" "held" "I"] ++ wsX00)
def wsX0_below : List Cond := .code yX0_below cX0_below 5 (some .int) :: ([.fieldLink RX0 11 "KeyHall$Sorted" "held" "I", .fieldLink RX0 24 "KeyHall$Sorted" "keys" "[J"] ++ wsX00)
def wsX0_upTo : List Cond := .code yX0_upTo cX0_upTo 3 (some .int) :: ([.constantLong RX0 33 (9223372036854775807), .fieldLink RX0 11 "KeyHall$Sorted" "held" "I", .methodLink RX0 35 yX0_below, .instanceMethod yX0_below, .selects RX0 yX0_below yX0_below, .initialized RX0, .code yX0_below cX0_below 5 (some .int), .fieldLink RX0 24 "KeyHall$Sorted" "keys" "[J"] ++ wsX00)
def wsX0_isInside : List Cond := .code yX0_isInside cX0_isInside 2 (some .boolean) :: ([.fieldLink RX0 11 "KeyHall$Sorted" "held" "I"] ++ wsX00)
def wsX0_isKeyAt : List Cond := .code yX0_isKeyAt cX0_isKeyAt 4 (some .boolean) :: ([.fieldLink RX0 24 "KeyHall$Sorted" "keys" "[J", .methodLink RX0 46 yX0_isInside, .instanceMethod yX0_isInside, .selects RX0 yX0_isInside yX0_isInside, .initialized RX0, .code yX0_isInside cX0_isInside 2 (some .boolean), .fieldLink RX0 11 "KeyHall$Sorted" "held" "I"] ++ wsX00)
def wsX0_find : List Cond := .code yX0_find cX0_find 4 (some .int) :: ([.methodLink RX0 35 yX0_below, .instanceMethod yX0_below, .selects RX0 yX0_below yX0_below, .initialized RX0, .code yX0_below cX0_below 5 (some .int), .fieldLink RX0 11 "KeyHall$Sorted" "held" "I", .fieldLink RX0 24 "KeyHall$Sorted" "keys" "[J", .methodLink RX0 39 yX0_isKeyAt, .instanceMethod yX0_isKeyAt, .selects RX0 yX0_isKeyAt yX0_isKeyAt, .code yX0_isKeyAt cX0_isKeyAt 4 (some .boolean), .methodLink RX0 46 yX0_isInside, .instanceMethod yX0_isInside, .selects RX0 yX0_isInside yX0_isInside, .code yX0_isInside cX0_isInside 2 (some .boolean)] ++ wsX00)
def wsX0_holds : List Cond := .code yX0_holds cX0_holds 3 (some .boolean) :: ([.methodLink RX0 43 yX0_find, .instanceMethod yX0_find, .selects RX0 yX0_find yX0_find, .initialized RX0, .code yX0_find cX0_find 4 (some .int), .methodLink RX0 35 yX0_below, .instanceMethod yX0_below, .selects RX0 yX0_below yX0_below, .code yX0_below cX0_below 5 (some .int), .fieldLink RX0 11 "KeyHall$Sorted" "held" "I", .fieldLink RX0 24 "KeyHall$Sorted" "keys" "[J", .methodLink RX0 39 yX0_isKeyAt, .instanceMethod yX0_isKeyAt, .selects RX0 yX0_isKeyAt yX0_isKeyAt, .code yX0_isKeyAt cX0_isKeyAt 4 (some .boolean), .methodLink RX0 46 yX0_isInside, .instanceMethod yX0_isInside, .selects RX0 yX0_isInside yX0_isInside, .code yX0_isInside cX0_isInside 2 (some .boolean)] ++ wsX00)
def wsX0_findValue : List Cond := .code yX0_findValue cX0_findValue 4 (some .int) :: ([.fieldLink RX0 11 "KeyHall$Sorted" "held" "I", .fieldLink RX0 28 "KeyHall$Sorted" "values" "[J"] ++ wsX00)
def wsX0_keyAt : List Cond := .code yX0_keyAt cX0_keyAt 2 (some .long) :: ([.fieldLink RX0 24 "KeyHall$Sorted" "keys" "[J", .constantLong RX0 50 (4611686018427387904), .methodLink RX0 46 yX0_isInside, .instanceMethod yX0_isInside, .selects RX0 yX0_isInside yX0_isInside, .initialized RX0, .code yX0_isInside cX0_isInside 2 (some .boolean), .fieldLink RX0 11 "KeyHall$Sorted" "held" "I"] ++ wsX00)
def wsX0_valueAt : List Cond := .code yX0_valueAt cX0_valueAt 2 (some .long) :: ([.fieldLink RX0 28 "KeyHall$Sorted" "values" "[J", .constantLong RX0 50 (4611686018427387904), .methodLink RX0 46 yX0_isInside, .instanceMethod yX0_isInside, .selects RX0 yX0_isInside yX0_isInside, .initialized RX0, .code yX0_isInside cX0_isInside 2 (some .boolean), .fieldLink RX0 11 "KeyHall$Sorted" "held" "I"] ++ wsX00)
def wsX0_insert : List Cond := .code yX0_insert cX0_insert 6 none :: ([.fieldLink RX0 11 "KeyHall$Sorted" "held" "I", .fieldLink RX0 24 "KeyHall$Sorted" "keys" "[J", .methodLink RX0 56 arraycopyName, .native arraycopyName, .static arraycopyName, .initialized "java/lang/System", .fieldLink RX0 28 "KeyHall$Sorted" "values" "[J"] ++ wsX00)
def wsX0_store_r1 : List Cond := [Cond.constantLong RX0 50 (4611686018427387904), Cond.fieldLink RX0 28 "KeyHall$Sorted" "values" "[J", Cond.methodLink RX0 35 yX0_below, Cond.instanceMethod yX0_below, Cond.selects RX0 yX0_below yX0_below, Cond.initialized RX0, Cond.code yX0_below cX0_below 5 (some .int), Cond.fieldLink RX0 11 "KeyHall$Sorted" "held" "I", Cond.fieldLink RX0 24 "KeyHall$Sorted" "keys" "[J", Cond.methodLink RX0 39 yX0_isKeyAt, Cond.instanceMethod yX0_isKeyAt, Cond.selects RX0 yX0_isKeyAt yX0_isKeyAt, Cond.code yX0_isKeyAt cX0_isKeyAt 4 (some .boolean), Cond.methodLink RX0 46 yX0_isInside, Cond.instanceMethod yX0_isInside, Cond.selects RX0 yX0_isInside yX0_isInside, Cond.code yX0_isInside cX0_isInside 2 (some .boolean), Cond.methodLink RX0 52 yX0_insert, Cond.instanceMethod yX0_insert, Cond.selects RX0 yX0_insert yX0_insert, Cond.code yX0_insert cX0_insert 6 none, Cond.methodLink RX0 56 arraycopyName, Cond.native arraycopyName, Cond.static arraycopyName]
def wsX0_store_r2 : List Cond := [Cond.initialized "java/lang/System"]
def wsX0_store : List Cond := .code yX0_store cX0_store 8 (some .long) :: ((wsX0_store_r1 ++ wsX0_store_r2) ++ wsX00)
def wsX0_raise : List Cond := .code yX0_raise cX0_raise 6 (some .long) :: ([.fieldLink RX0 28 "KeyHall$Sorted" "values" "[J", .methodLink RX0 35 yX0_below, .instanceMethod yX0_below, .selects RX0 yX0_below yX0_below, .initialized RX0, .code yX0_below cX0_below 5 (some .int), .fieldLink RX0 11 "KeyHall$Sorted" "held" "I", .fieldLink RX0 24 "KeyHall$Sorted" "keys" "[J", .methodLink RX0 39 yX0_isKeyAt, .instanceMethod yX0_isKeyAt, .selects RX0 yX0_isKeyAt yX0_isKeyAt, .code yX0_isKeyAt cX0_isKeyAt 4 (some .boolean), .methodLink RX0 46 yX0_isInside, .instanceMethod yX0_isInside, .selects RX0 yX0_isInside yX0_isInside, .code yX0_isInside cX0_isInside 2 (some .boolean), .methodLink RX0 52 yX0_insert, .instanceMethod yX0_insert, .selects RX0 yX0_insert yX0_insert, .code yX0_insert cX0_insert 6 none, .methodLink RX0 56 arraycopyName, .native arraycopyName, .static arraycopyName, .initialized "java/lang/System"] ++ wsX00)
def wsX0_takeOut : List Cond := .code yX0_takeOut cX0_takeOut 3 none :: ([.fieldLink RX0 11 "KeyHall$Sorted" "held" "I", .fieldLink RX0 24 "KeyHall$Sorted" "keys" "[J", .methodLink RX0 56 arraycopyName, .native arraycopyName, .static arraycopyName, .initialized "java/lang/System", .fieldLink RX0 28 "KeyHall$Sorted" "values" "[J"] ++ wsX00)
def wsX0_takeAt : List Cond := .code yX0_takeAt cX0_takeAt 4 (some .long) :: ([.methodLink RX0 62 yX0_valueAt, .instanceMethod yX0_valueAt, .selects RX0 yX0_valueAt yX0_valueAt, .initialized RX0, .code yX0_valueAt cX0_valueAt 2 (some .long), .fieldLink RX0 28 "KeyHall$Sorted" "values" "[J", .constantLong RX0 50 (4611686018427387904), .methodLink RX0 46 yX0_isInside, .instanceMethod yX0_isInside, .selects RX0 yX0_isInside yX0_isInside, .code yX0_isInside cX0_isInside 2 (some .boolean), .fieldLink RX0 11 "KeyHall$Sorted" "held" "I", .methodLink RX0 66 yX0_takeOut, .instanceMethod yX0_takeOut, .selects RX0 yX0_takeOut yX0_takeOut, .code yX0_takeOut cX0_takeOut 3 none, .fieldLink RX0 24 "KeyHall$Sorted" "keys" "[J", .methodLink RX0 56 arraycopyName, .native arraycopyName, .static arraycopyName, .initialized "java/lang/System"] ++ wsX00)
def wsX0_move : List Cond := .code yX0_move cX0_move 3 none :: ([.fieldLink RX0 24 "KeyHall$Sorted" "keys" "[J", .fieldLink RX0 28 "KeyHall$Sorted" "values" "[J", .methodLink RX0 46 yX0_isInside, .instanceMethod yX0_isInside, .selects RX0 yX0_isInside yX0_isInside, .initialized RX0, .code yX0_isInside cX0_isInside 2 (some .boolean), .fieldLink RX0 11 "KeyHall$Sorted" "held" "I"] ++ wsX00)
def wsX0_shorten : List Cond := .code yX0_shorten cX0_shorten 2 none :: ([.fieldLink RX0 11 "KeyHall$Sorted" "held" "I"] ++ wsX00)
def wsX0_groups : List Cond := .code yX0_groups cX0_groups 4 (some .int) :: ([.fieldLink RX0 11 "KeyHall$Sorted" "held" "I", .fieldLink RX0 24 "KeyHall$Sorted" "keys" "[J"] ++ wsX00)
def wsX1_init_r1 : List Cond := [Cond.methodLink RX1 3 objectInit, Cond.instanceMethod objectInit, Cond.code objectInit ⟨#[0xb1]⟩ 1 none, Cond.classLink RX1 9 RX0, Cond.instantiable RX0 3, Cond.initialized RX0, Cond.fieldLink RX1 14 "KeyHall" "counts" "LKeyHall$Sorted;", Cond.fieldLink RX1 18 "KeyHall" "coming" "LKeyHall$Sorted;", Cond.fieldLink RX1 21 "KeyHall" "rising" "LKeyHall$Sorted;", Cond.fieldLink RX1 24 "KeyHall" "lines" "LKeyHall$Sorted;", Cond.fieldLink RX1 27 "KeyHall" "table" "LKeyHall$Sorted;", Cond.fieldLink RX1 30 "KeyHall" "points" "LKeyHall$Sorted;", Cond.fieldLink RX1 33 "KeyHall" "tally" "LKeyHall$Sorted;", Cond.fieldLink RX1 36 "KeyHall" "tape" "J", Cond.fieldLink RX1 40 "KeyHall" "turn" "J", Cond.methodLink RX1 11 yX0_init, Cond.instanceMethod yX0_init, Cond.code yX0_init cX0_init 3 none, Cond.methodLink RX0 5 objectInit, Cond.fieldLink RX0 11 "KeyHall$Sorted" "held" "I", Cond.methodLink RX0 15 Lib.Math.min.name, Cond.static Lib.Math.min.name, Cond.initialized "java/lang/Math", Cond.code Lib.Math.min.name Lib.Math.min.code 2 (some .int)]
def wsX1_init_r2 : List Cond := [Cond.methodLink RX0 21 Lib.Math.max.name, Cond.static Lib.Math.max.name, Cond.code Lib.Math.max.name Lib.Math.max.code 2 (some .int), Cond.arrayClass .long, Cond.fieldLink RX0 24 "KeyHall$Sorted" "keys" "[J", Cond.fieldLink RX0 28 "KeyHall$Sorted" "values" "[J"]
def wsX1_init : List Cond := .code yX1_init cX1_init 2 none :: ((wsX1_init_r1 ++ wsX1_init_r2) ++ wsX00 ++ wsX10)
def wsX1_pairKey : List Cond := .code yX1_pairKey cX1_pairKey 2 (some .long) :: ([.constantLong RX1 142 (-2147483648)])
def wsX1_add_r1 : List Cond := [Cond.fieldLink RX1 14 "KeyHall" "counts" "LKeyHall$Sorted;", Cond.methodLink RX1 43 yX1_pairKey, Cond.static yX1_pairKey, Cond.initialized RX1, Cond.code yX1_pairKey cX1_pairKey 2 (some .long), Cond.constantLong RX1 142 (-2147483648), Cond.methodLink RX1 47 yX0_raise, Cond.instanceMethod yX0_raise, Cond.selects RX0 yX0_raise yX0_raise, Cond.initialized RX0, Cond.code yX0_raise cX0_raise 6 (some .long), Cond.fieldLink RX0 28 "KeyHall$Sorted" "values" "[J", Cond.methodLink RX0 35 yX0_below, Cond.instanceMethod yX0_below, Cond.selects RX0 yX0_below yX0_below, Cond.code yX0_below cX0_below 5 (some .int), Cond.fieldLink RX0 11 "KeyHall$Sorted" "held" "I", Cond.fieldLink RX0 24 "KeyHall$Sorted" "keys" "[J", Cond.methodLink RX0 39 yX0_isKeyAt, Cond.instanceMethod yX0_isKeyAt, Cond.selects RX0 yX0_isKeyAt yX0_isKeyAt, Cond.code yX0_isKeyAt cX0_isKeyAt 4 (some .boolean), Cond.methodLink RX0 46 yX0_isInside, Cond.instanceMethod yX0_isInside]
def wsX1_add_r2 : List Cond := [Cond.selects RX0 yX0_isInside yX0_isInside, Cond.code yX0_isInside cX0_isInside 2 (some .boolean), Cond.methodLink RX0 52 yX0_insert, Cond.instanceMethod yX0_insert, Cond.selects RX0 yX0_insert yX0_insert, Cond.code yX0_insert cX0_insert 6 none, Cond.methodLink RX0 56 arraycopyName, Cond.native arraycopyName, Cond.static arraycopyName, Cond.initialized "java/lang/System"]
def wsX1_add : List Cond := .code yX1_add cX1_add 4 (some .long) :: ((wsX1_add_r1 ++ wsX1_add_r2) ++ wsX10 ++ wsX00)
def wsX1_count_r1 : List Cond := [Cond.fieldLink RX1 14 "KeyHall" "counts" "LKeyHall$Sorted;", Cond.methodLink RX1 43 yX1_pairKey, Cond.static yX1_pairKey, Cond.initialized RX1, Cond.code yX1_pairKey cX1_pairKey 2 (some .long), Cond.constantLong RX1 142 (-2147483648), Cond.methodLink RX1 51 yX0_find, Cond.instanceMethod yX0_find, Cond.selects RX0 yX0_find yX0_find, Cond.initialized RX0, Cond.code yX0_find cX0_find 4 (some .int), Cond.methodLink RX0 35 yX0_below, Cond.instanceMethod yX0_below, Cond.selects RX0 yX0_below yX0_below, Cond.code yX0_below cX0_below 5 (some .int), Cond.fieldLink RX0 11 "KeyHall$Sorted" "held" "I", Cond.fieldLink RX0 24 "KeyHall$Sorted" "keys" "[J", Cond.methodLink RX0 39 yX0_isKeyAt, Cond.instanceMethod yX0_isKeyAt, Cond.selects RX0 yX0_isKeyAt yX0_isKeyAt, Cond.code yX0_isKeyAt cX0_isKeyAt 4 (some .boolean), Cond.methodLink RX0 46 yX0_isInside, Cond.instanceMethod yX0_isInside, Cond.selects RX0 yX0_isInside yX0_isInside]
def wsX1_count_r2 : List Cond := [Cond.code yX0_isInside cX0_isInside 2 (some .boolean), Cond.methodLink RX1 55 yX0_valueAt, Cond.instanceMethod yX0_valueAt, Cond.selects RX0 yX0_valueAt yX0_valueAt, Cond.code yX0_valueAt cX0_valueAt 2 (some .long), Cond.fieldLink RX0 28 "KeyHall$Sorted" "values" "[J", Cond.constantLong RX0 50 (4611686018427387904)]
def wsX1_count : List Cond := .code yX1_count cX1_count 3 (some .long) :: ((wsX1_count_r1 ++ wsX1_count_r2) ++ wsX10 ++ wsX00)
def wsX1_drop_r1 : List Cond := [Cond.fieldLink RX1 14 "KeyHall" "counts" "LKeyHall$Sorted;", Cond.methodLink RX1 43 yX1_pairKey, Cond.static yX1_pairKey, Cond.initialized RX1, Cond.code yX1_pairKey cX1_pairKey 2 (some .long), Cond.constantLong RX1 142 (-2147483648), Cond.methodLink RX1 51 yX0_find, Cond.instanceMethod yX0_find, Cond.selects RX0 yX0_find yX0_find, Cond.initialized RX0, Cond.code yX0_find cX0_find 4 (some .int), Cond.methodLink RX0 35 yX0_below, Cond.instanceMethod yX0_below, Cond.selects RX0 yX0_below yX0_below, Cond.code yX0_below cX0_below 5 (some .int), Cond.fieldLink RX0 11 "KeyHall$Sorted" "held" "I", Cond.fieldLink RX0 24 "KeyHall$Sorted" "keys" "[J", Cond.methodLink RX0 39 yX0_isKeyAt, Cond.instanceMethod yX0_isKeyAt, Cond.selects RX0 yX0_isKeyAt yX0_isKeyAt, Cond.code yX0_isKeyAt cX0_isKeyAt 4 (some .boolean), Cond.methodLink RX0 46 yX0_isInside, Cond.instanceMethod yX0_isInside, Cond.selects RX0 yX0_isInside yX0_isInside]
def wsX1_drop_r2 : List Cond := [Cond.code yX0_isInside cX0_isInside 2 (some .boolean), Cond.methodLink RX1 59 yX0_takeAt, Cond.instanceMethod yX0_takeAt, Cond.selects RX0 yX0_takeAt yX0_takeAt, Cond.code yX0_takeAt cX0_takeAt 4 (some .long), Cond.methodLink RX0 62 yX0_valueAt, Cond.instanceMethod yX0_valueAt, Cond.selects RX0 yX0_valueAt yX0_valueAt, Cond.code yX0_valueAt cX0_valueAt 2 (some .long), Cond.fieldLink RX0 28 "KeyHall$Sorted" "values" "[J", Cond.constantLong RX0 50 (4611686018427387904), Cond.methodLink RX0 66 yX0_takeOut, Cond.instanceMethod yX0_takeOut, Cond.selects RX0 yX0_takeOut yX0_takeOut, Cond.code yX0_takeOut cX0_takeOut 3 none, Cond.methodLink RX0 56 arraycopyName, Cond.native arraycopyName, Cond.static arraycopyName, Cond.initialized "java/lang/System"]
def wsX1_drop : List Cond := .code yX1_drop cX1_drop 3 (some .long) :: ((wsX1_drop_r1 ++ wsX1_drop_r2) ++ wsX10 ++ wsX00)
def wsX1_firstOf : List Cond := .code yX1_firstOf cX1_firstOf 2 (some .int) :: ([])
def wsX1_secondOf : List Cond := .code yX1_secondOf cX1_secondOf 2 (some .int) :: ([.constant RX1 144 (-2147483648)])
def wsX1_total_r1 : List Cond := [Cond.fieldLink RX1 14 "KeyHall" "counts" "LKeyHall$Sorted;", Cond.constantLong RX1 69 (31), Cond.methodLink RX1 62 yX0_held, Cond.instanceMethod yX0_held, Cond.selects RX0 yX0_held yX0_held, Cond.initialized RX0, Cond.code yX0_held cX0_held 1 (some .int), Cond.fieldLink RX0 11 "KeyHall$Sorted" "held" "I", Cond.methodLink RX1 66 yX0_keyAt, Cond.instanceMethod yX0_keyAt, Cond.selects RX0 yX0_keyAt yX0_keyAt, Cond.code yX0_keyAt cX0_keyAt 2 (some .long), Cond.fieldLink RX0 24 "KeyHall$Sorted" "keys" "[J", Cond.constantLong RX0 50 (4611686018427387904), Cond.methodLink RX0 46 yX0_isInside, Cond.instanceMethod yX0_isInside, Cond.selects RX0 yX0_isInside yX0_isInside, Cond.code yX0_isInside cX0_isInside 2 (some .boolean), Cond.methodLink RX1 71 yX1_firstOf, Cond.static yX1_firstOf, Cond.initialized RX1, Cond.code yX1_firstOf cX1_firstOf 2 (some .int), Cond.methodLink RX1 74 yX1_secondOf, Cond.static yX1_secondOf]
def wsX1_total_r2 : List Cond := [Cond.code yX1_secondOf cX1_secondOf 2 (some .int), Cond.constant RX1 144 (-2147483648), Cond.methodLink RX1 55 yX0_valueAt, Cond.instanceMethod yX0_valueAt, Cond.selects RX0 yX0_valueAt yX0_valueAt, Cond.code yX0_valueAt cX0_valueAt 2 (some .long), Cond.fieldLink RX0 28 "KeyHall$Sorted" "values" "[J"]
def wsX1_total : List Cond := .code yX1_total cX1_total 6 (some .long) :: ((wsX1_total_r1 ++ wsX1_total_r2) ++ wsX10 ++ wsX00)
def wsX1_hasEvenSum : List Cond := .code yX1_hasEvenSum cX1_hasEvenSum 2 (some .boolean) :: ([.methodLink RX1 71 yX1_firstOf, .static yX1_firstOf, .initialized RX1, .code yX1_firstOf cX1_firstOf 2 (some .int), .methodLink RX1 74 yX1_secondOf, .static yX1_secondOf, .code yX1_secondOf cX1_secondOf 2 (some .int), .constant RX1 144 (-2147483648)])
def wsX1_sweep_r1 : List Cond := [Cond.fieldLink RX1 14 "KeyHall" "counts" "LKeyHall$Sorted;", Cond.methodLink RX1 62 yX0_held, Cond.instanceMethod yX0_held, Cond.selects RX0 yX0_held yX0_held, Cond.initialized RX0, Cond.code yX0_held cX0_held 1 (some .int), Cond.fieldLink RX0 11 "KeyHall$Sorted" "held" "I", Cond.methodLink RX1 66 yX0_keyAt, Cond.instanceMethod yX0_keyAt, Cond.selects RX0 yX0_keyAt yX0_keyAt, Cond.code yX0_keyAt cX0_keyAt 2 (some .long), Cond.fieldLink RX0 24 "KeyHall$Sorted" "keys" "[J", Cond.constantLong RX0 50 (4611686018427387904), Cond.methodLink RX0 46 yX0_isInside, Cond.instanceMethod yX0_isInside, Cond.selects RX0 yX0_isInside yX0_isInside, Cond.code yX0_isInside cX0_isInside 2 (some .boolean), Cond.methodLink RX1 77 yX1_hasEvenSum, Cond.static yX1_hasEvenSum, Cond.initialized RX1, Cond.code yX1_hasEvenSum cX1_hasEvenSum 2 (some .boolean), Cond.methodLink RX1 71 yX1_firstOf, Cond.static yX1_firstOf, Cond.code yX1_firstOf cX1_firstOf 2 (some .int)]
def wsX1_sweep_r2 : List Cond := [Cond.methodLink RX1 74 yX1_secondOf, Cond.static yX1_secondOf, Cond.code yX1_secondOf cX1_secondOf 2 (some .int), Cond.constant RX1 144 (-2147483648), Cond.methodLink RX1 81 yX0_move, Cond.instanceMethod yX0_move, Cond.selects RX0 yX0_move yX0_move, Cond.code yX0_move cX0_move 3 none, Cond.fieldLink RX0 28 "KeyHall$Sorted" "values" "[J", Cond.methodLink RX1 85 yX0_shorten, Cond.instanceMethod yX0_shorten, Cond.selects RX0 yX0_shorten yX0_shorten, Cond.code yX0_shorten cX0_shorten 2 none]
def wsX1_sweep : List Cond := .code yX1_sweep cX1_sweep 4 (some .int) :: ((wsX1_sweep_r1 ++ wsX1_sweep_r2) ++ wsX10 ++ wsX00)
def wsX1_come_r1 : List Cond := [Cond.fieldLink RX1 18 "KeyHall" "coming" "LKeyHall$Sorted;", Cond.fieldLink RX1 40 "KeyHall" "turn" "J", Cond.methodLink RX1 43 yX1_pairKey, Cond.static yX1_pairKey, Cond.initialized RX1, Cond.code yX1_pairKey cX1_pairKey 2 (some .long), Cond.constantLong RX1 142 (-2147483648), Cond.methodLink RX1 88 yX0_findValue, Cond.instanceMethod yX0_findValue, Cond.selects RX0 yX0_findValue yX0_findValue, Cond.initialized RX0, Cond.code yX0_findValue cX0_findValue 4 (some .int), Cond.fieldLink RX0 11 "KeyHall$Sorted" "held" "I", Cond.fieldLink RX0 28 "KeyHall$Sorted" "values" "[J", Cond.methodLink RX1 91 yX0_store, Cond.instanceMethod yX0_store, Cond.selects RX0 yX0_store yX0_store, Cond.code yX0_store cX0_store 8 (some .long), Cond.constantLong RX0 50 (4611686018427387904), Cond.methodLink RX0 35 yX0_below, Cond.instanceMethod yX0_below, Cond.selects RX0 yX0_below yX0_below, Cond.code yX0_below cX0_below 5 (some .int), Cond.fieldLink RX0 24 "KeyHall$Sorted" "keys" "[J"]
def wsX1_come_r2 : List Cond := [Cond.methodLink RX0 39 yX0_isKeyAt, Cond.instanceMethod yX0_isKeyAt, Cond.selects RX0 yX0_isKeyAt yX0_isKeyAt, Cond.code yX0_isKeyAt cX0_isKeyAt 4 (some .boolean), Cond.methodLink RX0 46 yX0_isInside, Cond.instanceMethod yX0_isInside, Cond.selects RX0 yX0_isInside yX0_isInside, Cond.code yX0_isInside cX0_isInside 2 (some .boolean), Cond.methodLink RX0 52 yX0_insert, Cond.instanceMethod yX0_insert, Cond.selects RX0 yX0_insert yX0_insert, Cond.code yX0_insert cX0_insert 6 none, Cond.methodLink RX0 56 arraycopyName, Cond.native arraycopyName, Cond.static arraycopyName, Cond.initialized "java/lang/System"]
def wsX1_come : List Cond := .code yX1_come cX1_come 5 (some .boolean) :: ((wsX1_come_r1 ++ wsX1_come_r2) ++ wsX10 ++ wsX00)
def wsX1_leave_r1 : List Cond := [Cond.fieldLink RX1 18 "KeyHall" "coming" "LKeyHall$Sorted;", Cond.methodLink RX1 43 yX1_pairKey, Cond.static yX1_pairKey, Cond.initialized RX1, Cond.code yX1_pairKey cX1_pairKey 2 (some .long), Cond.constantLong RX1 142 (-2147483648), Cond.methodLink RX1 88 yX0_findValue, Cond.instanceMethod yX0_findValue, Cond.selects RX0 yX0_findValue yX0_findValue, Cond.initialized RX0, Cond.code yX0_findValue cX0_findValue 4 (some .int), Cond.fieldLink RX0 11 "KeyHall$Sorted" "held" "I", Cond.fieldLink RX0 28 "KeyHall$Sorted" "values" "[J", Cond.methodLink RX1 59 yX0_takeAt, Cond.instanceMethod yX0_takeAt, Cond.selects RX0 yX0_takeAt yX0_takeAt, Cond.code yX0_takeAt cX0_takeAt 4 (some .long), Cond.methodLink RX0 62 yX0_valueAt, Cond.instanceMethod yX0_valueAt, Cond.selects RX0 yX0_valueAt yX0_valueAt, Cond.code yX0_valueAt cX0_valueAt 2 (some .long), Cond.constantLong RX0 50 (4611686018427387904), Cond.methodLink RX0 46 yX0_isInside, Cond.instanceMethod yX0_isInside]
def wsX1_leave_r2 : List Cond := [Cond.selects RX0 yX0_isInside yX0_isInside, Cond.code yX0_isInside cX0_isInside 2 (some .boolean), Cond.methodLink RX0 66 yX0_takeOut, Cond.instanceMethod yX0_takeOut, Cond.selects RX0 yX0_takeOut yX0_takeOut, Cond.code yX0_takeOut cX0_takeOut 3 none, Cond.fieldLink RX0 24 "KeyHall$Sorted" "keys" "[J", Cond.methodLink RX0 56 arraycopyName, Cond.native arraycopyName, Cond.static arraycopyName, Cond.initialized "java/lang/System"]
def wsX1_leave : List Cond := .code yX1_leave cX1_leave 4 (some .boolean) :: ((wsX1_leave_r1 ++ wsX1_leave_r2) ++ wsX10 ++ wsX00)
def wsX1_comer_r1 : List Cond := [Cond.fieldLink RX1 18 "KeyHall" "coming" "LKeyHall$Sorted;", Cond.constantLong RX1 94 (4611686018427387904), Cond.methodLink RX1 62 yX0_held, Cond.instanceMethod yX0_held, Cond.selects RX0 yX0_held yX0_held, Cond.initialized RX0, Cond.code yX0_held cX0_held 1 (some .int), Cond.fieldLink RX0 11 "KeyHall$Sorted" "held" "I", Cond.methodLink RX1 55 yX0_valueAt, Cond.instanceMethod yX0_valueAt, Cond.selects RX0 yX0_valueAt yX0_valueAt, Cond.code yX0_valueAt cX0_valueAt 2 (some .long), Cond.fieldLink RX0 28 "KeyHall$Sorted" "values" "[J", Cond.constantLong RX0 50 (4611686018427387904), Cond.methodLink RX0 46 yX0_isInside, Cond.instanceMethod yX0_isInside, Cond.selects RX0 yX0_isInside yX0_isInside, Cond.code yX0_isInside cX0_isInside 2 (some .boolean), Cond.methodLink RX1 74 yX1_secondOf, Cond.static yX1_secondOf, Cond.initialized RX1, Cond.code yX1_secondOf cX1_secondOf 2 (some .int), Cond.constant RX1 144 (-2147483648), Cond.methodLink RX1 71 yX1_firstOf]
def wsX1_comer_r2 : List Cond := [Cond.static yX1_firstOf, Cond.code yX1_firstOf cX1_firstOf 2 (some .int)]
def wsX1_comer : List Cond := .code yX1_comer cX1_comer 5 (some .long) :: ((wsX1_comer_r1 ++ wsX1_comer_r2) ++ wsX10 ++ wsX00)
def wsX1_retain_r1 : List Cond := [Cond.fieldLink RX1 18 "KeyHall" "coming" "LKeyHall$Sorted;", Cond.fieldLink RX1 14 "KeyHall" "counts" "LKeyHall$Sorted;", Cond.methodLink RX1 62 yX0_held, Cond.instanceMethod yX0_held, Cond.selects RX0 yX0_held yX0_held, Cond.initialized RX0, Cond.code yX0_held cX0_held 1 (some .int), Cond.fieldLink RX0 11 "KeyHall$Sorted" "held" "I", Cond.methodLink RX1 55 yX0_valueAt, Cond.instanceMethod yX0_valueAt, Cond.selects RX0 yX0_valueAt yX0_valueAt, Cond.code yX0_valueAt cX0_valueAt 2 (some .long), Cond.fieldLink RX0 28 "KeyHall$Sorted" "values" "[J", Cond.constantLong RX0 50 (4611686018427387904), Cond.methodLink RX0 46 yX0_isInside, Cond.instanceMethod yX0_isInside, Cond.selects RX0 yX0_isInside yX0_isInside, Cond.code yX0_isInside cX0_isInside 2 (some .boolean), Cond.methodLink RX1 96 yX0_holds, Cond.instanceMethod yX0_holds, Cond.selects RX0 yX0_holds yX0_holds, Cond.code yX0_holds cX0_holds 3 (some .boolean), Cond.methodLink RX0 43 yX0_find, Cond.instanceMethod yX0_find]
def wsX1_retain_r2 : List Cond := [Cond.selects RX0 yX0_find yX0_find, Cond.code yX0_find cX0_find 4 (some .int), Cond.methodLink RX0 35 yX0_below, Cond.instanceMethod yX0_below, Cond.selects RX0 yX0_below yX0_below, Cond.code yX0_below cX0_below 5 (some .int), Cond.fieldLink RX0 24 "KeyHall$Sorted" "keys" "[J", Cond.methodLink RX0 39 yX0_isKeyAt, Cond.instanceMethod yX0_isKeyAt, Cond.selects RX0 yX0_isKeyAt yX0_isKeyAt, Cond.code yX0_isKeyAt cX0_isKeyAt 4 (some .boolean), Cond.methodLink RX1 81 yX0_move, Cond.instanceMethod yX0_move, Cond.selects RX0 yX0_move yX0_move, Cond.code yX0_move cX0_move 3 none, Cond.methodLink RX1 85 yX0_shorten, Cond.instanceMethod yX0_shorten, Cond.selects RX0 yX0_shorten yX0_shorten, Cond.code yX0_shorten cX0_shorten 2 none]
def wsX1_retain : List Cond := .code yX1_retain cX1_retain 3 (some .int) :: ((wsX1_retain_r1 ++ wsX1_retain_r2) ++ wsX10 ++ wsX00)
def wsX1_rank_r1 : List Cond := [Cond.fieldLink RX1 21 "KeyHall" "rising" "LKeyHall$Sorted;", Cond.methodLink RX1 43 yX1_pairKey, Cond.static yX1_pairKey, Cond.initialized RX1, Cond.code yX1_pairKey cX1_pairKey 2 (some .long), Cond.constantLong RX1 142 (-2147483648), Cond.methodLink RX1 91 yX0_store, Cond.instanceMethod yX0_store, Cond.selects RX0 yX0_store yX0_store, Cond.initialized RX0, Cond.code yX0_store cX0_store 8 (some .long), Cond.constantLong RX0 50 (4611686018427387904), Cond.fieldLink RX0 28 "KeyHall$Sorted" "values" "[J", Cond.methodLink RX0 35 yX0_below, Cond.instanceMethod yX0_below, Cond.selects RX0 yX0_below yX0_below, Cond.code yX0_below cX0_below 5 (some .int), Cond.fieldLink RX0 11 "KeyHall$Sorted" "held" "I", Cond.fieldLink RX0 24 "KeyHall$Sorted" "keys" "[J", Cond.methodLink RX0 39 yX0_isKeyAt, Cond.instanceMethod yX0_isKeyAt, Cond.selects RX0 yX0_isKeyAt yX0_isKeyAt, Cond.code yX0_isKeyAt cX0_isKeyAt 4 (some .boolean), Cond.methodLink RX0 46 yX0_isInside]
def wsX1_rank_r2 : List Cond := [Cond.instanceMethod yX0_isInside, Cond.selects RX0 yX0_isInside yX0_isInside, Cond.code yX0_isInside cX0_isInside 2 (some .boolean), Cond.methodLink RX0 52 yX0_insert, Cond.instanceMethod yX0_insert, Cond.selects RX0 yX0_insert yX0_insert, Cond.code yX0_insert cX0_insert 6 none, Cond.methodLink RX0 56 arraycopyName, Cond.native arraycopyName, Cond.static arraycopyName, Cond.initialized "java/lang/System"]
def wsX1_rank : List Cond := .code yX1_rank cX1_rank 4 (some .long) :: ((wsX1_rank_r1 ++ wsX1_rank_r2) ++ wsX10 ++ wsX00)
def wsX1_near_r1 : List Cond := [Cond.fieldLink RX1 21 "KeyHall" "rising" "LKeyHall$Sorted;", Cond.constantLong RX1 94 (4611686018427387904), Cond.constantLong RX1 105 (2147483648), Cond.methodLink RX1 43 yX1_pairKey, Cond.static yX1_pairKey, Cond.initialized RX1, Cond.code yX1_pairKey cX1_pairKey 2 (some .long), Cond.constantLong RX1 142 (-2147483648), Cond.methodLink RX1 99 yX0_upTo, Cond.instanceMethod yX0_upTo, Cond.selects RX0 yX0_upTo yX0_upTo, Cond.initialized RX0, Cond.code yX0_upTo cX0_upTo 3 (some .int), Cond.constantLong RX0 33 (9223372036854775807), Cond.fieldLink RX0 11 "KeyHall$Sorted" "held" "I", Cond.methodLink RX0 35 yX0_below, Cond.instanceMethod yX0_below, Cond.selects RX0 yX0_below yX0_below, Cond.code yX0_below cX0_below 5 (some .int), Cond.fieldLink RX0 24 "KeyHall$Sorted" "keys" "[J", Cond.methodLink RX1 102 yX0_below, Cond.methodLink RX1 62 yX0_held, Cond.instanceMethod yX0_held, Cond.selects RX0 yX0_held yX0_held]
def wsX1_near_r2 : List Cond := [Cond.code yX0_held cX0_held 1 (some .int), Cond.methodLink RX1 66 yX0_keyAt, Cond.instanceMethod yX0_keyAt, Cond.selects RX0 yX0_keyAt yX0_keyAt, Cond.code yX0_keyAt cX0_keyAt 2 (some .long), Cond.constantLong RX0 50 (4611686018427387904), Cond.methodLink RX0 46 yX0_isInside, Cond.instanceMethod yX0_isInside, Cond.selects RX0 yX0_isInside yX0_isInside, Cond.code yX0_isInside cX0_isInside 2 (some .boolean), Cond.methodLink RX1 71 yX1_firstOf, Cond.static yX1_firstOf, Cond.code yX1_firstOf cX1_firstOf 2 (some .int), Cond.methodLink RX1 74 yX1_secondOf, Cond.static yX1_secondOf, Cond.code yX1_secondOf cX1_secondOf 2 (some .int), Cond.constant RX1 144 (-2147483648)]
def wsX1_near : List Cond := .code yX1_near cX1_near 11 (some .long) :: ((wsX1_near_r1 ++ wsX1_near_r2) ++ wsX10 ++ wsX00)
def wsX1_poll_r1 : List Cond := [Cond.fieldLink RX1 21 "KeyHall" "rising" "LKeyHall$Sorted;", Cond.methodLink RX1 62 yX0_held, Cond.instanceMethod yX0_held, Cond.selects RX0 yX0_held yX0_held, Cond.initialized RX0, Cond.code yX0_held cX0_held 1 (some .int), Cond.fieldLink RX0 11 "KeyHall$Sorted" "held" "I", Cond.methodLink RX1 59 yX0_takeAt, Cond.instanceMethod yX0_takeAt, Cond.selects RX0 yX0_takeAt yX0_takeAt, Cond.code yX0_takeAt cX0_takeAt 4 (some .long), Cond.methodLink RX0 62 yX0_valueAt, Cond.instanceMethod yX0_valueAt, Cond.selects RX0 yX0_valueAt yX0_valueAt, Cond.code yX0_valueAt cX0_valueAt 2 (some .long), Cond.fieldLink RX0 28 "KeyHall$Sorted" "values" "[J", Cond.constantLong RX0 50 (4611686018427387904), Cond.methodLink RX0 46 yX0_isInside, Cond.instanceMethod yX0_isInside, Cond.selects RX0 yX0_isInside yX0_isInside, Cond.code yX0_isInside cX0_isInside 2 (some .boolean), Cond.methodLink RX0 66 yX0_takeOut, Cond.instanceMethod yX0_takeOut, Cond.selects RX0 yX0_takeOut yX0_takeOut]
def wsX1_poll_r2 : List Cond := [Cond.code yX0_takeOut cX0_takeOut 3 none, Cond.fieldLink RX0 24 "KeyHall$Sorted" "keys" "[J", Cond.methodLink RX0 56 arraycopyName, Cond.native arraycopyName, Cond.static arraycopyName, Cond.initialized "java/lang/System"]
def wsX1_poll : List Cond := .code yX1_poll cX1_poll 2 (some .long) :: ((wsX1_poll_r1 ++ wsX1_poll_r2) ++ wsX10 ++ wsX00)
def wsX1_between : List Cond := .code yX1_between cX1_between 9 (some .int) :: ([.fieldLink RX1 21 "KeyHall" "rising" "LKeyHall$Sorted;", .methodLink RX1 43 yX1_pairKey, .static yX1_pairKey, .initialized RX1, .code yX1_pairKey cX1_pairKey 2 (some .long), .constantLong RX1 142 (-2147483648), .methodLink RX1 102 yX0_below, .instanceMethod yX0_below, .selects RX0 yX0_below yX0_below, .initialized RX0, .code yX0_below cX0_below 5 (some .int), .fieldLink RX0 11 "KeyHall$Sorted" "held" "I", .fieldLink RX0 24 "KeyHall$Sorted" "keys" "[J"] ++ wsX10 ++ wsX00)
def wsX1_placeOf : List Cond := .code yX1_placeOf cX1_placeOf 1 (some .int) :: ([])
def wsX1_signAt : List Cond := .code yX1_signAt cX1_signAt 3 (some .int) :: ([.constantLong RX1 69 (31), .methodLink RX1 110 yX1_placeOf, .static yX1_placeOf, .initialized RX1, .code yX1_placeOf cX1_placeOf 1 (some .int)])
def wsX1_signsOf : List Cond := .code yX1_signsOf cX1_signsOf 3 (some .int) :: ([.methodLink RX1 122 yX1_signAt, .static yX1_signAt, .initialized RX1, .code yX1_signAt cX1_signAt 3 (some .int), .constantLong RX1 69 (31), .methodLink RX1 110 yX1_placeOf, .static yX1_placeOf, .code yX1_placeOf cX1_placeOf 1 (some .int)])
def wsX1_sign : List Cond := .code yX1_sign cX1_sign 3 (some .int) :: ([.fieldLink RX1 36 "KeyHall" "tape" "J", .methodLink RX1 107 yX1_signsOf, .static yX1_signsOf, .initialized RX1, .code yX1_signsOf cX1_signsOf 3 (some .int), .methodLink RX1 122 yX1_signAt, .static yX1_signAt, .code yX1_signAt cX1_signAt 3 (some .int), .constantLong RX1 69 (31), .methodLink RX1 110 yX1_placeOf, .static yX1_placeOf, .code yX1_placeOf cX1_placeOf 1 (some .int)] ++ wsX10)
def wsX1_takeTape : List Cond := .code yX1_takeTape cX1_takeTape 3 (some .long) :: ([.fieldLink RX1 36 "KeyHall" "tape" "J"] ++ wsX10)
def wsX1_erase : List Cond := .code yX1_erase cX1_erase 1 (some .int) :: ([.methodLink RX1 114 yX1_takeTape, .instanceMethod yX1_takeTape, .selects RX1 yX1_takeTape yX1_takeTape, .initialized RX1, .code yX1_takeTape cX1_takeTape 3 (some .long), .fieldLink RX1 36 "KeyHall" "tape" "J", .methodLink RX1 107 yX1_signsOf, .static yX1_signsOf, .code yX1_signsOf cX1_signsOf 3 (some .int), .methodLink RX1 122 yX1_signAt, .static yX1_signAt, .code yX1_signAt cX1_signAt 3 (some .int), .constantLong RX1 69 (31), .methodLink RX1 110 yX1_placeOf, .static yX1_placeOf, .code yX1_placeOf cX1_placeOf 1 (some .int)] ++ wsX10)
def wsX1_line_r1 : List Cond := [Cond.fieldLink RX1 24 "KeyHall" "lines" "LKeyHall$Sorted;", Cond.methodLink RX1 114 yX1_takeTape, Cond.instanceMethod yX1_takeTape, Cond.selects RX1 yX1_takeTape yX1_takeTape, Cond.initialized RX1, Cond.code yX1_takeTape cX1_takeTape 3 (some .long), Cond.fieldLink RX1 36 "KeyHall" "tape" "J", Cond.methodLink RX1 99 yX0_upTo, Cond.instanceMethod yX0_upTo, Cond.selects RX0 yX0_upTo yX0_upTo, Cond.initialized RX0, Cond.code yX0_upTo cX0_upTo 3 (some .int), Cond.constantLong RX0 33 (9223372036854775807), Cond.fieldLink RX0 11 "KeyHall$Sorted" "held" "I", Cond.methodLink RX0 35 yX0_below, Cond.instanceMethod yX0_below, Cond.selects RX0 yX0_below yX0_below, Cond.code yX0_below cX0_below 5 (some .int), Cond.fieldLink RX0 24 "KeyHall$Sorted" "keys" "[J", Cond.methodLink RX1 118 yX0_insert, Cond.instanceMethod yX0_insert, Cond.selects RX0 yX0_insert yX0_insert, Cond.code yX0_insert cX0_insert 6 none, Cond.methodLink RX0 56 arraycopyName]
def wsX1_line_r2 : List Cond := [Cond.native arraycopyName, Cond.static arraycopyName, Cond.initialized "java/lang/System", Cond.fieldLink RX0 28 "KeyHall$Sorted" "values" "[J", Cond.methodLink RX1 102 yX0_below]
def wsX1_line : List Cond := .code yX1_line cX1_line 4 (some .int) :: ((wsX1_line_r1 ++ wsX1_line_r2) ++ wsX10 ++ wsX00)
def wsX1_read_r1 : List Cond := [Cond.fieldLink RX1 24 "KeyHall" "lines" "LKeyHall$Sorted;", Cond.constantLong RX1 94 (4611686018427387904), Cond.methodLink RX1 114 yX1_takeTape, Cond.instanceMethod yX1_takeTape, Cond.selects RX1 yX1_takeTape yX1_takeTape, Cond.initialized RX1, Cond.code yX1_takeTape cX1_takeTape 3 (some .long), Cond.fieldLink RX1 36 "KeyHall" "tape" "J", Cond.methodLink RX1 102 yX0_below, Cond.instanceMethod yX0_below, Cond.selects RX0 yX0_below yX0_below, Cond.initialized RX0, Cond.code yX0_below cX0_below 5 (some .int), Cond.fieldLink RX0 11 "KeyHall$Sorted" "held" "I", Cond.fieldLink RX0 24 "KeyHall$Sorted" "keys" "[J", Cond.methodLink RX1 99 yX0_upTo, Cond.instanceMethod yX0_upTo, Cond.selects RX0 yX0_upTo yX0_upTo, Cond.code yX0_upTo cX0_upTo 3 (some .int), Cond.constantLong RX0 33 (9223372036854775807), Cond.methodLink RX0 35 yX0_below, Cond.methodLink RX1 55 yX0_valueAt, Cond.instanceMethod yX0_valueAt, Cond.selects RX0 yX0_valueAt yX0_valueAt]
def wsX1_read_r2 : List Cond := [Cond.code yX0_valueAt cX0_valueAt 2 (some .long), Cond.fieldLink RX0 28 "KeyHall$Sorted" "values" "[J", Cond.constantLong RX0 50 (4611686018427387904), Cond.methodLink RX0 46 yX0_isInside, Cond.instanceMethod yX0_isInside, Cond.selects RX0 yX0_isInside yX0_isInside, Cond.code yX0_isInside cX0_isInside 2 (some .boolean)]
def wsX1_read : List Cond := .code yX1_read cX1_read 6 (some .long) :: ((wsX1_read_r1 ++ wsX1_read_r2) ++ wsX10 ++ wsX00)
def wsX1_next_r1 : List Cond := [Cond.fieldLink RX1 24 "KeyHall" "lines" "LKeyHall$Sorted;", Cond.fieldLink RX1 36 "KeyHall" "tape" "J", Cond.methodLink RX1 99 yX0_upTo, Cond.instanceMethod yX0_upTo, Cond.selects RX0 yX0_upTo yX0_upTo, Cond.initialized RX0, Cond.code yX0_upTo cX0_upTo 3 (some .int), Cond.constantLong RX0 33 (9223372036854775807), Cond.fieldLink RX0 11 "KeyHall$Sorted" "held" "I", Cond.methodLink RX0 35 yX0_below, Cond.instanceMethod yX0_below, Cond.selects RX0 yX0_below yX0_below, Cond.code yX0_below cX0_below 5 (some .int), Cond.fieldLink RX0 24 "KeyHall$Sorted" "keys" "[J", Cond.methodLink RX1 62 yX0_held, Cond.instanceMethod yX0_held, Cond.selects RX0 yX0_held yX0_held, Cond.code yX0_held cX0_held 1 (some .int), Cond.methodLink RX1 66 yX0_keyAt, Cond.instanceMethod yX0_keyAt, Cond.selects RX0 yX0_keyAt yX0_keyAt, Cond.code yX0_keyAt cX0_keyAt 2 (some .long), Cond.constantLong RX0 50 (4611686018427387904), Cond.methodLink RX0 46 yX0_isInside]
def wsX1_next_r2 : List Cond := [Cond.instanceMethod yX0_isInside, Cond.selects RX0 yX0_isInside yX0_isInside, Cond.code yX0_isInside cX0_isInside 2 (some .boolean), Cond.methodLink RX1 107 yX1_signsOf, Cond.static yX1_signsOf, Cond.initialized RX1, Cond.code yX1_signsOf cX1_signsOf 3 (some .int), Cond.methodLink RX1 122 yX1_signAt, Cond.static yX1_signAt, Cond.code yX1_signAt cX1_signAt 3 (some .int), Cond.constantLong RX1 69 (31), Cond.methodLink RX1 110 yX1_placeOf, Cond.static yX1_placeOf, Cond.code yX1_placeOf cX1_placeOf 1 (some .int)]
def wsX1_next : List Cond := .code yX1_next cX1_next 2 (some .int) :: ((wsX1_next_r1 ++ wsX1_next_r2) ++ wsX10 ++ wsX00)
def wsX1_letter : List Cond := .code yX1_letter cX1_letter 2 (some .int) :: ([.fieldLink RX1 36 "KeyHall" "tape" "J", .methodLink RX1 107 yX1_signsOf, .static yX1_signsOf, .initialized RX1, .code yX1_signsOf cX1_signsOf 3 (some .int), .methodLink RX1 122 yX1_signAt, .static yX1_signAt, .code yX1_signAt cX1_signAt 3 (some .int), .constantLong RX1 69 (31), .methodLink RX1 110 yX1_placeOf, .static yX1_placeOf, .code yX1_placeOf cX1_placeOf 1 (some .int)] ++ wsX10)
def wsX1_forget_r1 : List Cond := [Cond.fieldLink RX1 24 "KeyHall" "lines" "LKeyHall$Sorted;", Cond.methodLink RX1 114 yX1_takeTape, Cond.instanceMethod yX1_takeTape, Cond.selects RX1 yX1_takeTape yX1_takeTape, Cond.initialized RX1, Cond.code yX1_takeTape cX1_takeTape 3 (some .long), Cond.fieldLink RX1 36 "KeyHall" "tape" "J", Cond.methodLink RX1 102 yX0_below, Cond.instanceMethod yX0_below, Cond.selects RX0 yX0_below yX0_below, Cond.initialized RX0, Cond.code yX0_below cX0_below 5 (some .int), Cond.fieldLink RX0 11 "KeyHall$Sorted" "held" "I", Cond.fieldLink RX0 24 "KeyHall$Sorted" "keys" "[J", Cond.methodLink RX1 99 yX0_upTo, Cond.instanceMethod yX0_upTo, Cond.selects RX0 yX0_upTo yX0_upTo, Cond.code yX0_upTo cX0_upTo 3 (some .int), Cond.constantLong RX0 33 (9223372036854775807), Cond.methodLink RX0 35 yX0_below, Cond.methodLink RX1 126 yX0_takeOut, Cond.instanceMethod yX0_takeOut, Cond.selects RX0 yX0_takeOut yX0_takeOut, Cond.code yX0_takeOut cX0_takeOut 3 none]
def wsX1_forget_r2 : List Cond := [Cond.methodLink RX0 56 arraycopyName, Cond.native arraycopyName, Cond.static arraycopyName, Cond.initialized "java/lang/System", Cond.fieldLink RX0 28 "KeyHall$Sorted" "values" "[J"]
def wsX1_forget : List Cond := .code yX1_forget cX1_forget 5 (some .int) :: ((wsX1_forget_r1 ++ wsX1_forget_r2) ++ wsX10 ++ wsX00)
def wsX1_mark_r1 : List Cond := [Cond.fieldLink RX1 30 "KeyHall" "points" "LKeyHall$Sorted;", Cond.methodLink RX1 43 yX1_pairKey, Cond.static yX1_pairKey, Cond.initialized RX1, Cond.code yX1_pairKey cX1_pairKey 2 (some .long), Cond.constantLong RX1 142 (-2147483648), Cond.methodLink RX1 51 yX0_find, Cond.instanceMethod yX0_find, Cond.selects RX0 yX0_find yX0_find, Cond.initialized RX0, Cond.code yX0_find cX0_find 4 (some .int), Cond.methodLink RX0 35 yX0_below, Cond.instanceMethod yX0_below, Cond.selects RX0 yX0_below yX0_below, Cond.code yX0_below cX0_below 5 (some .int), Cond.fieldLink RX0 11 "KeyHall$Sorted" "held" "I", Cond.fieldLink RX0 24 "KeyHall$Sorted" "keys" "[J", Cond.methodLink RX0 39 yX0_isKeyAt, Cond.instanceMethod yX0_isKeyAt, Cond.selects RX0 yX0_isKeyAt yX0_isKeyAt, Cond.code yX0_isKeyAt cX0_isKeyAt 4 (some .boolean), Cond.methodLink RX0 46 yX0_isInside, Cond.instanceMethod yX0_isInside, Cond.selects RX0 yX0_isInside yX0_isInside]
def wsX1_mark_r2 : List Cond := [Cond.code yX0_isInside cX0_isInside 2 (some .boolean), Cond.methodLink RX1 91 yX0_store, Cond.instanceMethod yX0_store, Cond.selects RX0 yX0_store yX0_store, Cond.code yX0_store cX0_store 8 (some .long), Cond.constantLong RX0 50 (4611686018427387904), Cond.fieldLink RX0 28 "KeyHall$Sorted" "values" "[J", Cond.methodLink RX0 52 yX0_insert, Cond.instanceMethod yX0_insert, Cond.selects RX0 yX0_insert yX0_insert, Cond.code yX0_insert cX0_insert 6 none, Cond.methodLink RX0 56 arraycopyName, Cond.native arraycopyName, Cond.static arraycopyName, Cond.initialized "java/lang/System", Cond.methodLink RX1 59 yX0_takeAt, Cond.instanceMethod yX0_takeAt, Cond.selects RX0 yX0_takeAt yX0_takeAt, Cond.code yX0_takeAt cX0_takeAt 4 (some .long), Cond.methodLink RX0 62 yX0_valueAt, Cond.instanceMethod yX0_valueAt, Cond.selects RX0 yX0_valueAt yX0_valueAt, Cond.code yX0_valueAt cX0_valueAt 2 (some .long), Cond.methodLink RX0 66 yX0_takeOut]
def wsX1_mark_r3 : List Cond := [Cond.instanceMethod yX0_takeOut, Cond.selects RX0 yX0_takeOut yX0_takeOut, Cond.code yX0_takeOut cX0_takeOut 3 none, Cond.methodLink RX1 62 yX0_held, Cond.instanceMethod yX0_held, Cond.selects RX0 yX0_held yX0_held, Cond.code yX0_held cX0_held 1 (some .int)]
def wsX1_mark : List Cond := .code yX1_mark cX1_mark 6 (some .int) :: ((wsX1_mark_r1 ++ (wsX1_mark_r2 ++ wsX1_mark_r3)) ++ wsX10 ++ wsX00)
def wsX1_around_r1 : List Cond := [Cond.fieldLink RX1 30 "KeyHall" "points" "LKeyHall$Sorted;", Cond.methodLink RX1 43 yX1_pairKey, Cond.static yX1_pairKey, Cond.initialized RX1, Cond.code yX1_pairKey cX1_pairKey 2 (some .long), Cond.constantLong RX1 142 (-2147483648), Cond.methodLink RX1 96 yX0_holds, Cond.instanceMethod yX0_holds, Cond.selects RX0 yX0_holds yX0_holds, Cond.initialized RX0, Cond.code yX0_holds cX0_holds 3 (some .boolean), Cond.methodLink RX0 43 yX0_find, Cond.instanceMethod yX0_find, Cond.selects RX0 yX0_find yX0_find, Cond.code yX0_find cX0_find 4 (some .int), Cond.methodLink RX0 35 yX0_below, Cond.instanceMethod yX0_below, Cond.selects RX0 yX0_below yX0_below, Cond.code yX0_below cX0_below 5 (some .int), Cond.fieldLink RX0 11 "KeyHall$Sorted" "held" "I", Cond.fieldLink RX0 24 "KeyHall$Sorted" "keys" "[J", Cond.methodLink RX0 39 yX0_isKeyAt, Cond.instanceMethod yX0_isKeyAt, Cond.selects RX0 yX0_isKeyAt yX0_isKeyAt]
def wsX1_around_r2 : List Cond := [Cond.code yX0_isKeyAt cX0_isKeyAt 4 (some .boolean), Cond.methodLink RX0 46 yX0_isInside, Cond.instanceMethod yX0_isInside, Cond.selects RX0 yX0_isInside yX0_isInside, Cond.code yX0_isInside cX0_isInside 2 (some .boolean)]
def wsX1_around : List Cond := .code yX1_around cX1_around 6 (some .int) :: ((wsX1_around_r1 ++ wsX1_around_r2) ++ wsX10 ++ wsX00)
def wsX1_tallyAround_r1 : List Cond := [Cond.fieldLink RX1 33 "KeyHall" "tally" "LKeyHall$Sorted;", Cond.methodLink RX1 43 yX1_pairKey, Cond.static yX1_pairKey, Cond.initialized RX1, Cond.code yX1_pairKey cX1_pairKey 2 (some .long), Cond.constantLong RX1 142 (-2147483648), Cond.methodLink RX1 47 yX0_raise, Cond.instanceMethod yX0_raise, Cond.selects RX0 yX0_raise yX0_raise, Cond.initialized RX0, Cond.code yX0_raise cX0_raise 6 (some .long), Cond.fieldLink RX0 28 "KeyHall$Sorted" "values" "[J", Cond.methodLink RX0 35 yX0_below, Cond.instanceMethod yX0_below, Cond.selects RX0 yX0_below yX0_below, Cond.code yX0_below cX0_below 5 (some .int), Cond.fieldLink RX0 11 "KeyHall$Sorted" "held" "I", Cond.fieldLink RX0 24 "KeyHall$Sorted" "keys" "[J", Cond.methodLink RX0 39 yX0_isKeyAt, Cond.instanceMethod yX0_isKeyAt, Cond.selects RX0 yX0_isKeyAt yX0_isKeyAt, Cond.code yX0_isKeyAt cX0_isKeyAt 4 (some .boolean), Cond.methodLink RX0 46 yX0_isInside, Cond.instanceMethod yX0_isInside]
def wsX1_tallyAround_r2 : List Cond := [Cond.selects RX0 yX0_isInside yX0_isInside, Cond.code yX0_isInside cX0_isInside 2 (some .boolean), Cond.methodLink RX0 52 yX0_insert, Cond.instanceMethod yX0_insert, Cond.selects RX0 yX0_insert yX0_insert, Cond.code yX0_insert cX0_insert 6 none, Cond.methodLink RX0 56 arraycopyName, Cond.native arraycopyName, Cond.static arraycopyName, Cond.initialized "java/lang/System"]
def wsX1_tallyAround : List Cond := .code yX1_tallyAround cX1_tallyAround 5 none :: ((wsX1_tallyAround_r1 ++ wsX1_tallyAround_r2) ++ wsX10 ++ wsX00)
def wsX1_tallyAllAround_r1 : List Cond := [Cond.fieldLink RX1 33 "KeyHall" "tally" "LKeyHall$Sorted;", Cond.fieldLink RX1 30 "KeyHall" "points" "LKeyHall$Sorted;", Cond.methodLink RX1 85 yX0_shorten, Cond.instanceMethod yX0_shorten, Cond.selects RX0 yX0_shorten yX0_shorten, Cond.initialized RX0, Cond.code yX0_shorten cX0_shorten 2 none, Cond.fieldLink RX0 11 "KeyHall$Sorted" "held" "I", Cond.methodLink RX1 62 yX0_held, Cond.instanceMethod yX0_held, Cond.selects RX0 yX0_held yX0_held, Cond.code yX0_held cX0_held 1 (some .int), Cond.methodLink RX1 66 yX0_keyAt, Cond.instanceMethod yX0_keyAt, Cond.selects RX0 yX0_keyAt yX0_keyAt, Cond.code yX0_keyAt cX0_keyAt 2 (some .long), Cond.fieldLink RX0 24 "KeyHall$Sorted" "keys" "[J", Cond.constantLong RX0 50 (4611686018427387904), Cond.methodLink RX0 46 yX0_isInside, Cond.instanceMethod yX0_isInside, Cond.selects RX0 yX0_isInside yX0_isInside, Cond.code yX0_isInside cX0_isInside 2 (some .boolean), Cond.methodLink RX1 71 yX1_firstOf, Cond.static yX1_firstOf]
def wsX1_tallyAllAround_r2 : List Cond := [Cond.initialized RX1, Cond.code yX1_firstOf cX1_firstOf 2 (some .int), Cond.methodLink RX1 74 yX1_secondOf, Cond.static yX1_secondOf, Cond.code yX1_secondOf cX1_secondOf 2 (some .int), Cond.constant RX1 144 (-2147483648), Cond.methodLink RX1 145 yX1_tallyAround, Cond.instanceMethod yX1_tallyAround, Cond.selects RX1 yX1_tallyAround yX1_tallyAround, Cond.code yX1_tallyAround cX1_tallyAround 5 none, Cond.methodLink RX1 43 yX1_pairKey, Cond.static yX1_pairKey, Cond.code yX1_pairKey cX1_pairKey 2 (some .long), Cond.constantLong RX1 142 (-2147483648), Cond.methodLink RX1 47 yX0_raise, Cond.instanceMethod yX0_raise, Cond.selects RX0 yX0_raise yX0_raise, Cond.code yX0_raise cX0_raise 6 (some .long), Cond.fieldLink RX0 28 "KeyHall$Sorted" "values" "[J", Cond.methodLink RX0 35 yX0_below, Cond.instanceMethod yX0_below, Cond.selects RX0 yX0_below yX0_below, Cond.code yX0_below cX0_below 5 (some .int), Cond.methodLink RX0 39 yX0_isKeyAt]
def wsX1_tallyAllAround_r3 : List Cond := [Cond.instanceMethod yX0_isKeyAt, Cond.selects RX0 yX0_isKeyAt yX0_isKeyAt, Cond.code yX0_isKeyAt cX0_isKeyAt 4 (some .boolean), Cond.methodLink RX0 52 yX0_insert, Cond.instanceMethod yX0_insert, Cond.selects RX0 yX0_insert yX0_insert, Cond.code yX0_insert cX0_insert 6 none, Cond.methodLink RX0 56 arraycopyName, Cond.native arraycopyName, Cond.static arraycopyName, Cond.initialized "java/lang/System"]
def wsX1_tallyAllAround : List Cond := .code yX1_tallyAllAround cX1_tallyAllAround 4 none :: ((wsX1_tallyAllAround_r1 ++ (wsX1_tallyAllAround_r2 ++ wsX1_tallyAllAround_r3)) ++ wsX10 ++ wsX00)
def wsX1_isMarkedThen_r1 : List Cond := [Cond.constantLong RX1 148 (3), Cond.constantLong RX1 150 (2), Cond.fieldLink RX1 30 "KeyHall" "points" "LKeyHall$Sorted;", Cond.methodLink RX1 96 yX0_holds, Cond.instanceMethod yX0_holds, Cond.selects RX0 yX0_holds yX0_holds, Cond.initialized RX0, Cond.code yX0_holds cX0_holds 3 (some .boolean), Cond.methodLink RX0 43 yX0_find, Cond.instanceMethod yX0_find, Cond.selects RX0 yX0_find yX0_find, Cond.code yX0_find cX0_find 4 (some .int), Cond.methodLink RX0 35 yX0_below, Cond.instanceMethod yX0_below, Cond.selects RX0 yX0_below yX0_below, Cond.code yX0_below cX0_below 5 (some .int), Cond.fieldLink RX0 11 "KeyHall$Sorted" "held" "I", Cond.fieldLink RX0 24 "KeyHall$Sorted" "keys" "[J", Cond.methodLink RX0 39 yX0_isKeyAt, Cond.instanceMethod yX0_isKeyAt, Cond.selects RX0 yX0_isKeyAt yX0_isKeyAt, Cond.code yX0_isKeyAt cX0_isKeyAt 4 (some .boolean), Cond.methodLink RX0 46 yX0_isInside, Cond.instanceMethod yX0_isInside]
def wsX1_isMarkedThen_r2 : List Cond := [Cond.selects RX0 yX0_isInside yX0_isInside, Cond.code yX0_isInside cX0_isInside 2 (some .boolean)]
def wsX1_isMarkedThen : List Cond := .code yX1_isMarkedThen cX1_isMarkedThen 5 (some .boolean) :: ((wsX1_isMarkedThen_r1 ++ wsX1_isMarkedThen_r2) ++ wsX10 ++ wsX00)
def wsX1_step_r1 : List Cond := [Cond.fieldLink RX1 30 "KeyHall" "points" "LKeyHall$Sorted;", Cond.fieldLink RX1 33 "KeyHall" "tally" "LKeyHall$Sorted;", Cond.methodLink RX1 62 yX0_held, Cond.instanceMethod yX0_held, Cond.selects RX0 yX0_held yX0_held, Cond.initialized RX0, Cond.code yX0_held cX0_held 1 (some .int), Cond.fieldLink RX0 11 "KeyHall$Sorted" "held" "I", Cond.methodLink RX1 129 yX1_tallyAllAround, Cond.instanceMethod yX1_tallyAllAround, Cond.selects RX1 yX1_tallyAllAround yX1_tallyAllAround, Cond.initialized RX1, Cond.code yX1_tallyAllAround cX1_tallyAllAround 4 none, Cond.methodLink RX1 85 yX0_shorten, Cond.instanceMethod yX0_shorten, Cond.selects RX0 yX0_shorten yX0_shorten, Cond.code yX0_shorten cX0_shorten 2 none, Cond.methodLink RX1 66 yX0_keyAt, Cond.instanceMethod yX0_keyAt, Cond.selects RX0 yX0_keyAt yX0_keyAt, Cond.code yX0_keyAt cX0_keyAt 2 (some .long), Cond.fieldLink RX0 24 "KeyHall$Sorted" "keys" "[J", Cond.constantLong RX0 50 (4611686018427387904), Cond.methodLink RX0 46 yX0_isInside]
def wsX1_step_r2 : List Cond := [Cond.instanceMethod yX0_isInside, Cond.selects RX0 yX0_isInside yX0_isInside, Cond.code yX0_isInside cX0_isInside 2 (some .boolean), Cond.methodLink RX1 71 yX1_firstOf, Cond.static yX1_firstOf, Cond.code yX1_firstOf cX1_firstOf 2 (some .int), Cond.methodLink RX1 74 yX1_secondOf, Cond.static yX1_secondOf, Cond.code yX1_secondOf cX1_secondOf 2 (some .int), Cond.constant RX1 144 (-2147483648), Cond.methodLink RX1 145 yX1_tallyAround, Cond.instanceMethod yX1_tallyAround, Cond.selects RX1 yX1_tallyAround yX1_tallyAround, Cond.code yX1_tallyAround cX1_tallyAround 5 none, Cond.methodLink RX1 43 yX1_pairKey, Cond.static yX1_pairKey, Cond.code yX1_pairKey cX1_pairKey 2 (some .long), Cond.constantLong RX1 142 (-2147483648), Cond.methodLink RX1 47 yX0_raise, Cond.instanceMethod yX0_raise, Cond.selects RX0 yX0_raise yX0_raise, Cond.code yX0_raise cX0_raise 6 (some .long), Cond.fieldLink RX0 28 "KeyHall$Sorted" "values" "[J", Cond.methodLink RX0 35 yX0_below]
def wsX1_step_r3 : List Cond := [Cond.instanceMethod yX0_below, Cond.selects RX0 yX0_below yX0_below, Cond.code yX0_below cX0_below 5 (some .int), Cond.methodLink RX0 39 yX0_isKeyAt, Cond.instanceMethod yX0_isKeyAt, Cond.selects RX0 yX0_isKeyAt yX0_isKeyAt, Cond.code yX0_isKeyAt cX0_isKeyAt 4 (some .boolean), Cond.methodLink RX0 52 yX0_insert, Cond.instanceMethod yX0_insert, Cond.selects RX0 yX0_insert yX0_insert, Cond.code yX0_insert cX0_insert 6 none, Cond.methodLink RX0 56 arraycopyName, Cond.native arraycopyName, Cond.static arraycopyName, Cond.initialized "java/lang/System", Cond.methodLink RX1 55 yX0_valueAt, Cond.instanceMethod yX0_valueAt, Cond.selects RX0 yX0_valueAt yX0_valueAt, Cond.code yX0_valueAt cX0_valueAt 2 (some .long), Cond.methodLink RX1 132 yX1_isMarkedThen, Cond.instanceMethod yX1_isMarkedThen, Cond.selects RX1 yX1_isMarkedThen yX1_isMarkedThen, Cond.code yX1_isMarkedThen cX1_isMarkedThen 5 (some .boolean), Cond.constantLong RX1 148 (3)]
def wsX1_step_r4 : List Cond := [Cond.constantLong RX1 150 (2), Cond.methodLink RX1 96 yX0_holds, Cond.instanceMethod yX0_holds, Cond.selects RX0 yX0_holds yX0_holds, Cond.code yX0_holds cX0_holds 3 (some .boolean), Cond.methodLink RX0 43 yX0_find, Cond.instanceMethod yX0_find, Cond.selects RX0 yX0_find yX0_find, Cond.code yX0_find cX0_find 4 (some .int), Cond.methodLink RX1 81 yX0_move, Cond.instanceMethod yX0_move, Cond.selects RX0 yX0_move yX0_move, Cond.code yX0_move cX0_move 3 none]
def wsX1_step : List Cond := .code yX1_step cX1_step 3 (some .int) :: ((wsX1_step_r1 ++ (wsX1_step_r2 ++ (wsX1_step_r3 ++ wsX1_step_r4))) ++ wsX10 ++ wsX00)
def wsX1_put_r1 : List Cond := [Cond.fieldLink RX1 27 "KeyHall" "table" "LKeyHall$Sorted;", Cond.methodLink RX1 43 yX1_pairKey, Cond.static yX1_pairKey, Cond.initialized RX1, Cond.code yX1_pairKey cX1_pairKey 2 (some .long), Cond.constantLong RX1 142 (-2147483648), Cond.methodLink RX1 91 yX0_store, Cond.instanceMethod yX0_store, Cond.selects RX0 yX0_store yX0_store, Cond.initialized RX0, Cond.code yX0_store cX0_store 8 (some .long), Cond.constantLong RX0 50 (4611686018427387904), Cond.fieldLink RX0 28 "KeyHall$Sorted" "values" "[J", Cond.methodLink RX0 35 yX0_below, Cond.instanceMethod yX0_below, Cond.selects RX0 yX0_below yX0_below, Cond.code yX0_below cX0_below 5 (some .int), Cond.fieldLink RX0 11 "KeyHall$Sorted" "held" "I", Cond.fieldLink RX0 24 "KeyHall$Sorted" "keys" "[J", Cond.methodLink RX0 39 yX0_isKeyAt, Cond.instanceMethod yX0_isKeyAt, Cond.selects RX0 yX0_isKeyAt yX0_isKeyAt, Cond.code yX0_isKeyAt cX0_isKeyAt 4 (some .boolean), Cond.methodLink RX0 46 yX0_isInside]
def wsX1_put_r2 : List Cond := [Cond.instanceMethod yX0_isInside, Cond.selects RX0 yX0_isInside yX0_isInside, Cond.code yX0_isInside cX0_isInside 2 (some .boolean), Cond.methodLink RX0 52 yX0_insert, Cond.instanceMethod yX0_insert, Cond.selects RX0 yX0_insert yX0_insert, Cond.code yX0_insert cX0_insert 6 none, Cond.methodLink RX0 56 arraycopyName, Cond.native arraycopyName, Cond.static arraycopyName, Cond.initialized "java/lang/System"]
def wsX1_put : List Cond := .code yX1_put cX1_put 4 (some .long) :: ((wsX1_put_r1 ++ wsX1_put_r2) ++ wsX10 ++ wsX00)
def wsX1_get_r1 : List Cond := [Cond.fieldLink RX1 27 "KeyHall" "table" "LKeyHall$Sorted;", Cond.methodLink RX1 43 yX1_pairKey, Cond.static yX1_pairKey, Cond.initialized RX1, Cond.code yX1_pairKey cX1_pairKey 2 (some .long), Cond.constantLong RX1 142 (-2147483648), Cond.methodLink RX1 51 yX0_find, Cond.instanceMethod yX0_find, Cond.selects RX0 yX0_find yX0_find, Cond.initialized RX0, Cond.code yX0_find cX0_find 4 (some .int), Cond.methodLink RX0 35 yX0_below, Cond.instanceMethod yX0_below, Cond.selects RX0 yX0_below yX0_below, Cond.code yX0_below cX0_below 5 (some .int), Cond.fieldLink RX0 11 "KeyHall$Sorted" "held" "I", Cond.fieldLink RX0 24 "KeyHall$Sorted" "keys" "[J", Cond.methodLink RX0 39 yX0_isKeyAt, Cond.instanceMethod yX0_isKeyAt, Cond.selects RX0 yX0_isKeyAt yX0_isKeyAt, Cond.code yX0_isKeyAt cX0_isKeyAt 4 (some .boolean), Cond.methodLink RX0 46 yX0_isInside, Cond.instanceMethod yX0_isInside, Cond.selects RX0 yX0_isInside yX0_isInside]
def wsX1_get_r2 : List Cond := [Cond.code yX0_isInside cX0_isInside 2 (some .boolean), Cond.methodLink RX1 55 yX0_valueAt, Cond.instanceMethod yX0_valueAt, Cond.selects RX0 yX0_valueAt yX0_valueAt, Cond.code yX0_valueAt cX0_valueAt 2 (some .long), Cond.fieldLink RX0 28 "KeyHall$Sorted" "values" "[J", Cond.constantLong RX0 50 (4611686018427387904)]
def wsX1_get : List Cond := .code yX1_get cX1_get 3 (some .long) :: ((wsX1_get_r1 ++ wsX1_get_r2) ++ wsX10 ++ wsX00)
def wsX1_end_r1 : List Cond := [Cond.fieldLink RX1 27 "KeyHall" "table" "LKeyHall$Sorted;", Cond.constant RX1 138 (2147483647), Cond.constantLong RX1 94 (4611686018427387904), Cond.methodLink RX1 43 yX1_pairKey, Cond.static yX1_pairKey, Cond.initialized RX1, Cond.code yX1_pairKey cX1_pairKey 2 (some .long), Cond.constantLong RX1 142 (-2147483648), Cond.methodLink RX1 99 yX0_upTo, Cond.instanceMethod yX0_upTo, Cond.selects RX0 yX0_upTo yX0_upTo, Cond.initialized RX0, Cond.code yX0_upTo cX0_upTo 3 (some .int), Cond.constantLong RX0 33 (9223372036854775807), Cond.fieldLink RX0 11 "KeyHall$Sorted" "held" "I", Cond.methodLink RX0 35 yX0_below, Cond.instanceMethod yX0_below, Cond.selects RX0 yX0_below yX0_below, Cond.code yX0_below cX0_below 5 (some .int), Cond.fieldLink RX0 24 "KeyHall$Sorted" "keys" "[J", Cond.methodLink RX1 66 yX0_keyAt, Cond.instanceMethod yX0_keyAt, Cond.selects RX0 yX0_keyAt yX0_keyAt, Cond.code yX0_keyAt cX0_keyAt 2 (some .long)]
def wsX1_end_r2 : List Cond := [Cond.constantLong RX0 50 (4611686018427387904), Cond.methodLink RX0 46 yX0_isInside, Cond.instanceMethod yX0_isInside, Cond.selects RX0 yX0_isInside yX0_isInside, Cond.code yX0_isInside cX0_isInside 2 (some .boolean), Cond.methodLink RX1 71 yX1_firstOf, Cond.static yX1_firstOf, Cond.code yX1_firstOf cX1_firstOf 2 (some .int), Cond.methodLink RX1 74 yX1_secondOf, Cond.static yX1_secondOf, Cond.code yX1_secondOf cX1_secondOf 2 (some .int), Cond.constant RX1 144 (-2147483648)]
def wsX1_end : List Cond := .code yX1_end cX1_end 3 (some .long) :: ((wsX1_end_r1 ++ wsX1_end_r2) ++ wsX10 ++ wsX00)
def wsX1_cut_r1 : List Cond := [Cond.fieldLink RX1 27 "KeyHall" "table" "LKeyHall$Sorted;", Cond.methodLink RX1 43 yX1_pairKey, Cond.static yX1_pairKey, Cond.initialized RX1, Cond.code yX1_pairKey cX1_pairKey 2 (some .long), Cond.constantLong RX1 142 (-2147483648), Cond.methodLink RX1 51 yX0_find, Cond.instanceMethod yX0_find, Cond.selects RX0 yX0_find yX0_find, Cond.initialized RX0, Cond.code yX0_find cX0_find 4 (some .int), Cond.methodLink RX0 35 yX0_below, Cond.instanceMethod yX0_below, Cond.selects RX0 yX0_below yX0_below, Cond.code yX0_below cX0_below 5 (some .int), Cond.fieldLink RX0 11 "KeyHall$Sorted" "held" "I", Cond.fieldLink RX0 24 "KeyHall$Sorted" "keys" "[J", Cond.methodLink RX0 39 yX0_isKeyAt, Cond.instanceMethod yX0_isKeyAt, Cond.selects RX0 yX0_isKeyAt yX0_isKeyAt, Cond.code yX0_isKeyAt cX0_isKeyAt 4 (some .boolean), Cond.methodLink RX0 46 yX0_isInside, Cond.instanceMethod yX0_isInside, Cond.selects RX0 yX0_isInside yX0_isInside]
def wsX1_cut_r2 : List Cond := [Cond.code yX0_isInside cX0_isInside 2 (some .boolean), Cond.methodLink RX1 59 yX0_takeAt, Cond.instanceMethod yX0_takeAt, Cond.selects RX0 yX0_takeAt yX0_takeAt, Cond.code yX0_takeAt cX0_takeAt 4 (some .long), Cond.methodLink RX0 62 yX0_valueAt, Cond.instanceMethod yX0_valueAt, Cond.selects RX0 yX0_valueAt yX0_valueAt, Cond.code yX0_valueAt cX0_valueAt 2 (some .long), Cond.fieldLink RX0 28 "KeyHall$Sorted" "values" "[J", Cond.constantLong RX0 50 (4611686018427387904), Cond.methodLink RX0 66 yX0_takeOut, Cond.instanceMethod yX0_takeOut, Cond.selects RX0 yX0_takeOut yX0_takeOut, Cond.code yX0_takeOut cX0_takeOut 3 none, Cond.methodLink RX0 56 arraycopyName, Cond.native arraycopyName, Cond.static arraycopyName, Cond.initialized "java/lang/System", Cond.methodLink RX1 139 yX0_groups, Cond.instanceMethod yX0_groups, Cond.selects RX0 yX0_groups yX0_groups, Cond.code yX0_groups cX0_groups 4 (some .int)]
def wsX1_cut : List Cond := .code yX1_cut cX1_cut 3 (some .int) :: ((wsX1_cut_r1 ++ wsX1_cut_r2) ++ wsX10 ++ wsX00)
def wsX1_size : List Cond := .code yX1_size cX1_size 2 (some .int) :: ([.fieldLink RX1 14 "KeyHall" "counts" "LKeyHall$Sorted;", .fieldLink RX1 18 "KeyHall" "coming" "LKeyHall$Sorted;", .fieldLink RX1 21 "KeyHall" "rising" "LKeyHall$Sorted;", .fieldLink RX1 24 "KeyHall" "lines" "LKeyHall$Sorted;", .fieldLink RX1 30 "KeyHall" "points" "LKeyHall$Sorted;", .fieldLink RX1 27 "KeyHall" "table" "LKeyHall$Sorted;", .methodLink RX1 62 yX0_held, .instanceMethod yX0_held, .selects RX0 yX0_held yX0_held, .initialized RX0, .code yX0_held cX0_held 1 (some .int), .fieldLink RX0 11 "KeyHall$Sorted" "held" "I", .methodLink RX1 139 yX0_groups, .instanceMethod yX0_groups, .selects RX0 yX0_groups yX0_groups, .code yX0_groups cX0_groups 4 (some .int), .fieldLink RX0 24 "KeyHall$Sorted" "keys" "[J"] ++ wsX10 ++ wsX00)
def wsX2_init : List Cond := .code yX2_init cX2_init 1 none :: ([.methodLink RX2 1 objectInit, .instanceMethod objectInit, .code objectInit ⟨#[0xb1]⟩ 1 none, .arrayClass .int, .fieldLink RX2 7 "KeyHallModel$Rows" "a" "[I", .fieldLink RX2 13 "KeyHallModel$Rows" "b" "[I", .arrayClass .long, .fieldLink RX2 16 "KeyHallModel$Rows" "v" "[J"] ++ wsX20)
def wsX2_find : List Cond := .code yX2_find cX2_find 4 (some .int) :: ([.fieldLink RX2 20 "KeyHallModel$Rows" "many" "I", .fieldLink RX2 7 "KeyHallModel$Rows" "a" "[I", .fieldLink RX2 13 "KeyHallModel$Rows" "b" "[I"] ++ wsX20)
def wsX2_add : List Cond := .code yX2_add cX2_add 9 none :: ([.fieldLink RX2 20 "KeyHallModel$Rows" "many" "I", .fieldLink RX2 7 "KeyHallModel$Rows" "a" "[I", .arrayClass .int, .arrayClass .long, .fieldLink RX2 13 "KeyHallModel$Rows" "b" "[I", .fieldLink RX2 16 "KeyHallModel$Rows" "v" "[J"] ++ wsX20)
def wsX2_remove : List Cond := .code yX2_remove cX2_remove 3 none :: ([.fieldLink RX2 20 "KeyHallModel$Rows" "many" "I", .fieldLink RX2 7 "KeyHallModel$Rows" "a" "[I", .fieldLink RX2 13 "KeyHallModel$Rows" "b" "[I", .fieldLink RX2 16 "KeyHallModel$Rows" "v" "[J"] ++ wsX20)
def wsX3_init : List Cond := .code yX3_init cX3_init 2 none :: ([.methodLink RX3 1 objectInit, .instanceMethod objectInit, .code objectInit ⟨#[0xb1]⟩ 1 none, .classLink RX3 7 RX2, .instantiable RX2 4, .initialized RX2, .fieldLink RX3 10 "KeyHallModel" "counts" "LKeyHallModel$Rows;", .fieldLink RX3 16 "KeyHallModel" "coming" "LKeyHallModel$Rows;", .fieldLink RX3 19 "KeyHallModel" "rising" "LKeyHallModel$Rows;", .fieldLink RX3 22 "KeyHallModel" "points" "LKeyHallModel$Rows;", .fieldLink RX3 25 "KeyHallModel" "table" "LKeyHallModel$Rows;", .fieldLink RX3 28 "KeyHallModel" "lines" "LKeyHallModel$Rows;", .arrayClass .int, .fieldLink RX3 31 "KeyHallModel" "words" "[I", .fieldLink RX3 35 "KeyHallModel" "tape" "[I", .instanceMethod yX2_init, .code yX2_init cX2_init 1 none, .methodLink RX2 1 objectInit, .fieldLink RX2 7 "KeyHallModel$Rows" "a" "[I", .fieldLink RX2 13 "KeyHallModel$Rows" "b" "[I", .arrayClass .long, .fieldLink RX2 16 "KeyHallModel$Rows" "v" "[J"] ++ wsX20 ++ wsX30)
def wsX3_add : List Cond := .code yX3_add cX3_add 5 (some .long) :: ([.fieldLink RX3 10 "KeyHallModel" "counts" "LKeyHallModel$Rows;", .fieldLink RX3 46 "KeyHallModel$Rows" "many" "I", .fieldLink RX3 50 "KeyHallModel$Rows" "v" "[J", .methodLink RX3 38 yX2_find, .instanceMethod yX2_find, .selects RX2 yX2_find yX2_find, .initialized RX2, .code yX2_find cX2_find 4 (some .int), .fieldLink RX2 20 "KeyHallModel$Rows" "many" "I", .fieldLink RX2 7 "KeyHallModel$Rows" "a" "[I", .fieldLink RX2 13 "KeyHallModel$Rows" "b" "[I", .methodLink RX3 42 yX2_add, .instanceMethod yX2_add, .selects RX2 yX2_add yX2_add, .code yX2_add cX2_add 9 none, .arrayClass .int, .arrayClass .long, .fieldLink RX2 16 "KeyHallModel$Rows" "v" "[J"] ++ wsX30 ++ wsX20)
def wsX3_told : List Cond := .code yX3_told cX3_told 2 (some .long) :: ([.constantLong RX3 54 (4611686018427387904), .fieldLink RX3 50 "KeyHallModel$Rows" "v" "[J"] ++ wsX20)
def wsX3_count : List Cond := .code yX3_count cX3_count 3 (some .long) :: ([.fieldLink RX3 10 "KeyHallModel" "counts" "LKeyHallModel$Rows;", .methodLink RX3 38 yX2_find, .instanceMethod yX2_find, .selects RX2 yX2_find yX2_find, .initialized RX2, .code yX2_find cX2_find 4 (some .int), .fieldLink RX2 20 "KeyHallModel$Rows" "many" "I", .fieldLink RX2 7 "KeyHallModel$Rows" "a" "[I", .fieldLink RX2 13 "KeyHallModel$Rows" "b" "[I", .methodLink RX3 56 yX3_told, .static yX3_told, .initialized RX3, .code yX3_told cX3_told 2 (some .long), .constantLong RX3 54 (4611686018427387904), .fieldLink RX3 50 "KeyHallModel$Rows" "v" "[J"] ++ wsX30 ++ wsX20)
def wsX3_drop : List Cond := .code yX3_drop cX3_drop 6 (some .long) :: ([.fieldLink RX3 10 "KeyHallModel" "counts" "LKeyHallModel$Rows;", .methodLink RX3 38 yX2_find, .instanceMethod yX2_find, .selects RX2 yX2_find yX2_find, .initialized RX2, .code yX2_find cX2_find 4 (some .int), .fieldLink RX2 20 "KeyHallModel$Rows" "many" "I", .fieldLink RX2 7 "KeyHallModel$Rows" "a" "[I", .fieldLink RX2 13 "KeyHallModel$Rows" "b" "[I", .methodLink RX3 56 yX3_told, .static yX3_told, .initialized RX3, .code yX3_told cX3_told 2 (some .long), .constantLong RX3 54 (4611686018427387904), .fieldLink RX3 50 "KeyHallModel$Rows" "v" "[J", .methodLink RX3 60 yX2_remove, .instanceMethod yX2_remove, .selects RX2 yX2_remove yX2_remove, .code yX2_remove cX2_remove 3 none, .fieldLink RX2 16 "KeyHallModel$Rows" "v" "[J"] ++ wsX30 ++ wsX20)
def wsX3_total : List Cond := .code yX3_total cX3_total 4 (some .long) :: ([.fieldLink RX3 10 "KeyHallModel" "counts" "LKeyHallModel$Rows;", .fieldLink RX3 46 "KeyHallModel$Rows" "many" "I", .constantLong RX3 64 (31), .fieldLink RX3 66 "KeyHallModel$Rows" "a" "[I", .fieldLink RX3 69 "KeyHallModel$Rows" "b" "[I", .fieldLink RX3 50 "KeyHallModel$Rows" "v" "[J"] ++ wsX30 ++ wsX20)
def wsX3_sweep : List Cond := .code yX3_sweep cX3_sweep 3 (some .int) :: ([.fieldLink RX3 10 "KeyHallModel" "counts" "LKeyHallModel$Rows;", .fieldLink RX3 46 "KeyHallModel$Rows" "many" "I", .fieldLink RX3 66 "KeyHallModel$Rows" "a" "[I", .fieldLink RX3 69 "KeyHallModel$Rows" "b" "[I", .methodLink RX3 60 yX2_remove, .instanceMethod yX2_remove, .selects RX2 yX2_remove yX2_remove, .initialized RX2, .code yX2_remove cX2_remove 3 none, .fieldLink RX2 20 "KeyHallModel$Rows" "many" "I", .fieldLink RX2 7 "KeyHallModel$Rows" "a" "[I", .fieldLink RX2 13 "KeyHallModel$Rows" "b" "[I", .fieldLink RX2 16 "KeyHallModel$Rows" "v" "[J"] ++ wsX30 ++ wsX20)
def wsX3_come : List Cond := .code yX3_come cX3_come 4 (some .boolean) :: ([.fieldLink RX3 16 "KeyHallModel" "coming" "LKeyHallModel$Rows;", .methodLink RX3 38 yX2_find, .instanceMethod yX2_find, .selects RX2 yX2_find yX2_find, .initialized RX2, .code yX2_find cX2_find 4 (some .int), .fieldLink RX2 20 "KeyHallModel$Rows" "many" "I", .fieldLink RX2 7 "KeyHallModel$Rows" "a" "[I", .fieldLink RX2 13 "KeyHallModel$Rows" "b" "[I", .methodLink RX3 42 yX2_add, .instanceMethod yX2_add, .selects RX2 yX2_add yX2_add, .code yX2_add cX2_add 9 none, .arrayClass .int, .arrayClass .long, .fieldLink RX2 16 "KeyHallModel$Rows" "v" "[J"] ++ wsX30 ++ wsX20)
def wsX3_leave : List Cond := .code yX3_leave cX3_leave 4 (some .boolean) :: ([.fieldLink RX3 16 "KeyHallModel" "coming" "LKeyHallModel$Rows;", .methodLink RX3 38 yX2_find, .instanceMethod yX2_find, .selects RX2 yX2_find yX2_find, .initialized RX2, .code yX2_find cX2_find 4 (some .int), .fieldLink RX2 20 "KeyHallModel$Rows" "many" "I", .fieldLink RX2 7 "KeyHallModel$Rows" "a" "[I", .fieldLink RX2 13 "KeyHallModel$Rows" "b" "[I", .methodLink RX3 60 yX2_remove, .instanceMethod yX2_remove, .selects RX2 yX2_remove yX2_remove, .code yX2_remove cX2_remove 3 none, .fieldLink RX2 16 "KeyHallModel$Rows" "v" "[J"] ++ wsX30 ++ wsX20)
def wsX3_comer : List Cond := .code yX3_comer cX3_comer 3 (some .long) :: ([.fieldLink RX3 16 "KeyHallModel" "coming" "LKeyHallModel$Rows;", .fieldLink RX3 46 "KeyHallModel$Rows" "many" "I", .constantLong RX3 54 (4611686018427387904), .fieldLink RX3 69 "KeyHallModel$Rows" "b" "[I", .fieldLink RX3 66 "KeyHallModel$Rows" "a" "[I"] ++ wsX30 ++ wsX20)
def wsX3_retain : List Cond := .code yX3_retain cX3_retain 2 (some .int) :: ([.fieldLink RX3 16 "KeyHallModel" "coming" "LKeyHallModel$Rows;", .fieldLink RX3 46 "KeyHallModel$Rows" "many" "I", .fieldLink RX3 10 "KeyHallModel" "counts" "LKeyHallModel$Rows;", .fieldLink RX3 66 "KeyHallModel$Rows" "a" "[I", .fieldLink RX3 69 "KeyHallModel$Rows" "b" "[I", .methodLink RX3 38 yX2_find, .instanceMethod yX2_find, .selects RX2 yX2_find yX2_find, .initialized RX2, .code yX2_find cX2_find 4 (some .int), .fieldLink RX2 20 "KeyHallModel$Rows" "many" "I", .fieldLink RX2 7 "KeyHallModel$Rows" "a" "[I", .fieldLink RX2 13 "KeyHallModel$Rows" "b" "[I", .methodLink RX3 60 yX2_remove, .instanceMethod yX2_remove, .selects RX2 yX2_remove yX2_remove, .code yX2_remove cX2_remove 3 none, .fieldLink RX2 16 "KeyHallModel$Rows" "v" "[J"] ++ wsX30 ++ wsX20)
def wsX3_order : List Cond := .code yX3_order cX3_order 4 (some .int) :: ([])
def wsX3_rank : List Cond := .code yX3_rank cX3_rank 7 (some .long) :: ([.fieldLink RX3 19 "KeyHallModel" "rising" "LKeyHallModel$Rows;", .fieldLink RX3 50 "KeyHallModel$Rows" "v" "[J", .methodLink RX3 38 yX2_find, .instanceMethod yX2_find, .selects RX2 yX2_find yX2_find, .initialized RX2, .code yX2_find cX2_find 4 (some .int), .fieldLink RX2 20 "KeyHallModel$Rows" "many" "I", .fieldLink RX2 7 "KeyHallModel$Rows" "a" "[I", .fieldLink RX2 13 "KeyHallModel$Rows" "b" "[I", .methodLink RX3 56 yX3_told, .static yX3_told, .initialized RX3, .code yX3_told cX3_told 2 (some .long), .constantLong RX3 54 (4611686018427387904), .methodLink RX3 42 yX2_add, .instanceMethod yX2_add, .selects RX2 yX2_add yX2_add, .code yX2_add cX2_add 9 none, .arrayClass .int, .arrayClass .long, .fieldLink RX2 16 "KeyHallModel$Rows" "v" "[J"] ++ wsX30 ++ wsX20)
def wsX3_nearest : List Cond := .code yX3_nearest cX3_nearest 9 (some .int) :: ([.fieldLink RX3 19 "KeyHallModel" "rising" "LKeyHallModel$Rows;", .fieldLink RX3 46 "KeyHallModel$Rows" "many" "I", .fieldLink RX3 66 "KeyHallModel$Rows" "a" "[I", .fieldLink RX3 69 "KeyHallModel$Rows" "b" "[I", .methodLink RX3 72 yX3_order, .static yX3_order, .initialized RX3, .code yX3_order cX3_order 4 (some .int)] ++ wsX30 ++ wsX20)
def wsX3_near : List Cond := .code yX3_near cX3_near 6 (some .long) :: ([.constantLong RX3 54 (4611686018427387904), .fieldLink RX3 19 "KeyHallModel" "rising" "LKeyHallModel$Rows;", .fieldLink RX3 66 "KeyHallModel$Rows" "a" "[I", .constantLong RX3 80 (2147483648), .fieldLink RX3 69 "KeyHallModel$Rows" "b" "[I", .methodLink RX3 76 yX3_nearest, .instanceMethod yX3_nearest, .selects RX3 yX3_nearest yX3_nearest, .initialized RX3, .code yX3_nearest cX3_nearest 9 (some .int), .fieldLink RX3 46 "KeyHallModel$Rows" "many" "I", .methodLink RX3 72 yX3_order, .static yX3_order, .code yX3_order cX3_order 4 (some .int)] ++ wsX30 ++ wsX20)
def wsX3_poll_r1 : List Cond := [Cond.fieldLink RX3 19 "KeyHallModel" "rising" "LKeyHallModel$Rows;", Cond.methodLink RX3 76 yX3_nearest, Cond.instanceMethod yX3_nearest, Cond.selects RX3 yX3_nearest yX3_nearest, Cond.initialized RX3, Cond.code yX3_nearest cX3_nearest 9 (some .int), Cond.fieldLink RX3 46 "KeyHallModel$Rows" "many" "I", Cond.fieldLink RX3 66 "KeyHallModel$Rows" "a" "[I", Cond.fieldLink RX3 69 "KeyHallModel$Rows" "b" "[I", Cond.methodLink RX3 72 yX3_order, Cond.static yX3_order, Cond.code yX3_order cX3_order 4 (some .int), Cond.methodLink RX3 56 yX3_told, Cond.static yX3_told, Cond.code yX3_told cX3_told 2 (some .long), Cond.constantLong RX3 54 (4611686018427387904), Cond.fieldLink RX3 50 "KeyHallModel$Rows" "v" "[J", Cond.methodLink RX3 60 yX2_remove, Cond.instanceMethod yX2_remove, Cond.selects RX2 yX2_remove yX2_remove, Cond.initialized RX2, Cond.code yX2_remove cX2_remove 3 none, Cond.fieldLink RX2 20 "KeyHallModel$Rows" "many" "I", Cond.fieldLink RX2 7 "KeyHallModel$Rows" "a" "[I"]
def wsX3_poll_r2 : List Cond := [Cond.fieldLink RX2 13 "KeyHallModel$Rows" "b" "[I", Cond.fieldLink RX2 16 "KeyHallModel$Rows" "v" "[J"]
def wsX3_poll : List Cond := .code yX3_poll cX3_poll 5 (some .long) :: ((wsX3_poll_r1 ++ wsX3_poll_r2) ++ wsX30 ++ wsX20)
def wsX3_between : List Cond := .code yX3_between cX3_between 7 (some .int) :: ([.fieldLink RX3 19 "KeyHallModel" "rising" "LKeyHallModel$Rows;", .fieldLink RX3 46 "KeyHallModel$Rows" "many" "I", .fieldLink RX3 66 "KeyHallModel$Rows" "a" "[I", .fieldLink RX3 69 "KeyHallModel$Rows" "b" "[I", .methodLink RX3 72 yX3_order, .static yX3_order, .initialized RX3, .code yX3_order cX3_order 4 (some .int)] ++ wsX30 ++ wsX20)
def wsX3_sign : List Cond := .code yX3_sign cX3_sign 2 (some .int) :: ([.fieldLink RX3 82 "KeyHallModel" "tapeMany" "I", .fieldLink RX3 35 "KeyHallModel" "tape" "[I"] ++ wsX30)
def wsX3_erase : List Cond := .code yX3_erase cX3_erase 2 (some .int) :: ([.fieldLink RX3 82 "KeyHallModel" "tapeMany" "I"] ++ wsX30)
def wsX3_signOf : List Cond := .code yX3_signOf cX3_signOf 3 (some .int) :: ([.fieldLink RX3 31 "KeyHallModel" "words" "[I"] ++ wsX30)
def wsX3_tapeSign : List Cond := .code yX3_tapeSign cX3_tapeSign 2 (some .int) :: ([.fieldLink RX3 82 "KeyHallModel" "tapeMany" "I", .fieldLink RX3 35 "KeyHallModel" "tape" "[I"] ++ wsX30)
def wsX3_against : List Cond := .code yX3_against cX3_against 3 (some .int) :: ([.methodLink RX3 85 yX3_signOf, .instanceMethod yX3_signOf, .selects RX3 yX3_signOf yX3_signOf, .initialized RX3, .code yX3_signOf cX3_signOf 3 (some .int), .fieldLink RX3 31 "KeyHallModel" "words" "[I", .methodLink RX3 88 yX3_tapeSign, .instanceMethod yX3_tapeSign, .selects RX3 yX3_tapeSign yX3_tapeSign, .code yX3_tapeSign cX3_tapeSign 2 (some .int), .fieldLink RX3 82 "KeyHallModel" "tapeMany" "I", .fieldLink RX3 35 "KeyHallModel" "tape" "[I"] ++ wsX30)
def wsX3_wordOfTape : List Cond := .code yX3_wordOfTape cX3_wordOfTape 2 (some .int) :: ([.fieldLink RX3 92 "KeyHallModel" "wordMany" "I", .methodLink RX3 95 yX3_against, .instanceMethod yX3_against, .selects RX3 yX3_against yX3_against, .initialized RX3, .code yX3_against cX3_against 3 (some .int), .methodLink RX3 85 yX3_signOf, .instanceMethod yX3_signOf, .selects RX3 yX3_signOf yX3_signOf, .code yX3_signOf cX3_signOf 3 (some .int), .fieldLink RX3 31 "KeyHallModel" "words" "[I", .methodLink RX3 88 yX3_tapeSign, .instanceMethod yX3_tapeSign, .selects RX3 yX3_tapeSign yX3_tapeSign, .code yX3_tapeSign cX3_tapeSign 2 (some .int), .fieldLink RX3 82 "KeyHallModel" "tapeMany" "I", .fieldLink RX3 35 "KeyHallModel" "tape" "[I"] ++ wsX30)
def wsX3_numbers : List Cond := .code yX3_numbers cX3_numbers 4 (some .int) :: ([.fieldLink RX3 28 "KeyHallModel" "lines" "LKeyHallModel$Rows;", .fieldLink RX3 46 "KeyHallModel$Rows" "many" "I", .fieldLink RX3 66 "KeyHallModel$Rows" "a" "[I"] ++ wsX30 ++ wsX20)
def wsX3_line_r1 : List Cond := [Cond.fieldLink RX3 82 "KeyHallModel" "tapeMany" "I", Cond.fieldLink RX3 92 "KeyHallModel" "wordMany" "I", Cond.fieldLink RX3 31 "KeyHallModel" "words" "[I", Cond.arrayClass .int, Cond.fieldLink RX3 28 "KeyHallModel" "lines" "LKeyHallModel$Rows;", Cond.methodLink RX3 98 yX3_wordOfTape, Cond.instanceMethod yX3_wordOfTape, Cond.selects RX3 yX3_wordOfTape yX3_wordOfTape, Cond.initialized RX3, Cond.code yX3_wordOfTape cX3_wordOfTape 2 (some .int), Cond.methodLink RX3 95 yX3_against, Cond.instanceMethod yX3_against, Cond.selects RX3 yX3_against yX3_against, Cond.code yX3_against cX3_against 3 (some .int), Cond.methodLink RX3 85 yX3_signOf, Cond.instanceMethod yX3_signOf, Cond.selects RX3 yX3_signOf yX3_signOf, Cond.code yX3_signOf cX3_signOf 3 (some .int), Cond.methodLink RX3 88 yX3_tapeSign, Cond.instanceMethod yX3_tapeSign, Cond.selects RX3 yX3_tapeSign yX3_tapeSign, Cond.code yX3_tapeSign cX3_tapeSign 2 (some .int), Cond.fieldLink RX3 35 "KeyHallModel" "tape" "[I", Cond.methodLink RX3 42 yX2_add]
def wsX3_line_r2 : List Cond := [Cond.instanceMethod yX2_add, Cond.selects RX2 yX2_add yX2_add, Cond.initialized RX2, Cond.code yX2_add cX2_add 9 none, Cond.fieldLink RX2 20 "KeyHallModel$Rows" "many" "I", Cond.fieldLink RX2 7 "KeyHallModel$Rows" "a" "[I", Cond.arrayClass .long, Cond.fieldLink RX2 13 "KeyHallModel$Rows" "b" "[I", Cond.fieldLink RX2 16 "KeyHallModel$Rows" "v" "[J", Cond.methodLink RX3 102 yX3_numbers, Cond.instanceMethod yX3_numbers, Cond.selects RX3 yX3_numbers yX3_numbers, Cond.code yX3_numbers cX3_numbers 4 (some .int), Cond.fieldLink RX3 46 "KeyHallModel$Rows" "many" "I", Cond.fieldLink RX3 66 "KeyHallModel$Rows" "a" "[I"]
def wsX3_line : List Cond := .code yX3_line cX3_line 5 (some .int) :: ((wsX3_line_r1 ++ wsX3_line_r2) ++ wsX30 ++ wsX20)
def wsX3_read_r1 : List Cond := [Cond.fieldLink RX3 82 "KeyHallModel" "tapeMany" "I", Cond.constantLong RX3 54 (4611686018427387904), Cond.fieldLink RX3 28 "KeyHallModel" "lines" "LKeyHallModel$Rows;", Cond.fieldLink RX3 46 "KeyHallModel$Rows" "many" "I", Cond.fieldLink RX3 66 "KeyHallModel$Rows" "a" "[I", Cond.fieldLink RX3 50 "KeyHallModel$Rows" "v" "[J", Cond.methodLink RX3 98 yX3_wordOfTape, Cond.instanceMethod yX3_wordOfTape, Cond.selects RX3 yX3_wordOfTape yX3_wordOfTape, Cond.initialized RX3, Cond.code yX3_wordOfTape cX3_wordOfTape 2 (some .int), Cond.fieldLink RX3 92 "KeyHallModel" "wordMany" "I", Cond.methodLink RX3 95 yX3_against, Cond.instanceMethod yX3_against, Cond.selects RX3 yX3_against yX3_against, Cond.code yX3_against cX3_against 3 (some .int), Cond.methodLink RX3 85 yX3_signOf, Cond.instanceMethod yX3_signOf, Cond.selects RX3 yX3_signOf yX3_signOf, Cond.code yX3_signOf cX3_signOf 3 (some .int), Cond.fieldLink RX3 31 "KeyHallModel" "words" "[I", Cond.methodLink RX3 88 yX3_tapeSign, Cond.instanceMethod yX3_tapeSign, Cond.selects RX3 yX3_tapeSign yX3_tapeSign]
def wsX3_read_r2 : List Cond := [Cond.code yX3_tapeSign cX3_tapeSign 2 (some .int), Cond.fieldLink RX3 35 "KeyHallModel" "tape" "[I"]
def wsX3_read : List Cond := .code yX3_read cX3_read 5 (some .long) :: ((wsX3_read_r1 ++ wsX3_read_r2) ++ wsX30 ++ wsX20)
def wsX3_before : List Cond := .code yX3_before cX3_before 4 (some .boolean) :: ([.methodLink RX3 85 yX3_signOf, .instanceMethod yX3_signOf, .selects RX3 yX3_signOf yX3_signOf, .initialized RX3, .code yX3_signOf cX3_signOf 3 (some .int), .fieldLink RX3 31 "KeyHallModel" "words" "[I"] ++ wsX30)
def wsX3_next_r1 : List Cond := [Cond.fieldLink RX3 92 "KeyHallModel" "wordMany" "I", Cond.fieldLink RX3 82 "KeyHallModel" "tapeMany" "I", Cond.fieldLink RX3 35 "KeyHallModel" "tape" "[I", Cond.methodLink RX3 102 yX3_numbers, Cond.instanceMethod yX3_numbers, Cond.selects RX3 yX3_numbers yX3_numbers, Cond.initialized RX3, Cond.code yX3_numbers cX3_numbers 4 (some .int), Cond.fieldLink RX3 28 "KeyHallModel" "lines" "LKeyHallModel$Rows;", Cond.fieldLink RX3 46 "KeyHallModel$Rows" "many" "I", Cond.fieldLink RX3 66 "KeyHallModel$Rows" "a" "[I", Cond.methodLink RX3 95 yX3_against, Cond.instanceMethod yX3_against, Cond.selects RX3 yX3_against yX3_against, Cond.code yX3_against cX3_against 3 (some .int), Cond.methodLink RX3 85 yX3_signOf, Cond.instanceMethod yX3_signOf, Cond.selects RX3 yX3_signOf yX3_signOf, Cond.code yX3_signOf cX3_signOf 3 (some .int), Cond.fieldLink RX3 31 "KeyHallModel" "words" "[I", Cond.methodLink RX3 88 yX3_tapeSign, Cond.instanceMethod yX3_tapeSign, Cond.selects RX3 yX3_tapeSign yX3_tapeSign, Cond.code yX3_tapeSign cX3_tapeSign 2 (some .int)]
def wsX3_next_r2 : List Cond := [Cond.methodLink RX3 105 yX3_before, Cond.instanceMethod yX3_before, Cond.selects RX3 yX3_before yX3_before, Cond.code yX3_before cX3_before 4 (some .boolean)]
def wsX3_next : List Cond := .code yX3_next cX3_next 3 (some .int) :: ((wsX3_next_r1 ++ wsX3_next_r2) ++ wsX30 ++ wsX20)
def wsX3_letter : List Cond := .code yX3_letter cX3_letter 2 (some .int) :: ([.fieldLink RX3 82 "KeyHallModel" "tapeMany" "I", .fieldLink RX3 35 "KeyHallModel" "tape" "[I"] ++ wsX30)
def wsX3_forget_r1 : List Cond := [Cond.fieldLink RX3 82 "KeyHallModel" "tapeMany" "I", Cond.fieldLink RX3 28 "KeyHallModel" "lines" "LKeyHallModel$Rows;", Cond.fieldLink RX3 46 "KeyHallModel$Rows" "many" "I", Cond.fieldLink RX3 66 "KeyHallModel$Rows" "a" "[I", Cond.methodLink RX3 98 yX3_wordOfTape, Cond.instanceMethod yX3_wordOfTape, Cond.selects RX3 yX3_wordOfTape yX3_wordOfTape, Cond.initialized RX3, Cond.code yX3_wordOfTape cX3_wordOfTape 2 (some .int), Cond.fieldLink RX3 92 "KeyHallModel" "wordMany" "I", Cond.methodLink RX3 95 yX3_against, Cond.instanceMethod yX3_against, Cond.selects RX3 yX3_against yX3_against, Cond.code yX3_against cX3_against 3 (some .int), Cond.methodLink RX3 85 yX3_signOf, Cond.instanceMethod yX3_signOf, Cond.selects RX3 yX3_signOf yX3_signOf, Cond.code yX3_signOf cX3_signOf 3 (some .int), Cond.fieldLink RX3 31 "KeyHallModel" "words" "[I", Cond.methodLink RX3 88 yX3_tapeSign, Cond.instanceMethod yX3_tapeSign, Cond.selects RX3 yX3_tapeSign yX3_tapeSign, Cond.code yX3_tapeSign cX3_tapeSign 2 (some .int), Cond.fieldLink RX3 35 "KeyHallModel" "tape" "[I"]
def wsX3_forget_r2 : List Cond := [Cond.methodLink RX3 102 yX3_numbers, Cond.instanceMethod yX3_numbers, Cond.selects RX3 yX3_numbers yX3_numbers, Cond.code yX3_numbers cX3_numbers 4 (some .int), Cond.methodLink RX3 60 yX2_remove, Cond.instanceMethod yX2_remove, Cond.selects RX2 yX2_remove yX2_remove, Cond.initialized RX2, Cond.code yX2_remove cX2_remove 3 none, Cond.fieldLink RX2 20 "KeyHallModel$Rows" "many" "I", Cond.fieldLink RX2 7 "KeyHallModel$Rows" "a" "[I", Cond.fieldLink RX2 13 "KeyHallModel$Rows" "b" "[I", Cond.fieldLink RX2 16 "KeyHallModel$Rows" "v" "[J"]
def wsX3_forget : List Cond := .code yX3_forget cX3_forget 4 (some .int) :: ((wsX3_forget_r1 ++ wsX3_forget_r2) ++ wsX30 ++ wsX20)
def wsX3_mark : List Cond := .code yX3_mark cX3_mark 4 (some .int) :: ([.fieldLink RX3 22 "KeyHallModel" "points" "LKeyHallModel$Rows;", .fieldLink RX3 46 "KeyHallModel$Rows" "many" "I", .methodLink RX3 38 yX2_find, .instanceMethod yX2_find, .selects RX2 yX2_find yX2_find, .initialized RX2, .code yX2_find cX2_find 4 (some .int), .fieldLink RX2 20 "KeyHallModel$Rows" "many" "I", .fieldLink RX2 7 "KeyHallModel$Rows" "a" "[I", .fieldLink RX2 13 "KeyHallModel$Rows" "b" "[I", .methodLink RX3 42 yX2_add, .instanceMethod yX2_add, .selects RX2 yX2_add yX2_add, .code yX2_add cX2_add 9 none, .arrayClass .int, .arrayClass .long, .fieldLink RX2 16 "KeyHallModel$Rows" "v" "[J", .methodLink RX3 60 yX2_remove, .instanceMethod yX2_remove, .selects RX2 yX2_remove yX2_remove, .code yX2_remove cX2_remove 3 none] ++ wsX30 ++ wsX20)
def wsX3_around : List Cond := .code yX3_around cX3_around 6 (some .int) :: ([.fieldLink RX3 22 "KeyHallModel" "points" "LKeyHallModel$Rows;", .methodLink RX3 38 yX2_find, .instanceMethod yX2_find, .selects RX2 yX2_find yX2_find, .initialized RX2, .code yX2_find cX2_find 4 (some .int), .fieldLink RX2 20 "KeyHallModel$Rows" "many" "I", .fieldLink RX2 7 "KeyHallModel$Rows" "a" "[I", .fieldLink RX2 13 "KeyHallModel$Rows" "b" "[I"] ++ wsX30 ++ wsX20)
def wsX3_step_r1 : List Cond := [Cond.fieldLink RX3 22 "KeyHallModel" "points" "LKeyHallModel$Rows;", Cond.fieldLink RX3 46 "KeyHallModel$Rows" "many" "I", Cond.classLink RX3 7 RX2, Cond.instantiable RX2 4, Cond.initialized RX2, Cond.fieldLink RX3 66 "KeyHallModel$Rows" "a" "[I", Cond.fieldLink RX3 69 "KeyHallModel$Rows" "b" "[I", Cond.instanceMethod yX2_init, Cond.code yX2_init cX2_init 1 none, Cond.methodLink RX2 1 objectInit, Cond.instanceMethod objectInit, Cond.code objectInit ⟨#[0xb1]⟩ 1 none, Cond.arrayClass .int, Cond.fieldLink RX2 7 "KeyHallModel$Rows" "a" "[I", Cond.fieldLink RX2 13 "KeyHallModel$Rows" "b" "[I", Cond.arrayClass .long, Cond.fieldLink RX2 16 "KeyHallModel$Rows" "v" "[J", Cond.methodLink RX3 109 yX3_around, Cond.instanceMethod yX3_around, Cond.selects RX3 yX3_around yX3_around, Cond.initialized RX3, Cond.code yX3_around cX3_around 6 (some .int), Cond.methodLink RX3 38 yX2_find, Cond.instanceMethod yX2_find]
def wsX3_step_r2 : List Cond := [Cond.selects RX2 yX2_find yX2_find, Cond.code yX2_find cX2_find 4 (some .int), Cond.fieldLink RX2 20 "KeyHallModel$Rows" "many" "I", Cond.methodLink RX3 42 yX2_add, Cond.instanceMethod yX2_add, Cond.selects RX2 yX2_add yX2_add, Cond.code yX2_add cX2_add 9 none]
def wsX3_step : List Cond := .code yX3_step cX3_step 8 (some .int) :: ((wsX3_step_r1 ++ wsX3_step_r2) ++ wsX30 ++ wsX20)
def wsX3_put : List Cond := .code yX3_put cX3_put 7 (some .long) :: ([.fieldLink RX3 25 "KeyHallModel" "table" "LKeyHallModel$Rows;", .fieldLink RX3 50 "KeyHallModel$Rows" "v" "[J", .methodLink RX3 38 yX2_find, .instanceMethod yX2_find, .selects RX2 yX2_find yX2_find, .initialized RX2, .code yX2_find cX2_find 4 (some .int), .fieldLink RX2 20 "KeyHallModel$Rows" "many" "I", .fieldLink RX2 7 "KeyHallModel$Rows" "a" "[I", .fieldLink RX2 13 "KeyHallModel$Rows" "b" "[I", .methodLink RX3 56 yX3_told, .static yX3_told, .initialized RX3, .code yX3_told cX3_told 2 (some .long), .constantLong RX3 54 (4611686018427387904), .methodLink RX3 42 yX2_add, .instanceMethod yX2_add, .selects RX2 yX2_add yX2_add, .code yX2_add cX2_add 9 none, .arrayClass .int, .arrayClass .long, .fieldLink RX2 16 "KeyHallModel$Rows" "v" "[J"] ++ wsX30 ++ wsX20)
def wsX3_get : List Cond := .code yX3_get cX3_get 3 (some .long) :: ([.fieldLink RX3 25 "KeyHallModel" "table" "LKeyHallModel$Rows;", .methodLink RX3 38 yX2_find, .instanceMethod yX2_find, .selects RX2 yX2_find yX2_find, .initialized RX2, .code yX2_find cX2_find 4 (some .int), .fieldLink RX2 20 "KeyHallModel$Rows" "many" "I", .fieldLink RX2 7 "KeyHallModel$Rows" "a" "[I", .fieldLink RX2 13 "KeyHallModel$Rows" "b" "[I", .methodLink RX3 56 yX3_told, .static yX3_told, .initialized RX3, .code yX3_told cX3_told 2 (some .long), .constantLong RX3 54 (4611686018427387904), .fieldLink RX3 50 "KeyHallModel$Rows" "v" "[J"] ++ wsX30 ++ wsX20)
def wsX3_end : List Cond := .code yX3_end cX3_end 5 (some .long) :: ([.constantLong RX3 54 (4611686018427387904), .fieldLink RX3 25 "KeyHallModel" "table" "LKeyHallModel$Rows;", .fieldLink RX3 46 "KeyHallModel$Rows" "many" "I", .fieldLink RX3 66 "KeyHallModel$Rows" "a" "[I", .fieldLink RX3 69 "KeyHallModel$Rows" "b" "[I"] ++ wsX30 ++ wsX20)
def wsX3_rows : List Cond := .code yX3_rows cX3_rows 5 (some .int) :: ([.fieldLink RX3 25 "KeyHallModel" "table" "LKeyHallModel$Rows;", .fieldLink RX3 46 "KeyHallModel$Rows" "many" "I", .fieldLink RX3 66 "KeyHallModel$Rows" "a" "[I"] ++ wsX30 ++ wsX20)
def wsX3_cut : List Cond := .code yX3_cut cX3_cut 4 (some .int) :: ([.fieldLink RX3 25 "KeyHallModel" "table" "LKeyHallModel$Rows;", .methodLink RX3 38 yX2_find, .instanceMethod yX2_find, .selects RX2 yX2_find yX2_find, .initialized RX2, .code yX2_find cX2_find 4 (some .int), .fieldLink RX2 20 "KeyHallModel$Rows" "many" "I", .fieldLink RX2 7 "KeyHallModel$Rows" "a" "[I", .fieldLink RX2 13 "KeyHallModel$Rows" "b" "[I", .methodLink RX3 60 yX2_remove, .instanceMethod yX2_remove, .selects RX2 yX2_remove yX2_remove, .code yX2_remove cX2_remove 3 none, .fieldLink RX2 16 "KeyHallModel$Rows" "v" "[J", .methodLink RX3 112 yX3_rows, .instanceMethod yX3_rows, .selects RX3 yX3_rows yX3_rows, .initialized RX3, .code yX3_rows cX3_rows 5 (some .int), .fieldLink RX3 46 "KeyHallModel$Rows" "many" "I", .fieldLink RX3 66 "KeyHallModel$Rows" "a" "[I"] ++ wsX30 ++ wsX20)
def wsX3_size : List Cond := .code yX3_size cX3_size 4 (some .int) :: ([.fieldLink RX3 10 "KeyHallModel" "counts" "LKeyHallModel$Rows;", .fieldLink RX3 46 "KeyHallModel$Rows" "many" "I", .fieldLink RX3 16 "KeyHallModel" "coming" "LKeyHallModel$Rows;", .fieldLink RX3 19 "KeyHallModel" "rising" "LKeyHallModel$Rows;", .fieldLink RX3 92 "KeyHallModel" "wordMany" "I", .fieldLink RX3 22 "KeyHallModel" "points" "LKeyHallModel$Rows;", .fieldLink RX3 25 "KeyHallModel" "table" "LKeyHallModel$Rows;", .methodLink RX3 102 yX3_numbers, .instanceMethod yX3_numbers, .selects RX3 yX3_numbers yX3_numbers, .initialized RX3, .code yX3_numbers cX3_numbers 4 (some .int), .fieldLink RX3 28 "KeyHallModel" "lines" "LKeyHallModel$Rows;", .fieldLink RX3 66 "KeyHallModel$Rows" "a" "[I", .methodLink RX3 112 yX3_rows, .instanceMethod yX3_rows, .selects RX3 yX3_rows yX3_rows, .code yX3_rows cX3_rows 5 (some .int)] ++ wsX30 ++ wsX20)
def wsJ9_max_7cf53 : List Cond := .code yJ9_max_7cf53 cJ9_max_7cf53 2 (some .int) :: ([])
def wsJ9_min_7cf53 : List Cond := .code yJ9_min_7cf53 cJ9_min_7cf53 2 (some .int) :: ([])
def wsL_cell : List Cond := .code yL_cell cL_cell 2 (some .int) :: ([])
def wsL_law_r1 : List Cond := [Cond.classLink RL 7 RX1, Cond.instantiable RX1 9, Cond.initialized RX1, Cond.classLink RL 18 RX3, Cond.instantiable RX3 10, Cond.initialized RX3, Cond.methodLink RL 9 yL_cell, Cond.static yL_cell, Cond.initialized RL, Cond.code yL_cell cL_cell 2 (some .int), Cond.methodLink RL 15 yX1_init, Cond.instanceMethod yX1_init, Cond.code yX1_init cX1_init 2 none, Cond.methodLink RX1 3 objectInit, Cond.instanceMethod objectInit, Cond.code objectInit ⟨#[0xb1]⟩ 1 none, Cond.classLink RX1 9 RX0, Cond.instantiable RX0 3, Cond.initialized RX0, Cond.fieldLink RX1 14 "KeyHall" "counts" "LKeyHall$Sorted;", Cond.fieldLink RX1 18 "KeyHall" "coming" "LKeyHall$Sorted;", Cond.fieldLink RX1 21 "KeyHall" "rising" "LKeyHall$Sorted;", Cond.fieldLink RX1 24 "KeyHall" "lines" "LKeyHall$Sorted;", Cond.fieldLink RX1 27 "KeyHall" "table" "LKeyHall$Sorted;"]
def wsL_law_r2 : List Cond := [Cond.fieldLink RX1 30 "KeyHall" "points" "LKeyHall$Sorted;", Cond.fieldLink RX1 33 "KeyHall" "tally" "LKeyHall$Sorted;", Cond.fieldLink RX1 36 "KeyHall" "tape" "J", Cond.fieldLink RX1 40 "KeyHall" "turn" "J", Cond.methodLink RX1 11 yX0_init, Cond.instanceMethod yX0_init, Cond.code yX0_init cX0_init 3 none, Cond.methodLink RX0 5 objectInit, Cond.fieldLink RX0 11 "KeyHall$Sorted" "held" "I", Cond.methodLink RX0 15 Lib.Math.min.name, Cond.static Lib.Math.min.name, Cond.initialized "java/lang/Math", Cond.code Lib.Math.min.name Lib.Math.min.code 2 (some .int), Cond.methodLink RX0 21 Lib.Math.max.name, Cond.static Lib.Math.max.name, Cond.code Lib.Math.max.name Lib.Math.max.code 2 (some .int), Cond.arrayClass .long, Cond.fieldLink RX0 24 "KeyHall$Sorted" "keys" "[J", Cond.fieldLink RX0 28 "KeyHall$Sorted" "values" "[J", Cond.methodLink RL 20 yX3_init, Cond.instanceMethod yX3_init, Cond.code yX3_init cX3_init 2 none, Cond.methodLink RX3 1 objectInit, Cond.classLink RX3 7 RX2]
def wsL_law_r3 : List Cond := [Cond.instantiable RX2 4, Cond.initialized RX2, Cond.fieldLink RX3 10 "KeyHallModel" "counts" "LKeyHallModel$Rows;", Cond.fieldLink RX3 16 "KeyHallModel" "coming" "LKeyHallModel$Rows;", Cond.fieldLink RX3 19 "KeyHallModel" "rising" "LKeyHallModel$Rows;", Cond.fieldLink RX3 22 "KeyHallModel" "points" "LKeyHallModel$Rows;", Cond.fieldLink RX3 25 "KeyHallModel" "table" "LKeyHallModel$Rows;", Cond.fieldLink RX3 28 "KeyHallModel" "lines" "LKeyHallModel$Rows;", Cond.arrayClass .int, Cond.fieldLink RX3 31 "KeyHallModel" "words" "[I", Cond.fieldLink RX3 35 "KeyHallModel" "tape" "[I", Cond.instanceMethod yX2_init, Cond.code yX2_init cX2_init 1 none, Cond.methodLink RX2 1 objectInit, Cond.fieldLink RX2 7 "KeyHallModel$Rows" "a" "[I", Cond.fieldLink RX2 13 "KeyHallModel$Rows" "b" "[I", Cond.fieldLink RX2 16 "KeyHallModel$Rows" "v" "[J", Cond.methodLink RL 21 yX1_add, Cond.instanceMethod yX1_add, Cond.selects RX1 yX1_add yX1_add, Cond.code yX1_add cX1_add 4 (some .long), Cond.methodLink RX1 43 yX1_pairKey, Cond.static yX1_pairKey, Cond.code yX1_pairKey cX1_pairKey 2 (some .long)]
def wsL_law_r4 : List Cond := [Cond.constantLong RX1 142 (-2147483648), Cond.methodLink RX1 47 yX0_raise, Cond.instanceMethod yX0_raise, Cond.selects RX0 yX0_raise yX0_raise, Cond.code yX0_raise cX0_raise 6 (some .long), Cond.methodLink RX0 35 yX0_below, Cond.instanceMethod yX0_below, Cond.selects RX0 yX0_below yX0_below, Cond.code yX0_below cX0_below 5 (some .int), Cond.methodLink RX0 39 yX0_isKeyAt, Cond.instanceMethod yX0_isKeyAt, Cond.selects RX0 yX0_isKeyAt yX0_isKeyAt, Cond.code yX0_isKeyAt cX0_isKeyAt 4 (some .boolean), Cond.methodLink RX0 46 yX0_isInside, Cond.instanceMethod yX0_isInside, Cond.selects RX0 yX0_isInside yX0_isInside, Cond.code yX0_isInside cX0_isInside 2 (some .boolean), Cond.methodLink RX0 52 yX0_insert, Cond.instanceMethod yX0_insert, Cond.selects RX0 yX0_insert yX0_insert, Cond.code yX0_insert cX0_insert 6 none, Cond.methodLink RX0 56 arraycopyName, Cond.native arraycopyName, Cond.static arraycopyName]
def wsL_law_r5 : List Cond := [Cond.initialized "java/lang/System", Cond.methodLink RL 25 yX3_add, Cond.instanceMethod yX3_add, Cond.selects RX3 yX3_add yX3_add, Cond.code yX3_add cX3_add 5 (some .long), Cond.fieldLink RX3 46 "KeyHallModel$Rows" "many" "I", Cond.fieldLink RX3 50 "KeyHallModel$Rows" "v" "[J", Cond.methodLink RX3 38 yX2_find, Cond.instanceMethod yX2_find, Cond.selects RX2 yX2_find yX2_find, Cond.code yX2_find cX2_find 4 (some .int), Cond.fieldLink RX2 20 "KeyHallModel$Rows" "many" "I", Cond.methodLink RX3 42 yX2_add, Cond.instanceMethod yX2_add, Cond.selects RX2 yX2_add yX2_add, Cond.code yX2_add cX2_add 9 none, Cond.methodLink RL 26 yX1_count, Cond.instanceMethod yX1_count, Cond.selects RX1 yX1_count yX1_count, Cond.code yX1_count cX1_count 3 (some .long), Cond.methodLink RX1 51 yX0_find, Cond.instanceMethod yX0_find, Cond.selects RX0 yX0_find yX0_find, Cond.code yX0_find cX0_find 4 (some .int)]
def wsL_law_r6 : List Cond := [Cond.methodLink RX1 55 yX0_valueAt, Cond.instanceMethod yX0_valueAt, Cond.selects RX0 yX0_valueAt yX0_valueAt, Cond.code yX0_valueAt cX0_valueAt 2 (some .long), Cond.constantLong RX0 50 (4611686018427387904), Cond.methodLink RL 30 yX3_count, Cond.instanceMethod yX3_count, Cond.selects RX3 yX3_count yX3_count, Cond.code yX3_count cX3_count 3 (some .long), Cond.methodLink RX3 56 yX3_told, Cond.static yX3_told, Cond.code yX3_told cX3_told 2 (some .long), Cond.constantLong RX3 54 (4611686018427387904), Cond.methodLink RL 31 yX1_drop, Cond.instanceMethod yX1_drop, Cond.selects RX1 yX1_drop yX1_drop, Cond.code yX1_drop cX1_drop 3 (some .long), Cond.methodLink RX1 59 yX0_takeAt, Cond.instanceMethod yX0_takeAt, Cond.selects RX0 yX0_takeAt yX0_takeAt, Cond.code yX0_takeAt cX0_takeAt 4 (some .long), Cond.methodLink RX0 62 yX0_valueAt, Cond.methodLink RX0 66 yX0_takeOut, Cond.instanceMethod yX0_takeOut]
def wsL_law_r7 : List Cond := [Cond.selects RX0 yX0_takeOut yX0_takeOut, Cond.code yX0_takeOut cX0_takeOut 3 none, Cond.methodLink RL 34 yX3_drop, Cond.instanceMethod yX3_drop, Cond.selects RX3 yX3_drop yX3_drop, Cond.code yX3_drop cX3_drop 6 (some .long), Cond.methodLink RX3 60 yX2_remove, Cond.instanceMethod yX2_remove, Cond.selects RX2 yX2_remove yX2_remove, Cond.code yX2_remove cX2_remove 3 none, Cond.methodLink RL 35 yX1_total, Cond.instanceMethod yX1_total, Cond.selects RX1 yX1_total yX1_total, Cond.code yX1_total cX1_total 6 (some .long), Cond.constantLong RX1 69 (31), Cond.methodLink RX1 62 yX0_held, Cond.instanceMethod yX0_held, Cond.selects RX0 yX0_held yX0_held, Cond.code yX0_held cX0_held 1 (some .int), Cond.methodLink RX1 66 yX0_keyAt, Cond.instanceMethod yX0_keyAt, Cond.selects RX0 yX0_keyAt yX0_keyAt, Cond.code yX0_keyAt cX0_keyAt 2 (some .long), Cond.methodLink RX1 71 yX1_firstOf]
def wsL_law_r8 : List Cond := [Cond.static yX1_firstOf, Cond.code yX1_firstOf cX1_firstOf 2 (some .int), Cond.methodLink RX1 74 yX1_secondOf, Cond.static yX1_secondOf, Cond.code yX1_secondOf cX1_secondOf 2 (some .int), Cond.constant RX1 144 (-2147483648), Cond.methodLink RL 39 yX3_total, Cond.instanceMethod yX3_total, Cond.selects RX3 yX3_total yX3_total, Cond.code yX3_total cX3_total 4 (some .long), Cond.constantLong RX3 64 (31), Cond.fieldLink RX3 66 "KeyHallModel$Rows" "a" "[I", Cond.fieldLink RX3 69 "KeyHallModel$Rows" "b" "[I", Cond.methodLink RL 40 yX1_sweep, Cond.instanceMethod yX1_sweep, Cond.selects RX1 yX1_sweep yX1_sweep, Cond.code yX1_sweep cX1_sweep 4 (some .int), Cond.methodLink RX1 77 yX1_hasEvenSum, Cond.static yX1_hasEvenSum, Cond.code yX1_hasEvenSum cX1_hasEvenSum 2 (some .boolean), Cond.methodLink RX1 81 yX0_move, Cond.instanceMethod yX0_move, Cond.selects RX0 yX0_move yX0_move, Cond.code yX0_move cX0_move 3 none]
def wsL_law_r9 : List Cond := [Cond.methodLink RX1 85 yX0_shorten, Cond.instanceMethod yX0_shorten, Cond.selects RX0 yX0_shorten yX0_shorten, Cond.code yX0_shorten cX0_shorten 2 none, Cond.methodLink RL 44 yX3_sweep, Cond.instanceMethod yX3_sweep, Cond.selects RX3 yX3_sweep yX3_sweep, Cond.code yX3_sweep cX3_sweep 3 (some .int), Cond.methodLink RL 45 yX1_come, Cond.instanceMethod yX1_come, Cond.selects RX1 yX1_come yX1_come, Cond.code yX1_come cX1_come 5 (some .boolean), Cond.methodLink RX1 88 yX0_findValue, Cond.instanceMethod yX0_findValue, Cond.selects RX0 yX0_findValue yX0_findValue, Cond.code yX0_findValue cX0_findValue 4 (some .int), Cond.methodLink RX1 91 yX0_store, Cond.instanceMethod yX0_store, Cond.selects RX0 yX0_store yX0_store, Cond.code yX0_store cX0_store 8 (some .long), Cond.methodLink RL 49 yX3_come, Cond.instanceMethod yX3_come, Cond.selects RX3 yX3_come yX3_come, Cond.code yX3_come cX3_come 4 (some .boolean)]
def wsL_law_r10 : List Cond := [Cond.methodLink RL 50 yX1_leave, Cond.instanceMethod yX1_leave, Cond.selects RX1 yX1_leave yX1_leave, Cond.code yX1_leave cX1_leave 4 (some .boolean), Cond.methodLink RL 53 yX3_leave, Cond.instanceMethod yX3_leave, Cond.selects RX3 yX3_leave yX3_leave, Cond.code yX3_leave cX3_leave 4 (some .boolean), Cond.methodLink RL 54 yX1_comer, Cond.instanceMethod yX1_comer, Cond.selects RX1 yX1_comer yX1_comer, Cond.code yX1_comer cX1_comer 5 (some .long), Cond.constantLong RX1 94 (4611686018427387904), Cond.methodLink RL 58 yX3_comer, Cond.instanceMethod yX3_comer, Cond.selects RX3 yX3_comer yX3_comer, Cond.code yX3_comer cX3_comer 3 (some .long), Cond.methodLink RL 59 yX1_retain, Cond.instanceMethod yX1_retain, Cond.selects RX1 yX1_retain yX1_retain, Cond.code yX1_retain cX1_retain 3 (some .int), Cond.methodLink RX1 96 yX0_holds, Cond.instanceMethod yX0_holds, Cond.selects RX0 yX0_holds yX0_holds]
def wsL_law_r11 : List Cond := [Cond.code yX0_holds cX0_holds 3 (some .boolean), Cond.methodLink RX0 43 yX0_find, Cond.methodLink RL 62 yX3_retain, Cond.instanceMethod yX3_retain, Cond.selects RX3 yX3_retain yX3_retain, Cond.code yX3_retain cX3_retain 2 (some .int), Cond.methodLink RL 63 yX1_rank, Cond.instanceMethod yX1_rank, Cond.selects RX1 yX1_rank yX1_rank, Cond.code yX1_rank cX1_rank 4 (some .long), Cond.methodLink RL 66 yX3_rank, Cond.instanceMethod yX3_rank, Cond.selects RX3 yX3_rank yX3_rank, Cond.code yX3_rank cX3_rank 7 (some .long), Cond.methodLink RL 67 yX1_near, Cond.instanceMethod yX1_near, Cond.selects RX1 yX1_near yX1_near, Cond.code yX1_near cX1_near 11 (some .long), Cond.constantLong RX1 105 (2147483648), Cond.methodLink RX1 99 yX0_upTo, Cond.instanceMethod yX0_upTo, Cond.selects RX0 yX0_upTo yX0_upTo, Cond.code yX0_upTo cX0_upTo 3 (some .int), Cond.constantLong RX0 33 (9223372036854775807)]
def wsL_law_r12 : List Cond := [Cond.methodLink RX1 102 yX0_below, Cond.methodLink RL 71 yX3_near, Cond.instanceMethod yX3_near, Cond.selects RX3 yX3_near yX3_near, Cond.code yX3_near cX3_near 6 (some .long), Cond.constantLong RX3 80 (2147483648), Cond.methodLink RX3 76 yX3_nearest, Cond.instanceMethod yX3_nearest, Cond.selects RX3 yX3_nearest yX3_nearest, Cond.code yX3_nearest cX3_nearest 9 (some .int), Cond.methodLink RX3 72 yX3_order, Cond.static yX3_order, Cond.code yX3_order cX3_order 4 (some .int), Cond.methodLink RL 72 yX1_poll, Cond.instanceMethod yX1_poll, Cond.selects RX1 yX1_poll yX1_poll, Cond.code yX1_poll cX1_poll 2 (some .long), Cond.methodLink RL 76 yX3_poll, Cond.instanceMethod yX3_poll, Cond.selects RX3 yX3_poll yX3_poll, Cond.code yX3_poll cX3_poll 5 (some .long), Cond.methodLink RL 77 yX1_between, Cond.instanceMethod yX1_between, Cond.selects RX1 yX1_between yX1_between]
def wsL_law_r13 : List Cond := [Cond.code yX1_between cX1_between 9 (some .int), Cond.methodLink RL 81 yX3_between, Cond.instanceMethod yX3_between, Cond.selects RX3 yX3_between yX3_between, Cond.code yX3_between cX3_between 7 (some .int), Cond.methodLink RL 82 yX1_sign, Cond.instanceMethod yX1_sign, Cond.selects RX1 yX1_sign yX1_sign, Cond.code yX1_sign cX1_sign 3 (some .int), Cond.methodLink RX1 107 yX1_signsOf, Cond.static yX1_signsOf, Cond.code yX1_signsOf cX1_signsOf 3 (some .int), Cond.methodLink RX1 122 yX1_signAt, Cond.static yX1_signAt, Cond.code yX1_signAt cX1_signAt 3 (some .int), Cond.methodLink RX1 110 yX1_placeOf, Cond.static yX1_placeOf, Cond.code yX1_placeOf cX1_placeOf 1 (some .int), Cond.methodLink RL 86 yX3_sign, Cond.instanceMethod yX3_sign, Cond.selects RX3 yX3_sign yX3_sign, Cond.code yX3_sign cX3_sign 2 (some .int), Cond.fieldLink RX3 82 "KeyHallModel" "tapeMany" "I", Cond.methodLink RL 87 yX1_erase]
def wsL_law_r14 : List Cond := [Cond.instanceMethod yX1_erase, Cond.selects RX1 yX1_erase yX1_erase, Cond.code yX1_erase cX1_erase 1 (some .int), Cond.methodLink RX1 114 yX1_takeTape, Cond.instanceMethod yX1_takeTape, Cond.selects RX1 yX1_takeTape yX1_takeTape, Cond.code yX1_takeTape cX1_takeTape 3 (some .long), Cond.methodLink RL 90 yX3_erase, Cond.instanceMethod yX3_erase, Cond.selects RX3 yX3_erase yX3_erase, Cond.code yX3_erase cX3_erase 2 (some .int), Cond.methodLink RL 91 yX1_line, Cond.instanceMethod yX1_line, Cond.selects RX1 yX1_line yX1_line, Cond.code yX1_line cX1_line 4 (some .int), Cond.methodLink RX1 118 yX0_insert, Cond.methodLink RL 94 yX3_line, Cond.instanceMethod yX3_line, Cond.selects RX3 yX3_line yX3_line, Cond.code yX3_line cX3_line 5 (some .int), Cond.fieldLink RX3 92 "KeyHallModel" "wordMany" "I", Cond.methodLink RX3 98 yX3_wordOfTape, Cond.instanceMethod yX3_wordOfTape, Cond.selects RX3 yX3_wordOfTape yX3_wordOfTape]
def wsL_law_r15 : List Cond := [Cond.code yX3_wordOfTape cX3_wordOfTape 2 (some .int), Cond.methodLink RX3 95 yX3_against, Cond.instanceMethod yX3_against, Cond.selects RX3 yX3_against yX3_against, Cond.code yX3_against cX3_against 3 (some .int), Cond.methodLink RX3 85 yX3_signOf, Cond.instanceMethod yX3_signOf, Cond.selects RX3 yX3_signOf yX3_signOf, Cond.code yX3_signOf cX3_signOf 3 (some .int), Cond.methodLink RX3 88 yX3_tapeSign, Cond.instanceMethod yX3_tapeSign, Cond.selects RX3 yX3_tapeSign yX3_tapeSign, Cond.code yX3_tapeSign cX3_tapeSign 2 (some .int), Cond.methodLink RX3 102 yX3_numbers, Cond.instanceMethod yX3_numbers, Cond.selects RX3 yX3_numbers yX3_numbers, Cond.code yX3_numbers cX3_numbers 4 (some .int), Cond.methodLink RL 95 yX1_read, Cond.instanceMethod yX1_read, Cond.selects RX1 yX1_read yX1_read, Cond.code yX1_read cX1_read 6 (some .long), Cond.methodLink RL 99 yX3_read, Cond.instanceMethod yX3_read, Cond.selects RX3 yX3_read yX3_read]
def wsL_law_r16 : List Cond := [Cond.code yX3_read cX3_read 5 (some .long), Cond.methodLink RL 100 yX1_next, Cond.instanceMethod yX1_next, Cond.selects RX1 yX1_next yX1_next, Cond.code yX1_next cX1_next 2 (some .int), Cond.methodLink RL 103 yX3_next, Cond.instanceMethod yX3_next, Cond.selects RX3 yX3_next yX3_next, Cond.code yX3_next cX3_next 3 (some .int), Cond.methodLink RX3 105 yX3_before, Cond.instanceMethod yX3_before, Cond.selects RX3 yX3_before yX3_before, Cond.code yX3_before cX3_before 4 (some .boolean), Cond.methodLink RL 104 yX1_letter, Cond.instanceMethod yX1_letter, Cond.selects RX1 yX1_letter yX1_letter, Cond.code yX1_letter cX1_letter 2 (some .int), Cond.methodLink RL 107 yX3_letter, Cond.instanceMethod yX3_letter, Cond.selects RX3 yX3_letter yX3_letter, Cond.code yX3_letter cX3_letter 2 (some .int), Cond.methodLink RL 108 yX1_forget, Cond.instanceMethod yX1_forget, Cond.selects RX1 yX1_forget yX1_forget]
def wsL_law_r17 : List Cond := [Cond.code yX1_forget cX1_forget 5 (some .int), Cond.methodLink RX1 126 yX0_takeOut, Cond.methodLink RL 111 yX3_forget, Cond.instanceMethod yX3_forget, Cond.selects RX3 yX3_forget yX3_forget, Cond.code yX3_forget cX3_forget 4 (some .int), Cond.methodLink RL 112 yX1_mark, Cond.instanceMethod yX1_mark, Cond.selects RX1 yX1_mark yX1_mark, Cond.code yX1_mark cX1_mark 6 (some .int), Cond.methodLink RL 116 yX3_mark, Cond.instanceMethod yX3_mark, Cond.selects RX3 yX3_mark yX3_mark, Cond.code yX3_mark cX3_mark 4 (some .int), Cond.methodLink RL 117 yX1_around, Cond.instanceMethod yX1_around, Cond.selects RX1 yX1_around yX1_around, Cond.code yX1_around cX1_around 6 (some .int), Cond.methodLink RL 120 yX3_around, Cond.instanceMethod yX3_around, Cond.selects RX3 yX3_around yX3_around, Cond.code yX3_around cX3_around 6 (some .int), Cond.methodLink RL 121 yX1_step, Cond.instanceMethod yX1_step]
def wsL_law_r18 : List Cond := [Cond.selects RX1 yX1_step yX1_step, Cond.code yX1_step cX1_step 3 (some .int), Cond.methodLink RX1 129 yX1_tallyAllAround, Cond.instanceMethod yX1_tallyAllAround, Cond.selects RX1 yX1_tallyAllAround yX1_tallyAllAround, Cond.code yX1_tallyAllAround cX1_tallyAllAround 4 none, Cond.methodLink RX1 145 yX1_tallyAround, Cond.instanceMethod yX1_tallyAround, Cond.selects RX1 yX1_tallyAround yX1_tallyAround, Cond.code yX1_tallyAround cX1_tallyAround 5 none, Cond.methodLink RX1 132 yX1_isMarkedThen, Cond.instanceMethod yX1_isMarkedThen, Cond.selects RX1 yX1_isMarkedThen yX1_isMarkedThen, Cond.code yX1_isMarkedThen cX1_isMarkedThen 5 (some .boolean), Cond.constantLong RX1 148 (3), Cond.constantLong RX1 150 (2), Cond.methodLink RL 124 yX3_step, Cond.instanceMethod yX3_step, Cond.selects RX3 yX3_step yX3_step, Cond.code yX3_step cX3_step 8 (some .int), Cond.methodLink RX3 109 yX3_around, Cond.methodLink RL 125 yX1_put, Cond.instanceMethod yX1_put, Cond.selects RX1 yX1_put yX1_put]
def wsL_law_r19 : List Cond := [Cond.code yX1_put cX1_put 4 (some .long), Cond.methodLink RL 128 yX3_put, Cond.instanceMethod yX3_put, Cond.selects RX3 yX3_put yX3_put, Cond.code yX3_put cX3_put 7 (some .long), Cond.methodLink RL 129 yX1_get, Cond.instanceMethod yX1_get, Cond.selects RX1 yX1_get yX1_get, Cond.code yX1_get cX1_get 3 (some .long), Cond.methodLink RL 132 yX3_get, Cond.instanceMethod yX3_get, Cond.selects RX3 yX3_get yX3_get, Cond.code yX3_get cX3_get 3 (some .long), Cond.methodLink RL 133 yX1_end, Cond.instanceMethod yX1_end, Cond.selects RX1 yX1_end yX1_end, Cond.code yX1_end cX1_end 3 (some .long), Cond.constant RX1 138 (2147483647), Cond.methodLink RL 136 yX3_end, Cond.instanceMethod yX3_end, Cond.selects RX3 yX3_end yX3_end, Cond.code yX3_end cX3_end 5 (some .long), Cond.methodLink RL 137 yX1_cut, Cond.instanceMethod yX1_cut]
def wsL_law_r20 : List Cond := [Cond.selects RX1 yX1_cut yX1_cut, Cond.code yX1_cut cX1_cut 3 (some .int), Cond.methodLink RX1 139 yX0_groups, Cond.instanceMethod yX0_groups, Cond.selects RX0 yX0_groups yX0_groups, Cond.code yX0_groups cX0_groups 4 (some .int), Cond.methodLink RL 140 yX3_cut, Cond.instanceMethod yX3_cut, Cond.selects RX3 yX3_cut yX3_cut, Cond.code yX3_cut cX3_cut 4 (some .int), Cond.methodLink RX3 112 yX3_rows, Cond.instanceMethod yX3_rows, Cond.selects RX3 yX3_rows yX3_rows, Cond.code yX3_rows cX3_rows 5 (some .int), Cond.methodLink RL 141 yX1_size, Cond.instanceMethod yX1_size, Cond.selects RX1 yX1_size yX1_size, Cond.code yX1_size cX1_size 2 (some .int), Cond.methodLink RL 144 yX3_size, Cond.instanceMethod yX3_size, Cond.selects RX3 yX3_size yX3_size, Cond.code yX3_size cX3_size 4 (some .int)]
def wsL_law : List Cond := (wsL_law_r1 ++ (wsL_law_r2 ++ (wsL_law_r3 ++ (wsL_law_r4 ++ (wsL_law_r5 ++ (wsL_law_r6 ++ (wsL_law_r7 ++ (wsL_law_r8 ++ (wsL_law_r9 ++ (wsL_law_r10 ++ (wsL_law_r11 ++ (wsL_law_r12 ++ (wsL_law_r13 ++ (wsL_law_r14 ++ (wsL_law_r15 ++ (wsL_law_r16 ++ (wsL_law_r17 ++ (wsL_law_r18 ++ (wsL_law_r19 ++ wsL_law_r20))))))))))))))))))) ++ wsX10 ++ wsX30 ++ wsX00 ++ wsX20 ++ ([] : List Cond)
theorem inlX0 : ∀ w ∈ wsX00, w ∈ wsL_law := fun _ h => List.mem_append_left _ (List.mem_append_left _ (List.mem_append_right _ h))
theorem inlX1 : ∀ w ∈ wsX10, w ∈ wsL_law := fun _ h => List.mem_append_left _ (List.mem_append_left _ (List.mem_append_left _ (List.mem_append_left _ (List.mem_append_right _ h))))
theorem inlX2 : ∀ w ∈ wsX20, w ∈ wsL_law := fun _ h => List.mem_append_left _ (List.mem_append_right _ h)
theorem inlX3 : ∀ w ∈ wsX30, w ∈ wsL_law := fun _ h => List.mem_append_left _ (List.mem_append_left _ (List.mem_append_left _ (List.mem_append_right _ h)))
/-! the classes that the worlds hold -/
abbrev vwCl : List vw_C := [(RX0, TX0, 3), (RX1, TX1, 9), (RX2, TX2, 4), (RX3, TX3, 10)]
end
section
theorem dX0_init_0 : decode cX0_init 0 = .ok (.aload_n 0, 1) := by decide +kernel
theorem dX0_init_1 : decode cX0_init 1 = .ok (.invokespecial 5, 3) := by decide +kernel
theorem dX0_init_4 : decode cX0_init 4 = .ok (.aload_n 0, 1) := by decide +kernel
theorem dX0_init_5 : decode cX0_init 5 = .ok (.iconst 0, 1) := by decide +kernel
theorem dX0_init_6 : decode cX0_init 6 = .ok (.putfield 11, 3) := by decide +kernel
theorem dX0_init_9 : decode cX0_init 9 = .ok (.iconst 0, 1) := by decide +kernel
theorem dX0_init_10 : decode cX0_init 10 = .ok (.iload_n 1, 1) := by decide +kernel
theorem dX0_init_11 : decode cX0_init 11 = .ok (.sipush 1023, 3) := by decide +kernel
theorem dX0_init_14 : decode cX0_init 14 = .ok (.invokestatic 15, 3) := by decide +kernel
theorem dX0_init_17 : decode cX0_init 17 = .ok (.invokestatic 21, 3) := by decide +kernel
theorem dX0_init_20 : decode cX0_init 20 = .ok (.istore_n 2, 1) := by decide +kernel
theorem dX0_init_21 : decode cX0_init 21 = .ok (.aload_n 0, 1) := by decide +kernel
theorem dX0_init_22 : decode cX0_init 22 = .ok (.iload_n 2, 1) := by decide +kernel
theorem dX0_init_23 : decode cX0_init 23 = .ok (.newarray .long, 2) := by decide +kernel
theorem dX0_init_25 : decode cX0_init 25 = .ok (.putfield 24, 3) := by decide +kernel
theorem dX0_init_28 : decode cX0_init 28 = .ok (.aload_n 0, 1) := by decide +kernel
theorem dX0_init_29 : decode cX0_init 29 = .ok (.iload_n 2, 1) := by decide +kernel
theorem dX0_init_30 : decode cX0_init 30 = .ok (.newarray .long, 2) := by decide +kernel
theorem dX0_init_32 : decode cX0_init 32 = .ok (.putfield 28, 3) := by decide +kernel
theorem dX0_init_35 : decode cX0_init 35 = .ok (.return_, 1) := by decide +kernel
theorem dX0_held_0 : decode cX0_held 0 = .ok (.aload_n 0, 1) := by decide +kernel
theorem dX0_held_1 : decode cX0_held 1 = .ok (.getfield 11, 3) := by decide +kernel
theorem dX0_held_4 : decode cX0_held 4 = .ok (.ireturn, 1) := by decide +kernel
theorem dX0_below_0 : decode cX0_below 0 = .ok (.iconst 0, 1) := by decide +kernel
theorem dX0_below_1 : decode cX0_below 1 = .ok (.istore_n 3, 1) := by decide +kernel
theorem dX0_below_2 : decode cX0_below 2 = .ok (.sipush 512, 3) := by decide +kernel
theorem dX0_below_5 : decode cX0_below 5 = .ok (.istore 4, 2) := by decide +kernel
theorem dX0_below_7 : decode cX0_below 7 = .ok (.iload 4, 2) := by decide +kernel
theorem dX0_below_9 : decode cX0_below 9 = .ok (.ifCond .le 44, 3) := by decide +kernel
theorem dX0_below_12 : decode cX0_below 12 = .ok (.iload_n 3, 1) := by decide +kernel
theorem dX0_below_13 : decode cX0_below 13 = .ok (.iload 4, 2) := by decide +kernel
theorem dX0_below_15 : decode cX0_below 15 = .ok (.iadd, 1) := by decide +kernel
theorem dX0_below_16 : decode cX0_below 16 = .ok (.aload_n 0, 1) := by decide +kernel
theorem dX0_below_17 : decode cX0_below 17 = .ok (.getfield 11, 3) := by decide +kernel
theorem dX0_below_20 : decode cX0_below 20 = .ok (.if_icmp .gt 24, 3) := by decide +kernel
theorem dX0_below_23 : decode cX0_below 23 = .ok (.aload_n 0, 1) := by decide +kernel
theorem dX0_below_24 : decode cX0_below 24 = .ok (.getfield 24, 3) := by decide +kernel
theorem dX0_below_27 : decode cX0_below 27 = .ok (.iload_n 3, 1) := by decide +kernel
theorem dX0_below_28 : decode cX0_below 28 = .ok (.iload 4, 2) := by decide +kernel
theorem dX0_below_30 : decode cX0_below 30 = .ok (.iadd, 1) := by decide +kernel
theorem dX0_below_31 : decode cX0_below 31 = .ok (.iconst 1, 1) := by decide +kernel
theorem dX0_below_32 : decode cX0_below 32 = .ok (.isub, 1) := by decide +kernel
theorem dX0_below_33 : decode cX0_below 33 = .ok (.laload, 1) := by decide +kernel
theorem dX0_below_34 : decode cX0_below 34 = .ok (.lload_n 1, 1) := by decide +kernel
theorem dX0_below_35 : decode cX0_below 35 = .ok (.lcmp, 1) := by decide +kernel
theorem dX0_below_36 : decode cX0_below 36 = .ok (.ifCond .ge 8, 3) := by decide +kernel
theorem dX0_below_39 : decode cX0_below 39 = .ok (.iload_n 3, 1) := by decide +kernel
theorem dX0_below_40 : decode cX0_below 40 = .ok (.iload 4, 2) := by decide +kernel
theorem dX0_below_42 : decode cX0_below 42 = .ok (.iadd, 1) := by decide +kernel
theorem dX0_below_43 : decode cX0_below 43 = .ok (.istore_n 3, 1) := by decide +kernel
theorem dX0_below_44 : decode cX0_below 44 = .ok (.iload 4, 2) := by decide +kernel
theorem dX0_below_46 : decode cX0_below 46 = .ok (.iconst 1, 1) := by decide +kernel
theorem dX0_below_47 : decode cX0_below 47 = .ok (.ishr, 1) := by decide +kernel
theorem dX0_below_48 : decode cX0_below 48 = .ok (.istore 4, 2) := by decide +kernel
theorem dX0_below_50 : decode cX0_below 50 = .ok (.goto (-43), 3) := by decide +kernel
theorem dX0_below_53 : decode cX0_below 53 = .ok (.iload_n 3, 1) := by decide +kernel
theorem dX0_below_54 : decode cX0_below 54 = .ok (.ireturn, 1) := by decide +kernel
set_option maxRecDepth 20000 in
theorem ggX0_upTo_X0_below : GoodIn wsX0_upTo wsX0_below := goodIn_r _ [7, 2, 8, 9, 10, 11] (by decide +kernel) (by decide +kernel)
set_option maxRecDepth 20000 in
theorem gX0_upTo_X0_below : GoodIn wsX0_upTo (wsV RX0 35 RX0 yX0_below wsX0_below) := goodIn_app (goodIn_of _ (by decide +kernel)) ggX0_upTo_X0_below
theorem dX0_upTo_0 : decode cX0_upTo 0 = .ok (.lload_n 1, 1) := by decide +kernel
theorem dX0_upTo_1 : decode cX0_upTo 1 = .ok (.ldc2_w 33, 3) := by decide +kernel
theorem dX0_upTo_4 : decode cX0_upTo 4 = .ok (.lcmp, 1) := by decide +kernel
theorem dX0_upTo_5 : decode cX0_upTo 5 = .ok (.ifCond .ne 10, 3) := by decide +kernel
theorem dX0_upTo_8 : decode cX0_upTo 8 = .ok (.aload_n 0, 1) := by decide +kernel
theorem dX0_upTo_9 : decode cX0_upTo 9 = .ok (.getfield 11, 3) := by decide +kernel
theorem dX0_upTo_12 : decode cX0_upTo 12 = .ok (.goto 10, 3) := by decide +kernel
theorem dX0_upTo_15 : decode cX0_upTo 15 = .ok (.aload_n 0, 1) := by decide +kernel
theorem dX0_upTo_16 : decode cX0_upTo 16 = .ok (.lload_n 1, 1) := by decide +kernel
theorem dX0_upTo_17 : decode cX0_upTo 17 = .ok (.lconst 1, 1) := by decide +kernel
theorem dX0_upTo_18 : decode cX0_upTo 18 = .ok (.ladd, 1) := by decide +kernel
theorem dX0_upTo_19 : decode cX0_upTo 19 = .ok (.invokevirtual 35, 3) := by decide +kernel
theorem dX0_upTo_22 : decode cX0_upTo 22 = .ok (.ireturn, 1) := by decide +kernel
set_option maxRecDepth 20000 in
theorem ggX0_find_X0_below : GoodIn wsX0_find wsX0_below := goodIn_r _ [5, 6, 7, 16, 17, 18] (by decide +kernel) (by decide +kernel)
set_option maxRecDepth 20000 in
theorem gX0_find_X0_below : GoodIn wsX0_find (wsV RX0 35 RX0 yX0_below wsX0_below) := goodIn_app (goodIn_of _ (by decide +kernel)) ggX0_find_X0_below
set_option maxRecDepth 20000 in
theorem ggX0_find_X0_isKeyAt : GoodIn wsX0_find wsX0_isKeyAt := goodIn_r _ [11, 7, 12, 13, 14, 4, 15, 6, 16, 17, 18] (by decide +kernel) (by decide +kernel)
set_option maxRecDepth 20000 in
theorem gX0_find_X0_isKeyAt : GoodIn wsX0_find (wsV RX0 39 RX0 yX0_isKeyAt wsX0_isKeyAt) := goodIn_app (goodIn_of _ (by decide +kernel)) ggX0_find_X0_isKeyAt
theorem dX0_find_0 : decode cX0_find 0 = .ok (.aload_n 0, 1) := by decide +kernel
theorem dX0_find_1 : decode cX0_find 1 = .ok (.lload_n 1, 1) := by decide +kernel
theorem dX0_find_2 : decode cX0_find 2 = .ok (.invokevirtual 35, 3) := by decide +kernel
theorem dX0_find_5 : decode cX0_find 5 = .ok (.istore_n 3, 1) := by decide +kernel
theorem dX0_find_6 : decode cX0_find 6 = .ok (.aload_n 0, 1) := by decide +kernel
theorem dX0_find_7 : decode cX0_find 7 = .ok (.iload_n 3, 1) := by decide +kernel
theorem dX0_find_8 : decode cX0_find 8 = .ok (.lload_n 1, 1) := by decide +kernel
theorem dX0_find_9 : decode cX0_find 9 = .ok (.invokevirtual 39, 3) := by decide +kernel
theorem dX0_find_12 : decode cX0_find 12 = .ok (.ifCond .eq 7, 3) := by decide +kernel
theorem dX0_find_15 : decode cX0_find 15 = .ok (.iload_n 3, 1) := by decide +kernel
theorem dX0_find_16 : decode cX0_find 16 = .ok (.goto 4, 3) := by decide +kernel
theorem dX0_find_19 : decode cX0_find 19 = .ok (.iconst (-1), 1) := by decide +kernel
theorem dX0_find_20 : decode cX0_find 20 = .ok (.ireturn, 1) := by decide +kernel
set_option maxRecDepth 20000 in
theorem ggX0_holds_X0_find : GoodIn wsX0_holds wsX0_find := goodIn_r _ [5, 6, 7, 8, 4, 9, 10, 11, 12, 13, 14, 15, 16, 17, 18, 19, 20, 21, 22] (by decide +kernel) (by decide +kernel)
set_option maxRecDepth 20000 in
theorem gX0_holds_X0_find : GoodIn wsX0_holds (wsV RX0 43 RX0 yX0_find wsX0_find) := goodIn_app (goodIn_of _ (by decide +kernel)) ggX0_holds_X0_find
theorem dX0_holds_0 : decode cX0_holds 0 = .ok (.aload_n 0, 1) := by decide +kernel
theorem dX0_holds_1 : decode cX0_holds 1 = .ok (.lload_n 1, 1) := by decide +kernel
theorem dX0_holds_2 : decode cX0_holds 2 = .ok (.invokevirtual 43, 3) := by decide +kernel
theorem dX0_holds_5 : decode cX0_holds 5 = .ok (.ifCond .lt 7, 3) := by decide +kernel
theorem dX0_holds_8 : decode cX0_holds 8 = .ok (.iconst 1, 1) := by decide +kernel
theorem dX0_holds_9 : decode cX0_holds 9 = .ok (.goto 4, 3) := by decide +kernel
theorem dX0_holds_12 : decode cX0_holds 12 = .ok (.iconst 0, 1) := by decide +kernel
theorem dX0_holds_13 : decode cX0_holds 13 = .ok (.ireturn, 1) := by decide +kernel
theorem dX0_findValue_0 : decode cX0_findValue 0 = .ok (.iconst 0, 1) := by decide +kernel
theorem dX0_findValue_1 : decode cX0_findValue 1 = .ok (.istore_n 3, 1) := by decide +kernel
theorem dX0_findValue_2 : decode cX0_findValue 2 = .ok (.iload_n 3, 1) := by decide +kernel
theorem dX0_findValue_3 : decode cX0_findValue 3 = .ok (.aload_n 0, 1) := by decide +kernel
theorem dX0_findValue_4 : decode cX0_findValue 4 = .ok (.getfield 11, 3) := by decide +kernel
theorem dX0_findValue_7 : decode cX0_findValue 7 = .ok (.if_icmp .ge 22, 3) := by decide +kernel
theorem dX0_findValue_10 : decode cX0_findValue 10 = .ok (.aload_n 0, 1) := by decide +kernel
theorem dX0_findValue_11 : decode cX0_findValue 11 = .ok (.getfield 28, 3) := by decide +kernel
theorem dX0_findValue_14 : decode cX0_findValue 14 = .ok (.iload_n 3, 1) := by decide +kernel
theorem dX0_findValue_15 : decode cX0_findValue 15 = .ok (.laload, 1) := by decide +kernel
theorem dX0_findValue_16 : decode cX0_findValue 16 = .ok (.lload_n 1, 1) := by decide +kernel
theorem dX0_findValue_17 : decode cX0_findValue 17 = .ok (.lcmp, 1) := by decide +kernel
theorem dX0_findValue_18 : decode cX0_findValue 18 = .ok (.ifCond .ne 5, 3) := by decide +kernel
theorem dX0_findValue_21 : decode cX0_findValue 21 = .ok (.iload_n 3, 1) := by decide +kernel
theorem dX0_findValue_22 : decode cX0_findValue 22 = .ok (.ireturn, 1) := by decide +kernel
theorem dX0_findValue_23 : decode cX0_findValue 23 = .ok (.iinc 3 1, 3) := by decide +kernel
theorem dX0_findValue_26 : decode cX0_findValue 26 = .ok (.goto (-24), 3) := by decide +kernel
theorem dX0_findValue_29 : decode cX0_findValue 29 = .ok (.iconst (-1), 1) := by decide +kernel
theorem dX0_findValue_30 : decode cX0_findValue 30 = .ok (.ireturn, 1) := by decide +kernel
set_option maxRecDepth 20000 in
theorem ggX0_keyAt_X0_isInside : GoodIn wsX0_keyAt wsX0_isInside := goodIn_r _ [7, 8, 9, 10, 11] (by decide +kernel) (by decide +kernel)
set_option maxRecDepth 20000 in
theorem gX0_keyAt_X0_isInside : GoodIn wsX0_keyAt (wsV RX0 46 RX0 yX0_isInside wsX0_isInside) := goodIn_app (goodIn_of _ (by decide +kernel)) ggX0_keyAt_X0_isInside
theorem dX0_keyAt_0 : decode cX0_keyAt 0 = .ok (.aload_n 0, 1) := by decide +kernel
theorem dX0_keyAt_1 : decode cX0_keyAt 1 = .ok (.iload_n 1, 1) := by decide +kernel
theorem dX0_keyAt_2 : decode cX0_keyAt 2 = .ok (.invokevirtual 46, 3) := by decide +kernel
theorem dX0_keyAt_5 : decode cX0_keyAt 5 = .ok (.ifCond .eq 12, 3) := by decide +kernel
theorem dX0_keyAt_8 : decode cX0_keyAt 8 = .ok (.aload_n 0, 1) := by decide +kernel
theorem dX0_keyAt_9 : decode cX0_keyAt 9 = .ok (.getfield 24, 3) := by decide +kernel
theorem dX0_keyAt_12 : decode cX0_keyAt 12 = .ok (.iload_n 1, 1) := by decide +kernel
theorem dX0_keyAt_13 : decode cX0_keyAt 13 = .ok (.laload, 1) := by decide +kernel
theorem dX0_keyAt_14 : decode cX0_keyAt 14 = .ok (.goto 6, 3) := by decide +kernel
theorem dX0_keyAt_17 : decode cX0_keyAt 17 = .ok (.ldc2_w 50, 3) := by decide +kernel
theorem dX0_keyAt_20 : decode cX0_keyAt 20 = .ok (.lreturn, 1) := by decide +kernel
set_option maxRecDepth 20000 in
theorem ggX0_valueAt_X0_isInside : GoodIn wsX0_valueAt wsX0_isInside := goodIn_r _ [7, 8, 9, 10, 11] (by decide +kernel) (by decide +kernel)
set_option maxRecDepth 20000 in
theorem gX0_valueAt_X0_isInside : GoodIn wsX0_valueAt (wsV RX0 46 RX0 yX0_isInside wsX0_isInside) := goodIn_app (goodIn_of _ (by decide +kernel)) ggX0_valueAt_X0_isInside
theorem dX0_valueAt_0 : decode cX0_valueAt 0 = .ok (.aload_n 0, 1) := by decide +kernel
theorem dX0_valueAt_1 : decode cX0_valueAt 1 = .ok (.iload_n 1, 1) := by decide +kernel
theorem dX0_valueAt_2 : decode cX0_valueAt 2 = .ok (.invokevirtual 46, 3) := by decide +kernel
theorem dX0_valueAt_5 : decode cX0_valueAt 5 = .ok (.ifCond .eq 12, 3) := by decide +kernel
theorem dX0_valueAt_8 : decode cX0_valueAt 8 = .ok (.aload_n 0, 1) := by decide +kernel
theorem dX0_valueAt_9 : decode cX0_valueAt 9 = .ok (.getfield 28, 3) := by decide +kernel
theorem dX0_valueAt_12 : decode cX0_valueAt 12 = .ok (.iload_n 1, 1) := by decide +kernel
theorem dX0_valueAt_13 : decode cX0_valueAt 13 = .ok (.laload, 1) := by decide +kernel
theorem dX0_valueAt_14 : decode cX0_valueAt 14 = .ok (.goto 6, 3) := by decide +kernel
theorem dX0_valueAt_17 : decode cX0_valueAt 17 = .ok (.ldc2_w 50, 3) := by decide +kernel
theorem dX0_valueAt_20 : decode cX0_valueAt 20 = .ok (.lreturn, 1) := by decide +kernel
set_option maxRecDepth 20000 in
theorem ggX0_store_X0_below : GoodIn wsX0_store wsX0_below := goodIn_r _ [7, 8, 9, 26, 27, 28] (by decide +kernel) (by decide +kernel)
set_option maxRecDepth 20000 in
theorem gX0_store_X0_below : GoodIn wsX0_store (wsV RX0 35 RX0 yX0_below wsX0_below) := goodIn_app (goodIn_of _ (by decide +kernel)) ggX0_store_X0_below
set_option maxRecDepth 20000 in
theorem ggX0_store_X0_isKeyAt : GoodIn wsX0_store wsX0_isKeyAt := goodIn_r _ [13, 9, 14, 15, 16, 6, 17, 8, 26, 27, 28] (by decide +kernel) (by decide +kernel)
set_option maxRecDepth 20000 in
theorem gX0_store_X0_isKeyAt : GoodIn wsX0_store (wsV RX0 39 RX0 yX0_isKeyAt wsX0_isKeyAt) := goodIn_app (goodIn_of _ (by decide +kernel)) ggX0_store_X0_isKeyAt
set_option maxRecDepth 20000 in
theorem ggX0_store_X0_insert : GoodIn wsX0_store wsX0_insert := goodIn_r _ [21, 8, 9, 22, 23, 24, 25, 2, 26, 27, 28] (by decide +kernel) (by decide +kernel)
set_option maxRecDepth 20000 in
theorem gX0_store_X0_insert : GoodIn wsX0_store (wsV RX0 52 RX0 yX0_insert wsX0_insert) := goodIn_app (goodIn_of _ (by decide +kernel)) ggX0_store_X0_insert
theorem dX0_store_0 : decode cX0_store 0 = .ok (.aload_n 0, 1) := by decide +kernel
theorem dX0_store_1 : decode cX0_store 1 = .ok (.lload_n 1, 1) := by decide +kernel
theorem dX0_store_2 : decode cX0_store 2 = .ok (.invokevirtual 35, 3) := by decide +kernel
theorem dX0_store_5 : decode cX0_store 5 = .ok (.istore 5, 2) := by decide +kernel
theorem dX0_store_7 : decode cX0_store 7 = .ok (.aload_n 0, 1) := by decide +kernel
theorem dX0_store_8 : decode cX0_store 8 = .ok (.iload 5, 2) := by decide +kernel
theorem dX0_store_10 : decode cX0_store 10 = .ok (.lload_n 1, 1) := by decide +kernel
theorem dX0_store_11 : decode cX0_store 11 = .ok (.invokevirtual 39, 3) := by decide +kernel
theorem dX0_store_14 : decode cX0_store 14 = .ok (.ifCond .ne 15, 3) := by decide +kernel
theorem dX0_store_17 : decode cX0_store 17 = .ok (.aload_n 0, 1) := by decide +kernel
theorem dX0_store_18 : decode cX0_store 18 = .ok (.iload 5, 2) := by decide +kernel
theorem dX0_store_20 : decode cX0_store 20 = .ok (.lload_n 1, 1) := by decide +kernel
theorem dX0_store_21 : decode cX0_store 21 = .ok (.lload_n 3, 1) := by decide +kernel
theorem dX0_store_22 : decode cX0_store 22 = .ok (.invokevirtual 52, 3) := by decide +kernel
theorem dX0_store_25 : decode cX0_store 25 = .ok (.ldc2_w 50, 3) := by decide +kernel
theorem dX0_store_28 : decode cX0_store 28 = .ok (.lreturn, 1) := by decide +kernel
theorem dX0_store_29 : decode cX0_store 29 = .ok (.aload_n 0, 1) := by decide +kernel
theorem dX0_store_30 : decode cX0_store 30 = .ok (.getfield 28, 3) := by decide +kernel
theorem dX0_store_33 : decode cX0_store 33 = .ok (.iload 5, 2) := by decide +kernel
theorem dX0_store_35 : decode cX0_store 35 = .ok (.laload, 1) := by decide +kernel
theorem dX0_store_36 : decode cX0_store 36 = .ok (.lstore 6, 2) := by decide +kernel
theorem dX0_store_38 : decode cX0_store 38 = .ok (.aload_n 0, 1) := by decide +kernel
theorem dX0_store_39 : decode cX0_store 39 = .ok (.getfield 28, 3) := by decide +kernel
theorem dX0_store_42 : decode cX0_store 42 = .ok (.iload 5, 2) := by decide +kernel
theorem dX0_store_44 : decode cX0_store 44 = .ok (.lload_n 3, 1) := by decide +kernel
theorem dX0_store_45 : decode cX0_store 45 = .ok (.lastore, 1) := by decide +kernel
theorem dX0_store_46 : decode cX0_store 46 = .ok (.lload 6, 2) := by decide +kernel
theorem dX0_store_48 : decode cX0_store 48 = .ok (.lreturn, 1) := by decide +kernel
set_option maxRecDepth 20000 in
theorem ggX0_raise_X0_below : GoodIn wsX0_raise wsX0_below := goodIn_r _ [6, 7, 8, 25, 26, 27] (by decide +kernel) (by decide +kernel)
set_option maxRecDepth 20000 in
theorem gX0_raise_X0_below : GoodIn wsX0_raise (wsV RX0 35 RX0 yX0_below wsX0_below) := goodIn_app (goodIn_of _ (by decide +kernel)) ggX0_raise_X0_below
set_option maxRecDepth 20000 in
theorem ggX0_raise_X0_isKeyAt : GoodIn wsX0_raise wsX0_isKeyAt := goodIn_r _ [12, 8, 13, 14, 15, 5, 16, 7, 25, 26, 27] (by decide +kernel) (by decide +kernel)
set_option maxRecDepth 20000 in
theorem gX0_raise_X0_isKeyAt : GoodIn wsX0_raise (wsV RX0 39 RX0 yX0_isKeyAt wsX0_isKeyAt) := goodIn_app (goodIn_of _ (by decide +kernel)) ggX0_raise_X0_isKeyAt
set_option maxRecDepth 20000 in
theorem ggX0_raise_X0_insert : GoodIn wsX0_raise wsX0_insert := goodIn_r _ [20, 7, 8, 21, 22, 23, 24, 1, 25, 26, 27] (by decide +kernel) (by decide +kernel)
set_option maxRecDepth 20000 in
theorem gX0_raise_X0_insert : GoodIn wsX0_raise (wsV RX0 52 RX0 yX0_insert wsX0_insert) := goodIn_app (goodIn_of _ (by decide +kernel)) ggX0_raise_X0_insert
theorem dX0_raise_0 : decode cX0_raise 0 = .ok (.aload_n 0, 1) := by decide +kernel
theorem dX0_raise_1 : decode cX0_raise 1 = .ok (.lload_n 1, 1) := by decide +kernel
theorem dX0_raise_2 : decode cX0_raise 2 = .ok (.invokevirtual 35, 3) := by decide +kernel
theorem dX0_raise_5 : decode cX0_raise 5 = .ok (.istore 5, 2) := by decide +kernel
theorem dX0_raise_7 : decode cX0_raise 7 = .ok (.aload_n 0, 1) := by decide +kernel
theorem dX0_raise_8 : decode cX0_raise 8 = .ok (.iload 5, 2) := by decide +kernel
theorem dX0_raise_10 : decode cX0_raise 10 = .ok (.lload_n 1, 1) := by decide +kernel
theorem dX0_raise_11 : decode cX0_raise 11 = .ok (.invokevirtual 39, 3) := by decide +kernel
theorem dX0_raise_14 : decode cX0_raise 14 = .ok (.ifCond .ne 13, 3) := by decide +kernel
theorem dX0_raise_17 : decode cX0_raise 17 = .ok (.aload_n 0, 1) := by decide +kernel
theorem dX0_raise_18 : decode cX0_raise 18 = .ok (.iload 5, 2) := by decide +kernel
theorem dX0_raise_20 : decode cX0_raise 20 = .ok (.lload_n 1, 1) := by decide +kernel
theorem dX0_raise_21 : decode cX0_raise 21 = .ok (.lload_n 3, 1) := by decide +kernel
theorem dX0_raise_22 : decode cX0_raise 22 = .ok (.invokevirtual 52, 3) := by decide +kernel
theorem dX0_raise_25 : decode cX0_raise 25 = .ok (.lload_n 3, 1) := by decide +kernel
theorem dX0_raise_26 : decode cX0_raise 26 = .ok (.lreturn, 1) := by decide +kernel
theorem dX0_raise_27 : decode cX0_raise 27 = .ok (.aload_n 0, 1) := by decide +kernel
theorem dX0_raise_28 : decode cX0_raise 28 = .ok (.getfield 28, 3) := by decide +kernel
theorem dX0_raise_31 : decode cX0_raise 31 = .ok (.iload 5, 2) := by decide +kernel
theorem dX0_raise_33 : decode cX0_raise 33 = .ok (.dup2, 1) := by decide +kernel
theorem dX0_raise_34 : decode cX0_raise 34 = .ok (.laload, 1) := by decide +kernel
theorem dX0_raise_35 : decode cX0_raise 35 = .ok (.lload_n 3, 1) := by decide +kernel
theorem dX0_raise_36 : decode cX0_raise 36 = .ok (.ladd, 1) := by decide +kernel
theorem dX0_raise_37 : decode cX0_raise 37 = .ok (.lastore, 1) := by decide +kernel
theorem dX0_raise_38 : decode cX0_raise 38 = .ok (.aload_n 0, 1) := by decide +kernel
theorem dX0_raise_39 : decode cX0_raise 39 = .ok (.getfield 28, 3) := by decide +kernel
theorem dX0_raise_42 : decode cX0_raise 42 = .ok (.iload 5, 2) := by decide +kernel
theorem dX0_raise_44 : decode cX0_raise 44 = .ok (.laload, 1) := by decide +kernel
theorem dX0_raise_45 : decode cX0_raise 45 = .ok (.lreturn, 1) := by decide +kernel
theorem dX0_insert_0 : decode cX0_insert 0 = .ok (.iload_n 1, 1) := by decide +kernel
theorem dX0_insert_1 : decode cX0_insert 1 = .ok (.ifCond .lt 23, 3) := by decide +kernel
theorem dX0_insert_4 : decode cX0_insert 4 = .ok (.iload_n 1, 1) := by decide +kernel
theorem dX0_insert_5 : decode cX0_insert 5 = .ok (.aload_n 0, 1) := by decide +kernel
theorem dX0_insert_6 : decode cX0_insert 6 = .ok (.getfield 11, 3) := by decide +kernel
theorem dX0_insert_9 : decode cX0_insert 9 = .ok (.if_icmp .gt 15, 3) := by decide +kernel
theorem dX0_insert_12 : decode cX0_insert 12 = .ok (.aload_n 0, 1) := by decide +kernel
theorem dX0_insert_13 : decode cX0_insert 13 = .ok (.getfield 11, 3) := by decide +kernel
theorem dX0_insert_16 : decode cX0_insert 16 = .ok (.aload_n 0, 1) := by decide +kernel
theorem dX0_insert_17 : decode cX0_insert 17 = .ok (.getfield 24, 3) := by decide +kernel
theorem dX0_insert_20 : decode cX0_insert 20 = .ok (.arraylength, 1) := by decide +kernel
theorem dX0_insert_21 : decode cX0_insert 21 = .ok (.if_icmp .lt 4, 3) := by decide +kernel
theorem dX0_insert_24 : decode cX0_insert 24 = .ok (.return_, 1) := by decide +kernel
theorem dX0_insert_25 : decode cX0_insert 25 = .ok (.aload_n 0, 1) := by decide +kernel
theorem dX0_insert_26 : decode cX0_insert 26 = .ok (.getfield 24, 3) := by decide +kernel
theorem dX0_insert_29 : decode cX0_insert 29 = .ok (.iload_n 1, 1) := by decide +kernel
theorem dX0_insert_30 : decode cX0_insert 30 = .ok (.aload_n 0, 1) := by decide +kernel
theorem dX0_insert_31 : decode cX0_insert 31 = .ok (.getfield 24, 3) := by decide +kernel
theorem dX0_insert_34 : decode cX0_insert 34 = .ok (.iload_n 1, 1) := by decide +kernel
theorem dX0_insert_35 : decode cX0_insert 35 = .ok (.iconst 1, 1) := by decide +kernel
theorem dX0_insert_36 : decode cX0_insert 36 = .ok (.iadd, 1) := by decide +kernel
theorem dX0_insert_37 : decode cX0_insert 37 = .ok (.aload_n 0, 1) := by decide +kernel
theorem dX0_insert_38 : decode cX0_insert 38 = .ok (.getfield 11, 3) := by decide +kernel
theorem dX0_insert_41 : decode cX0_insert 41 = .ok (.iload_n 1, 1) := by decide +kernel
theorem dX0_insert_42 : decode cX0_insert 42 = .ok (.isub, 1) := by decide +kernel
theorem dX0_insert_43 : decode cX0_insert 43 = .ok (.invokestatic 56, 3) := by decide +kernel
theorem dX0_insert_46 : decode cX0_insert 46 = .ok (.aload_n 0, 1) := by decide +kernel
theorem dX0_insert_47 : decode cX0_insert 47 = .ok (.getfield 28, 3) := by decide +kernel
theorem dX0_insert_50 : decode cX0_insert 50 = .ok (.iload_n 1, 1) := by decide +kernel
theorem dX0_insert_51 : decode cX0_insert 51 = .ok (.aload_n 0, 1) := by decide +kernel
theorem dX0_insert_52 : decode cX0_insert 52 = .ok (.getfield 28, 3) := by decide +kernel
theorem dX0_insert_55 : decode cX0_insert 55 = .ok (.iload_n 1, 1) := by decide +kernel
theorem dX0_insert_56 : decode cX0_insert 56 = .ok (.iconst 1, 1) := by decide +kernel
theorem dX0_insert_57 : decode cX0_insert 57 = .ok (.iadd, 1) := by decide +kernel
theorem dX0_insert_58 : decode cX0_insert 58 = .ok (.aload_n 0, 1) := by decide +kernel
theorem dX0_insert_59 : decode cX0_insert 59 = .ok (.getfield 11, 3) := by decide +kernel
theorem dX0_insert_62 : decode cX0_insert 62 = .ok (.iload_n 1, 1) := by decide +kernel
theorem dX0_insert_63 : decode cX0_insert 63 = .ok (.isub, 1) := by decide +kernel
theorem dX0_insert_64 : decode cX0_insert 64 = .ok (.invokestatic 56, 3) := by decide +kernel
theorem dX0_insert_67 : decode cX0_insert 67 = .ok (.aload_n 0, 1) := by decide +kernel
theorem dX0_insert_68 : decode cX0_insert 68 = .ok (.getfield 24, 3) := by decide +kernel
theorem dX0_insert_71 : decode cX0_insert 71 = .ok (.iload_n 1, 1) := by decide +kernel
theorem dX0_insert_72 : decode cX0_insert 72 = .ok (.lload_n 2, 1) := by decide +kernel
theorem dX0_insert_73 : decode cX0_insert 73 = .ok (.lastore, 1) := by decide +kernel
theorem dX0_insert_74 : decode cX0_insert 74 = .ok (.aload_n 0, 1) := by decide +kernel
theorem dX0_insert_75 : decode cX0_insert 75 = .ok (.getfield 28, 3) := by decide +kernel
theorem dX0_insert_78 : decode cX0_insert 78 = .ok (.iload_n 1, 1) := by decide +kernel
theorem dX0_insert_79 : decode cX0_insert 79 = .ok (.lload 4, 2) := by decide +kernel
theorem dX0_insert_81 : decode cX0_insert 81 = .ok (.lastore, 1) := by decide +kernel
theorem dX0_insert_82 : decode cX0_insert 82 = .ok (.aload_n 0, 1) := by decide +kernel
theorem dX0_insert_83 : decode cX0_insert 83 = .ok (.dup, 1) := by decide +kernel
theorem dX0_insert_84 : decode cX0_insert 84 = .ok (.getfield 11, 3) := by decide +kernel
theorem dX0_insert_87 : decode cX0_insert 87 = .ok (.iconst 1, 1) := by decide +kernel
theorem dX0_insert_88 : decode cX0_insert 88 = .ok (.iadd, 1) := by decide +kernel
theorem dX0_insert_89 : decode cX0_insert 89 = .ok (.putfield 11, 3) := by decide +kernel
theorem dX0_insert_92 : decode cX0_insert 92 = .ok (.return_, 1) := by decide +kernel
set_option maxRecDepth 20000 in
theorem ggX0_takeAt_X0_valueAt : GoodIn wsX0_takeAt wsX0_valueAt := goodIn_r _ [5, 6, 7, 8, 9, 10, 4, 11, 12, 22, 23, 24] (by decide +kernel) (by decide +kernel)
set_option maxRecDepth 20000 in
theorem gX0_takeAt_X0_valueAt : GoodIn wsX0_takeAt (wsV RX0 62 RX0 yX0_valueAt wsX0_valueAt) := goodIn_app (goodIn_of _ (by decide +kernel)) ggX0_takeAt_X0_valueAt
set_option maxRecDepth 20000 in
theorem ggX0_takeAt_X0_takeOut : GoodIn wsX0_takeAt wsX0_takeOut := goodIn_r _ [16, 12, 17, 18, 19, 20, 21, 6, 22, 23, 24] (by decide +kernel) (by decide +kernel)
set_option maxRecDepth 20000 in
theorem gX0_takeAt_X0_takeOut : GoodIn wsX0_takeAt (wsV RX0 66 RX0 yX0_takeOut wsX0_takeOut) := goodIn_app (goodIn_of _ (by decide +kernel)) ggX0_takeAt_X0_takeOut
theorem dX0_takeAt_0 : decode cX0_takeAt 0 = .ok (.aload_n 0, 1) := by decide +kernel
theorem dX0_takeAt_1 : decode cX0_takeAt 1 = .ok (.iload_n 1, 1) := by decide +kernel
theorem dX0_takeAt_2 : decode cX0_takeAt 2 = .ok (.invokevirtual 62, 3) := by decide +kernel
theorem dX0_takeAt_5 : decode cX0_takeAt 5 = .ok (.lstore_n 2, 1) := by decide +kernel
theorem dX0_takeAt_6 : decode cX0_takeAt 6 = .ok (.aload_n 0, 1) := by decide +kernel
theorem dX0_takeAt_7 : decode cX0_takeAt 7 = .ok (.iload_n 1, 1) := by decide +kernel
theorem dX0_takeAt_8 : decode cX0_takeAt 8 = .ok (.iload_n 1, 1) := by decide +kernel
theorem dX0_takeAt_9 : decode cX0_takeAt 9 = .ok (.iconst 1, 1) := by decide +kernel
theorem dX0_takeAt_10 : decode cX0_takeAt 10 = .ok (.iadd, 1) := by decide +kernel
theorem dX0_takeAt_11 : decode cX0_takeAt 11 = .ok (.invokevirtual 66, 3) := by decide +kernel
theorem dX0_takeAt_14 : decode cX0_takeAt 14 = .ok (.lload_n 2, 1) := by decide +kernel
theorem dX0_takeAt_15 : decode cX0_takeAt 15 = .ok (.lreturn, 1) := by decide +kernel
theorem dX0_takeOut_0 : decode cX0_takeOut 0 = .ok (.iload_n 1, 1) := by decide +kernel
theorem dX0_takeOut_1 : decode cX0_takeOut 1 = .ok (.ifCond .lt 16, 3) := by decide +kernel
theorem dX0_takeOut_4 : decode cX0_takeOut 4 = .ok (.iload_n 2, 1) := by decide +kernel
theorem dX0_takeOut_5 : decode cX0_takeOut 5 = .ok (.iload_n 1, 1) := by decide +kernel
theorem dX0_takeOut_6 : decode cX0_takeOut 6 = .ok (.if_icmp .le 11, 3) := by decide +kernel
theorem dX0_takeOut_9 : decode cX0_takeOut 9 = .ok (.iload_n 2, 1) := by decide +kernel
theorem dX0_takeOut_10 : decode cX0_takeOut 10 = .ok (.aload_n 0, 1) := by decide +kernel
theorem dX0_takeOut_11 : decode cX0_takeOut 11 = .ok (.getfield 11, 3) := by decide +kernel
theorem dX0_takeOut_14 : decode cX0_takeOut 14 = .ok (.if_icmp .le 4, 3) := by decide +kernel
theorem dX0_takeOut_17 : decode cX0_takeOut 17 = .ok (.return_, 1) := by decide +kernel
theorem dX0_takeOut_18 : decode cX0_takeOut 18 = .ok (.aload_n 0, 1) := by decide +kernel
theorem dX0_takeOut_19 : decode cX0_takeOut 19 = .ok (.getfield 24, 3) := by decide +kernel
theorem dX0_takeOut_22 : decode cX0_takeOut 22 = .ok (.iload_n 2, 1) := by decide +kernel
theorem dX0_takeOut_23 : decode cX0_takeOut 23 = .ok (.aload_n 0, 1) := by decide +kernel
theorem dX0_takeOut_24 : decode cX0_takeOut 24 = .ok (.getfield 24, 3) := by decide +kernel
theorem dX0_takeOut_27 : decode cX0_takeOut 27 = .ok (.iload_n 1, 1) := by decide +kernel
theorem dX0_takeOut_28 : decode cX0_takeOut 28 = .ok (.aload_n 0, 1) := by decide +kernel
theorem dX0_takeOut_29 : decode cX0_takeOut 29 = .ok (.getfield 11, 3) := by decide +kernel
theorem dX0_takeOut_32 : decode cX0_takeOut 32 = .ok (.iload_n 2, 1) := by decide +kernel
theorem dX0_takeOut_33 : decode cX0_takeOut 33 = .ok (.isub, 1) := by decide +kernel
theorem dX0_takeOut_34 : decode cX0_takeOut 34 = .ok (.invokestatic 56, 3) := by decide +kernel
theorem dX0_takeOut_37 : decode cX0_takeOut 37 = .ok (.aload_n 0, 1) := by decide +kernel
theorem dX0_takeOut_38 : decode cX0_takeOut 38 = .ok (.getfield 28, 3) := by decide +kernel
theorem dX0_takeOut_41 : decode cX0_takeOut 41 = .ok (.iload_n 2, 1) := by decide +kernel
theorem dX0_takeOut_42 : decode cX0_takeOut 42 = .ok (.aload_n 0, 1) := by decide +kernel
theorem dX0_takeOut_43 : decode cX0_takeOut 43 = .ok (.getfield 28, 3) := by decide +kernel
theorem dX0_takeOut_46 : decode cX0_takeOut 46 = .ok (.iload_n 1, 1) := by decide +kernel
theorem dX0_takeOut_47 : decode cX0_takeOut 47 = .ok (.aload_n 0, 1) := by decide +kernel
theorem dX0_takeOut_48 : decode cX0_takeOut 48 = .ok (.getfield 11, 3) := by decide +kernel
theorem dX0_takeOut_51 : decode cX0_takeOut 51 = .ok (.iload_n 2, 1) := by decide +kernel
theorem dX0_takeOut_52 : decode cX0_takeOut 52 = .ok (.isub, 1) := by decide +kernel
theorem dX0_takeOut_53 : decode cX0_takeOut 53 = .ok (.invokestatic 56, 3) := by decide +kernel
theorem dX0_takeOut_56 : decode cX0_takeOut 56 = .ok (.aload_n 0, 1) := by decide +kernel
theorem dX0_takeOut_57 : decode cX0_takeOut 57 = .ok (.dup, 1) := by decide +kernel
theorem dX0_takeOut_58 : decode cX0_takeOut 58 = .ok (.getfield 11, 3) := by decide +kernel
theorem dX0_takeOut_61 : decode cX0_takeOut 61 = .ok (.iload_n 2, 1) := by decide +kernel
theorem dX0_takeOut_62 : decode cX0_takeOut 62 = .ok (.iload_n 1, 1) := by decide +kernel
theorem dX0_takeOut_63 : decode cX0_takeOut 63 = .ok (.isub, 1) := by decide +kernel
theorem dX0_takeOut_64 : decode cX0_takeOut 64 = .ok (.isub, 1) := by decide +kernel
theorem dX0_takeOut_65 : decode cX0_takeOut 65 = .ok (.putfield 11, 3) := by decide +kernel
theorem dX0_takeOut_68 : decode cX0_takeOut 68 = .ok (.return_, 1) := by decide +kernel
set_option maxRecDepth 20000 in
theorem ggX0_move_X0_isInside : GoodIn wsX0_move wsX0_isInside := goodIn_r _ [7, 8, 9, 10, 11] (by decide +kernel) (by decide +kernel)
set_option maxRecDepth 20000 in
theorem gX0_move_X0_isInside : GoodIn wsX0_move (wsV RX0 46 RX0 yX0_isInside wsX0_isInside) := goodIn_app (goodIn_of _ (by decide +kernel)) ggX0_move_X0_isInside
theorem dX0_move_0 : decode cX0_move 0 = .ok (.aload_n 0, 1) := by decide +kernel
theorem dX0_move_1 : decode cX0_move 1 = .ok (.iload_n 1, 1) := by decide +kernel
theorem dX0_move_2 : decode cX0_move 2 = .ok (.invokevirtual 46, 3) := by decide +kernel
theorem dX0_move_5 : decode cX0_move 5 = .ok (.ifCond .eq 35, 3) := by decide +kernel
theorem dX0_move_8 : decode cX0_move 8 = .ok (.aload_n 0, 1) := by decide +kernel
theorem dX0_move_9 : decode cX0_move 9 = .ok (.iload_n 2, 1) := by decide +kernel
theorem dX0_move_10 : decode cX0_move 10 = .ok (.invokevirtual 46, 3) := by decide +kernel
theorem dX0_move_13 : decode cX0_move 13 = .ok (.ifCond .eq 27, 3) := by decide +kernel
theorem dX0_move_16 : decode cX0_move 16 = .ok (.aload_n 0, 1) := by decide +kernel
theorem dX0_move_17 : decode cX0_move 17 = .ok (.getfield 24, 3) := by decide +kernel
theorem dX0_move_20 : decode cX0_move 20 = .ok (.iload_n 2, 1) := by decide +kernel
theorem dX0_move_21 : decode cX0_move 21 = .ok (.aload_n 0, 1) := by decide +kernel
theorem dX0_move_22 : decode cX0_move 22 = .ok (.getfield 24, 3) := by decide +kernel
theorem dX0_move_25 : decode cX0_move 25 = .ok (.iload_n 1, 1) := by decide +kernel
theorem dX0_move_26 : decode cX0_move 26 = .ok (.laload, 1) := by decide +kernel
theorem dX0_move_27 : decode cX0_move 27 = .ok (.lastore, 1) := by decide +kernel
theorem dX0_move_28 : decode cX0_move 28 = .ok (.aload_n 0, 1) := by decide +kernel
theorem dX0_move_29 : decode cX0_move 29 = .ok (.getfield 28, 3) := by decide +kernel
theorem dX0_move_32 : decode cX0_move 32 = .ok (.iload_n 2, 1) := by decide +kernel
theorem dX0_move_33 : decode cX0_move 33 = .ok (.aload_n 0, 1) := by decide +kernel
theorem dX0_move_34 : decode cX0_move 34 = .ok (.getfield 28, 3) := by decide +kernel
theorem dX0_move_37 : decode cX0_move 37 = .ok (.iload_n 1, 1) := by decide +kernel
theorem dX0_move_38 : decode cX0_move 38 = .ok (.laload, 1) := by decide +kernel
theorem dX0_move_39 : decode cX0_move 39 = .ok (.lastore, 1) := by decide +kernel
theorem dX0_move_40 : decode cX0_move 40 = .ok (.return_, 1) := by decide +kernel
theorem dX0_shorten_0 : decode cX0_shorten 0 = .ok (.iload_n 1, 1) := by decide +kernel
theorem dX0_shorten_1 : decode cX0_shorten 1 = .ok (.ifCond .lt 16, 3) := by decide +kernel
theorem dX0_shorten_4 : decode cX0_shorten 4 = .ok (.iload_n 1, 1) := by decide +kernel
theorem dX0_shorten_5 : decode cX0_shorten 5 = .ok (.aload_n 0, 1) := by decide +kernel
theorem dX0_shorten_6 : decode cX0_shorten 6 = .ok (.getfield 11, 3) := by decide +kernel
theorem dX0_shorten_9 : decode cX0_shorten 9 = .ok (.if_icmp .ge 8, 3) := by decide +kernel
theorem dX0_shorten_12 : decode cX0_shorten 12 = .ok (.aload_n 0, 1) := by decide +kernel
theorem dX0_shorten_13 : decode cX0_shorten 13 = .ok (.iload_n 1, 1) := by decide +kernel
theorem dX0_shorten_14 : decode cX0_shorten 14 = .ok (.putfield 11, 3) := by decide +kernel
theorem dX0_shorten_17 : decode cX0_shorten 17 = .ok (.return_, 1) := by decide +kernel
theorem dX0_groups_0 : decode cX0_groups 0 = .ok (.iconst 0, 1) := by decide +kernel
theorem dX0_groups_1 : decode cX0_groups 1 = .ok (.istore_n 2, 1) := by decide +kernel
theorem dX0_groups_2 : decode cX0_groups 2 = .ok (.iconst 0, 1) := by decide +kernel
theorem dX0_groups_3 : decode cX0_groups 3 = .ok (.istore_n 3, 1) := by decide +kernel
theorem dX0_groups_4 : decode cX0_groups 4 = .ok (.iload_n 3, 1) := by decide +kernel
theorem dX0_groups_5 : decode cX0_groups 5 = .ok (.aload_n 0, 1) := by decide +kernel
theorem dX0_groups_6 : decode cX0_groups 6 = .ok (.getfield 11, 3) := by decide +kernel
theorem dX0_groups_9 : decode cX0_groups 9 = .ok (.if_icmp .ge 38, 3) := by decide +kernel
theorem dX0_groups_12 : decode cX0_groups 12 = .ok (.iload_n 3, 1) := by decide +kernel
theorem dX0_groups_13 : decode cX0_groups 13 = .ok (.ifCond .eq 25, 3) := by decide +kernel
theorem dX0_groups_16 : decode cX0_groups 16 = .ok (.aload_n 0, 1) := by decide +kernel
theorem dX0_groups_17 : decode cX0_groups 17 = .ok (.getfield 24, 3) := by decide +kernel
theorem dX0_groups_20 : decode cX0_groups 20 = .ok (.iload_n 3, 1) := by decide +kernel
theorem dX0_groups_21 : decode cX0_groups 21 = .ok (.laload, 1) := by decide +kernel
theorem dX0_groups_22 : decode cX0_groups 22 = .ok (.iload_n 1, 1) := by decide +kernel
theorem dX0_groups_23 : decode cX0_groups 23 = .ok (.lshr, 1) := by decide +kernel
theorem dX0_groups_24 : decode cX0_groups 24 = .ok (.aload_n 0, 1) := by decide +kernel
theorem dX0_groups_25 : decode cX0_groups 25 = .ok (.getfield 24, 3) := by decide +kernel
theorem dX0_groups_28 : decode cX0_groups 28 = .ok (.iload_n 3, 1) := by decide +kernel
theorem dX0_groups_29 : decode cX0_groups 29 = .ok (.iconst 1, 1) := by decide +kernel
theorem dX0_groups_30 : decode cX0_groups 30 = .ok (.isub, 1) := by decide +kernel
theorem dX0_groups_31 : decode cX0_groups 31 = .ok (.laload, 1) := by decide +kernel
theorem dX0_groups_32 : decode cX0_groups 32 = .ok (.iload_n 1, 1) := by decide +kernel
theorem dX0_groups_33 : decode cX0_groups 33 = .ok (.lshr, 1) := by decide +kernel
theorem dX0_groups_34 : decode cX0_groups 34 = .ok (.lcmp, 1) := by decide +kernel
theorem dX0_groups_35 : decode cX0_groups 35 = .ok (.ifCond .eq 6, 3) := by decide +kernel
theorem dX0_groups_38 : decode cX0_groups 38 = .ok (.iinc 2 1, 3) := by decide +kernel
theorem dX0_groups_41 : decode cX0_groups 41 = .ok (.iinc 3 1, 3) := by decide +kernel
theorem dX0_groups_44 : decode cX0_groups 44 = .ok (.goto (-40), 3) := by decide +kernel
theorem dX0_groups_47 : decode cX0_groups 47 = .ok (.iload_n 2, 1) := by decide +kernel
theorem dX0_groups_48 : decode cX0_groups 48 = .ok (.ireturn, 1) := by decide +kernel
theorem dX0_isInside_0 : decode cX0_isInside 0 = .ok (.iload_n 1, 1) := by decide +kernel
theorem dX0_isInside_1 : decode cX0_isInside 1 = .ok (.ifCond .lt 15, 3) := by decide +kernel
theorem dX0_isInside_4 : decode cX0_isInside 4 = .ok (.iload_n 1, 1) := by decide +kernel
theorem dX0_isInside_5 : decode cX0_isInside 5 = .ok (.aload_n 0, 1) := by decide +kernel
theorem dX0_isInside_6 : decode cX0_isInside 6 = .ok (.getfield 11, 3) := by decide +kernel
theorem dX0_isInside_9 : decode cX0_isInside 9 = .ok (.if_icmp .ge 7, 3) := by decide +kernel
theorem dX0_isInside_12 : decode cX0_isInside 12 = .ok (.iconst 1, 1) := by decide +kernel
theorem dX0_isInside_13 : decode cX0_isInside 13 = .ok (.goto 4, 3) := by decide +kernel
theorem dX0_isInside_16 : decode cX0_isInside 16 = .ok (.iconst 0, 1) := by decide +kernel
theorem dX0_isInside_17 : decode cX0_isInside 17 = .ok (.ireturn, 1) := by decide +kernel
set_option maxRecDepth 20000 in
theorem ggX0_isKeyAt_X0_isInside : GoodIn wsX0_isKeyAt wsX0_isInside := goodIn_r _ [6, 7, 8, 9, 10] (by decide +kernel) (by decide +kernel)
set_option maxRecDepth 20000 in
theorem gX0_isKeyAt_X0_isInside : GoodIn wsX0_isKeyAt (wsV RX0 46 RX0 yX0_isInside wsX0_isInside) := goodIn_app (goodIn_of _ (by decide +kernel)) ggX0_isKeyAt_X0_isInside
theorem dX0_isKeyAt_0 : decode cX0_isKeyAt 0 = .ok (.aload_n 0, 1) := by decide +kernel
theorem dX0_isKeyAt_1 : decode cX0_isKeyAt 1 = .ok (.iload_n 1, 1) := by decide +kernel
theorem dX0_isKeyAt_2 : decode cX0_isKeyAt 2 = .ok (.invokevirtual 46, 3) := by decide +kernel
theorem dX0_isKeyAt_5 : decode cX0_isKeyAt 5 = .ok (.ifCond .eq 18, 3) := by decide +kernel
theorem dX0_isKeyAt_8 : decode cX0_isKeyAt 8 = .ok (.aload_n 0, 1) := by decide +kernel
theorem dX0_isKeyAt_9 : decode cX0_isKeyAt 9 = .ok (.getfield 24, 3) := by decide +kernel
theorem dX0_isKeyAt_12 : decode cX0_isKeyAt 12 = .ok (.iload_n 1, 1) := by decide +kernel
theorem dX0_isKeyAt_13 : decode cX0_isKeyAt 13 = .ok (.laload, 1) := by decide +kernel
theorem dX0_isKeyAt_14 : decode cX0_isKeyAt 14 = .ok (.lload_n 2, 1) := by decide +kernel
theorem dX0_isKeyAt_15 : decode cX0_isKeyAt 15 = .ok (.lcmp, 1) := by decide +kernel
theorem dX0_isKeyAt_16 : decode cX0_isKeyAt 16 = .ok (.ifCond .ne 7, 3) := by decide +kernel
theorem dX0_isKeyAt_19 : decode cX0_isKeyAt 19 = .ok (.iconst 1, 1) := by decide +kernel
theorem dX0_isKeyAt_20 : decode cX0_isKeyAt 20 = .ok (.goto 4, 3) := by decide +kernel
theorem dX0_isKeyAt_23 : decode cX0_isKeyAt 23 = .ok (.iconst 0, 1) := by decide +kernel
theorem dX0_isKeyAt_24 : decode cX0_isKeyAt 24 = .ok (.ireturn, 1) := by decide +kernel
end
section
set_option maxRecDepth 20000 in
theorem ggX1_init_X0_init : GoodIn wsX1_init wsX0_init := goodIn_r _ [18, 19, 2, 3, 20, 21, 22, 23, 24, 25, 26, 27, 28, 29, 30, 31, 32, 33] (by decide +kernel) (by decide +kernel)
set_option maxRecDepth 20000 in
theorem gX1_init_X0_init : GoodIn wsX1_init (wsX0_init) := ggX1_init_X0_init
theorem dX1_init_0 : decode cX1_init 0 = .ok (.aload_n 0, 1) := by decide +kernel
theorem dX1_init_1 : decode cX1_init 1 = .ok (.invokespecial 3, 3) := by decide +kernel
theorem dX1_init_4 : decode cX1_init 4 = .ok (.aload_n 0, 1) := by decide +kernel
theorem dX1_init_5 : decode cX1_init 5 = .ok (.new 9, 3) := by decide +kernel
theorem dX1_init_8 : decode cX1_init 8 = .ok (.dup, 1) := by decide +kernel
theorem dX1_init_9 : decode cX1_init 9 = .ok (.sipush 512, 3) := by decide +kernel
theorem dX1_init_12 : decode cX1_init 12 = .ok (.invokespecial 11, 3) := by decide +kernel
theorem dX1_init_15 : decode cX1_init 15 = .ok (.putfield 14, 3) := by decide +kernel
theorem dX1_init_18 : decode cX1_init 18 = .ok (.aload_n 0, 1) := by decide +kernel
theorem dX1_init_19 : decode cX1_init 19 = .ok (.new 9, 3) := by decide +kernel
theorem dX1_init_22 : decode cX1_init 22 = .ok (.dup, 1) := by decide +kernel
theorem dX1_init_23 : decode cX1_init 23 = .ok (.sipush 512, 3) := by decide +kernel
theorem dX1_init_26 : decode cX1_init 26 = .ok (.invokespecial 11, 3) := by decide +kernel
theorem dX1_init_29 : decode cX1_init 29 = .ok (.putfield 18, 3) := by decide +kernel
theorem dX1_init_32 : decode cX1_init 32 = .ok (.aload_n 0, 1) := by decide +kernel
theorem dX1_init_33 : decode cX1_init 33 = .ok (.new 9, 3) := by decide +kernel
theorem dX1_init_36 : decode cX1_init 36 = .ok (.dup, 1) := by decide +kernel
theorem dX1_init_37 : decode cX1_init 37 = .ok (.sipush 512, 3) := by decide +kernel
theorem dX1_init_40 : decode cX1_init 40 = .ok (.invokespecial 11, 3) := by decide +kernel
theorem dX1_init_43 : decode cX1_init 43 = .ok (.putfield 21, 3) := by decide +kernel
theorem dX1_init_46 : decode cX1_init 46 = .ok (.aload_n 0, 1) := by decide +kernel
theorem dX1_init_47 : decode cX1_init 47 = .ok (.new 9, 3) := by decide +kernel
theorem dX1_init_50 : decode cX1_init 50 = .ok (.dup, 1) := by decide +kernel
theorem dX1_init_51 : decode cX1_init 51 = .ok (.sipush 512, 3) := by decide +kernel
theorem dX1_init_54 : decode cX1_init 54 = .ok (.invokespecial 11, 3) := by decide +kernel
theorem dX1_init_57 : decode cX1_init 57 = .ok (.putfield 24, 3) := by decide +kernel
theorem dX1_init_60 : decode cX1_init 60 = .ok (.aload_n 0, 1) := by decide +kernel
theorem dX1_init_61 : decode cX1_init 61 = .ok (.new 9, 3) := by decide +kernel
theorem dX1_init_64 : decode cX1_init 64 = .ok (.dup, 1) := by decide +kernel
theorem dX1_init_65 : decode cX1_init 65 = .ok (.sipush 512, 3) := by decide +kernel
theorem dX1_init_68 : decode cX1_init 68 = .ok (.invokespecial 11, 3) := by decide +kernel
theorem dX1_init_71 : decode cX1_init 71 = .ok (.putfield 27, 3) := by decide +kernel
theorem dX1_init_74 : decode cX1_init 74 = .ok (.aload_n 0, 1) := by decide +kernel
theorem dX1_init_75 : decode cX1_init 75 = .ok (.new 9, 3) := by decide +kernel
theorem dX1_init_78 : decode cX1_init 78 = .ok (.dup, 1) := by decide +kernel
theorem dX1_init_79 : decode cX1_init 79 = .ok (.sipush 752, 3) := by decide +kernel
theorem dX1_init_82 : decode cX1_init 82 = .ok (.invokespecial 11, 3) := by decide +kernel
theorem dX1_init_85 : decode cX1_init 85 = .ok (.putfield 30, 3) := by decide +kernel
theorem dX1_init_88 : decode cX1_init 88 = .ok (.aload_n 0, 1) := by decide +kernel
theorem dX1_init_89 : decode cX1_init 89 = .ok (.new 9, 3) := by decide +kernel
theorem dX1_init_92 : decode cX1_init 92 = .ok (.dup, 1) := by decide +kernel
theorem dX1_init_93 : decode cX1_init 93 = .ok (.sipush 752, 3) := by decide +kernel
theorem dX1_init_96 : decode cX1_init 96 = .ok (.invokespecial 11, 3) := by decide +kernel
theorem dX1_init_99 : decode cX1_init 99 = .ok (.putfield 33, 3) := by decide +kernel
theorem dX1_init_102 : decode cX1_init 102 = .ok (.aload_n 0, 1) := by decide +kernel
theorem dX1_init_103 : decode cX1_init 103 = .ok (.lconst 0, 1) := by decide +kernel
theorem dX1_init_104 : decode cX1_init 104 = .ok (.putfield 36, 3) := by decide +kernel
theorem dX1_init_107 : decode cX1_init 107 = .ok (.aload_n 0, 1) := by decide +kernel
theorem dX1_init_108 : decode cX1_init 108 = .ok (.lconst 0, 1) := by decide +kernel
theorem dX1_init_109 : decode cX1_init 109 = .ok (.putfield 40, 3) := by decide +kernel
theorem dX1_init_112 : decode cX1_init 112 = .ok (.return_, 1) := by decide +kernel
set_option maxRecDepth 20000 in
theorem ggX1_add_X1_pairKey : GoodIn wsX1_add wsX1_pairKey := goodIn_r _ [5, 6] (by decide +kernel) (by decide +kernel)
set_option maxRecDepth 20000 in
theorem gX1_add_X1_pairKey : GoodIn wsX1_add (va_wsS RX1 43 yX1_pairKey wsX1_pairKey) := goodIn_app (goodIn_of _ (by decide +kernel)) ggX1_add_X1_pairKey
set_option maxRecDepth 20000 in
theorem ggX1_add_X0_raise : GoodIn wsX1_add wsX0_raise := goodIn_r _ [11, 12, 13, 14, 15, 10, 16, 17, 18, 19, 20, 21, 22, 23, 24, 25, 26, 27, 28, 29, 30, 31, 32, 33, 34, 44, 45, 46] (by decide +kernel) (by decide +kernel)
set_option maxRecDepth 20000 in
theorem gX1_add_X0_raise : GoodIn wsX1_add (wsV RX1 47 RX0 yX0_raise wsX0_raise) := goodIn_app (goodIn_of _ (by decide +kernel)) ggX1_add_X0_raise
theorem dX1_add_0 : decode cX1_add 0 = .ok (.aload_n 0, 1) := by decide +kernel
theorem dX1_add_1 : decode cX1_add 1 = .ok (.getfield 14, 3) := by decide +kernel
theorem dX1_add_4 : decode cX1_add 4 = .ok (.iload_n 1, 1) := by decide +kernel
theorem dX1_add_5 : decode cX1_add 5 = .ok (.iload_n 2, 1) := by decide +kernel
theorem dX1_add_6 : decode cX1_add 6 = .ok (.invokestatic 43, 3) := by decide +kernel
theorem dX1_add_9 : decode cX1_add 9 = .ok (.iload_n 3, 1) := by decide +kernel
theorem dX1_add_10 : decode cX1_add 10 = .ok (.i2l, 1) := by decide +kernel
theorem dX1_add_11 : decode cX1_add 11 = .ok (.invokevirtual 47, 3) := by decide +kernel
theorem dX1_add_14 : decode cX1_add 14 = .ok (.lreturn, 1) := by decide +kernel
set_option maxRecDepth 20000 in
theorem ggX1_count_X1_pairKey : GoodIn wsX1_count wsX1_pairKey := goodIn_r _ [5, 6] (by decide +kernel) (by decide +kernel)
set_option maxRecDepth 20000 in
theorem gX1_count_X1_pairKey : GoodIn wsX1_count (va_wsS RX1 43 yX1_pairKey wsX1_pairKey) := goodIn_app (goodIn_of _ (by decide +kernel)) ggX1_count_X1_pairKey
set_option maxRecDepth 20000 in
theorem ggX1_count_X0_find : GoodIn wsX1_count wsX0_find := goodIn_r _ [11, 12, 13, 14, 10, 15, 16, 17, 18, 19, 20, 21, 22, 23, 24, 25, 41, 42, 43] (by decide +kernel) (by decide +kernel)
set_option maxRecDepth 20000 in
theorem gX1_count_X0_find : GoodIn wsX1_count (wsV RX1 51 RX0 yX0_find wsX0_find) := goodIn_app (goodIn_of _ (by decide +kernel)) ggX1_count_X0_find
set_option maxRecDepth 20000 in
theorem ggX1_count_X0_valueAt : GoodIn wsX1_count wsX0_valueAt := goodIn_r _ [29, 30, 31, 22, 23, 24, 10, 25, 16, 41, 42, 43] (by decide +kernel) (by decide +kernel)
set_option maxRecDepth 20000 in
theorem gX1_count_X0_valueAt : GoodIn wsX1_count (wsV RX1 55 RX0 yX0_valueAt wsX0_valueAt) := goodIn_app (goodIn_of _ (by decide +kernel)) ggX1_count_X0_valueAt
theorem dX1_count_0 : decode cX1_count 0 = .ok (.aload_n 0, 1) := by decide +kernel
theorem dX1_count_1 : decode cX1_count 1 = .ok (.getfield 14, 3) := by decide +kernel
theorem dX1_count_4 : decode cX1_count 4 = .ok (.aload_n 0, 1) := by decide +kernel
theorem dX1_count_5 : decode cX1_count 5 = .ok (.getfield 14, 3) := by decide +kernel
theorem dX1_count_8 : decode cX1_count 8 = .ok (.iload_n 1, 1) := by decide +kernel
theorem dX1_count_9 : decode cX1_count 9 = .ok (.iload_n 2, 1) := by decide +kernel
theorem dX1_count_10 : decode cX1_count 10 = .ok (.invokestatic 43, 3) := by decide +kernel
theorem dX1_count_13 : decode cX1_count 13 = .ok (.invokevirtual 51, 3) := by decide +kernel
theorem dX1_count_16 : decode cX1_count 16 = .ok (.invokevirtual 55, 3) := by decide +kernel
theorem dX1_count_19 : decode cX1_count 19 = .ok (.lreturn, 1) := by decide +kernel
set_option maxRecDepth 20000 in
theorem ggX1_drop_X1_pairKey : GoodIn wsX1_drop wsX1_pairKey := goodIn_r _ [5, 6] (by decide +kernel) (by decide +kernel)
set_option maxRecDepth 20000 in
theorem gX1_drop_X1_pairKey : GoodIn wsX1_drop (va_wsS RX1 43 yX1_pairKey wsX1_pairKey) := goodIn_app (goodIn_of _ (by decide +kernel)) ggX1_drop_X1_pairKey
set_option maxRecDepth 20000 in
theorem ggX1_drop_X0_find : GoodIn wsX1_drop wsX0_find := goodIn_r _ [11, 12, 13, 14, 10, 15, 16, 17, 18, 19, 20, 21, 22, 23, 24, 25, 53, 54, 55] (by decide +kernel) (by decide +kernel)
set_option maxRecDepth 20000 in
theorem gX1_drop_X0_find : GoodIn wsX1_drop (wsV RX1 51 RX0 yX0_find wsX0_find) := goodIn_app (goodIn_of _ (by decide +kernel)) ggX1_drop_X0_find
set_option maxRecDepth 20000 in
theorem ggX1_drop_X0_takeAt : GoodIn wsX1_drop wsX0_takeAt := goodIn_r _ [29, 30, 31, 32, 10, 33, 34, 35, 22, 23, 24, 25, 16, 36, 37, 38, 39, 17, 40, 41, 42, 43, 53, 54, 55] (by decide +kernel) (by decide +kernel)
set_option maxRecDepth 20000 in
theorem gX1_drop_X0_takeAt : GoodIn wsX1_drop (wsV RX1 59 RX0 yX0_takeAt wsX0_takeAt) := goodIn_app (goodIn_of _ (by decide +kernel)) ggX1_drop_X0_takeAt
theorem dX1_drop_0 : decode cX1_drop 0 = .ok (.aload_n 0, 1) := by decide +kernel
theorem dX1_drop_1 : decode cX1_drop 1 = .ok (.getfield 14, 3) := by decide +kernel
theorem dX1_drop_4 : decode cX1_drop 4 = .ok (.aload_n 0, 1) := by decide +kernel
theorem dX1_drop_5 : decode cX1_drop 5 = .ok (.getfield 14, 3) := by decide +kernel
theorem dX1_drop_8 : decode cX1_drop 8 = .ok (.iload_n 1, 1) := by decide +kernel
theorem dX1_drop_9 : decode cX1_drop 9 = .ok (.iload_n 2, 1) := by decide +kernel
theorem dX1_drop_10 : decode cX1_drop 10 = .ok (.invokestatic 43, 3) := by decide +kernel
theorem dX1_drop_13 : decode cX1_drop 13 = .ok (.invokevirtual 51, 3) := by decide +kernel
theorem dX1_drop_16 : decode cX1_drop 16 = .ok (.invokevirtual 59, 3) := by decide +kernel
theorem dX1_drop_19 : decode cX1_drop 19 = .ok (.lreturn, 1) := by decide +kernel
set_option maxRecDepth 20000 in
theorem ggX1_total_X0_held : GoodIn wsX1_total wsX0_held := goodIn_r _ [7, 8, 41, 42, 43] (by decide +kernel) (by decide +kernel)
set_option maxRecDepth 20000 in
theorem gX1_total_X0_held : GoodIn wsX1_total (wsV RX1 62 RX0 yX0_held wsX0_held) := goodIn_app (goodIn_of _ (by decide +kernel)) ggX1_total_X0_held
set_option maxRecDepth 20000 in
theorem ggX1_total_X0_keyAt : GoodIn wsX1_total wsX0_keyAt := goodIn_r _ [12, 13, 14, 15, 16, 17, 6, 18, 8, 41, 42, 43] (by decide +kernel) (by decide +kernel)
set_option maxRecDepth 20000 in
theorem gX1_total_X0_keyAt : GoodIn wsX1_total (wsV RX1 66 RX0 yX0_keyAt wsX0_keyAt) := goodIn_app (goodIn_of _ (by decide +kernel)) ggX1_total_X0_keyAt
set_option maxRecDepth 20000 in
theorem ggX1_total_X1_firstOf : GoodIn wsX1_total wsX1_firstOf := goodIn_r _ [22] (by decide +kernel) (by decide +kernel)
set_option maxRecDepth 20000 in
theorem gX1_total_X1_firstOf : GoodIn wsX1_total (va_wsS RX1 71 yX1_firstOf wsX1_firstOf) := goodIn_app (goodIn_of _ (by decide +kernel)) ggX1_total_X1_firstOf
set_option maxRecDepth 20000 in
theorem ggX1_total_X1_secondOf : GoodIn wsX1_total wsX1_secondOf := goodIn_r _ [25, 26] (by decide +kernel) (by decide +kernel)
set_option maxRecDepth 20000 in
theorem gX1_total_X1_secondOf : GoodIn wsX1_total (va_wsS RX1 74 yX1_secondOf wsX1_secondOf) := goodIn_app (goodIn_of _ (by decide +kernel)) ggX1_total_X1_secondOf
set_option maxRecDepth 20000 in
theorem ggX1_total_X0_valueAt : GoodIn wsX1_total wsX0_valueAt := goodIn_r _ [30, 31, 14, 15, 16, 17, 6, 18, 8, 41, 42, 43] (by decide +kernel) (by decide +kernel)
set_option maxRecDepth 20000 in
theorem gX1_total_X0_valueAt : GoodIn wsX1_total (wsV RX1 55 RX0 yX0_valueAt wsX0_valueAt) := goodIn_app (goodIn_of _ (by decide +kernel)) ggX1_total_X0_valueAt
theorem dX1_total_0 : decode cX1_total 0 = .ok (.lconst 0, 1) := by decide +kernel
theorem dX1_total_1 : decode cX1_total 1 = .ok (.lstore_n 1, 1) := by decide +kernel
theorem dX1_total_2 : decode cX1_total 2 = .ok (.iconst 0, 1) := by decide +kernel
theorem dX1_total_3 : decode cX1_total 3 = .ok (.istore_n 3, 1) := by decide +kernel
theorem dX1_total_4 : decode cX1_total 4 = .ok (.iload_n 3, 1) := by decide +kernel
theorem dX1_total_5 : decode cX1_total 5 = .ok (.aload_n 0, 1) := by decide +kernel
theorem dX1_total_6 : decode cX1_total 6 = .ok (.getfield 14, 3) := by decide +kernel
theorem dX1_total_9 : decode cX1_total 9 = .ok (.invokevirtual 62, 3) := by decide +kernel
theorem dX1_total_12 : decode cX1_total 12 = .ok (.if_icmp .ge 48, 3) := by decide +kernel
theorem dX1_total_15 : decode cX1_total 15 = .ok (.aload_n 0, 1) := by decide +kernel
theorem dX1_total_16 : decode cX1_total 16 = .ok (.getfield 14, 3) := by decide +kernel
theorem dX1_total_19 : decode cX1_total 19 = .ok (.iload_n 3, 1) := by decide +kernel
theorem dX1_total_20 : decode cX1_total 20 = .ok (.invokevirtual 66, 3) := by decide +kernel
theorem dX1_total_23 : decode cX1_total 23 = .ok (.lstore 4, 2) := by decide +kernel
theorem dX1_total_25 : decode cX1_total 25 = .ok (.lload_n 1, 1) := by decide +kernel
theorem dX1_total_26 : decode cX1_total 26 = .ok (.ldc2_w 69, 3) := by decide +kernel
theorem dX1_total_29 : decode cX1_total 29 = .ok (.lload 4, 2) := by decide +kernel
theorem dX1_total_31 : decode cX1_total 31 = .ok (.invokestatic 71, 3) := by decide +kernel
theorem dX1_total_34 : decode cX1_total 34 = .ok (.i2l, 1) := by decide +kernel
theorem dX1_total_35 : decode cX1_total 35 = .ok (.lmul, 1) := by decide +kernel
theorem dX1_total_36 : decode cX1_total 36 = .ok (.lload 4, 2) := by decide +kernel
theorem dX1_total_38 : decode cX1_total 38 = .ok (.invokestatic 74, 3) := by decide +kernel
theorem dX1_total_41 : decode cX1_total 41 = .ok (.i2l, 1) := by decide +kernel
theorem dX1_total_42 : decode cX1_total 42 = .ok (.ladd, 1) := by decide +kernel
theorem dX1_total_43 : decode cX1_total 43 = .ok (.aload_n 0, 1) := by decide +kernel
theorem dX1_total_44 : decode cX1_total 44 = .ok (.getfield 14, 3) := by decide +kernel
theorem dX1_total_47 : decode cX1_total 47 = .ok (.iload_n 3, 1) := by decide +kernel
theorem dX1_total_48 : decode cX1_total 48 = .ok (.invokevirtual 55, 3) := by decide +kernel
theorem dX1_total_51 : decode cX1_total 51 = .ok (.lmul, 1) := by decide +kernel
theorem dX1_total_52 : decode cX1_total 52 = .ok (.ladd, 1) := by decide +kernel
theorem dX1_total_53 : decode cX1_total 53 = .ok (.lstore_n 1, 1) := by decide +kernel
theorem dX1_total_54 : decode cX1_total 54 = .ok (.iinc 3 1, 3) := by decide +kernel
theorem dX1_total_57 : decode cX1_total 57 = .ok (.goto (-53), 3) := by decide +kernel
theorem dX1_total_60 : decode cX1_total 60 = .ok (.lload_n 1, 1) := by decide +kernel
theorem dX1_total_61 : decode cX1_total 61 = .ok (.lreturn, 1) := by decide +kernel
set_option maxRecDepth 20000 in
theorem ggX1_sweep_X0_held : GoodIn wsX1_sweep wsX0_held := goodIn_r _ [6, 7, 47, 48, 49] (by decide +kernel) (by decide +kernel)
set_option maxRecDepth 20000 in
theorem gX1_sweep_X0_held : GoodIn wsX1_sweep (wsV RX1 62 RX0 yX0_held wsX0_held) := goodIn_app (goodIn_of _ (by decide +kernel)) ggX1_sweep_X0_held
set_option maxRecDepth 20000 in
theorem ggX1_sweep_X0_keyAt : GoodIn wsX1_sweep wsX0_keyAt := goodIn_r _ [11, 12, 13, 14, 15, 16, 5, 17, 7, 47, 48, 49] (by decide +kernel) (by decide +kernel)
set_option maxRecDepth 20000 in
theorem gX1_sweep_X0_keyAt : GoodIn wsX1_sweep (wsV RX1 66 RX0 yX0_keyAt wsX0_keyAt) := goodIn_app (goodIn_of _ (by decide +kernel)) ggX1_sweep_X0_keyAt
set_option maxRecDepth 20000 in
theorem ggX1_sweep_X1_hasEvenSum : GoodIn wsX1_sweep wsX1_hasEvenSum := goodIn_r _ [21, 22, 23, 20, 24, 25, 26, 27, 28] (by decide +kernel) (by decide +kernel)
set_option maxRecDepth 20000 in
theorem gX1_sweep_X1_hasEvenSum : GoodIn wsX1_sweep (va_wsS RX1 77 yX1_hasEvenSum wsX1_hasEvenSum) := goodIn_app (goodIn_of _ (by decide +kernel)) ggX1_sweep_X1_hasEvenSum
set_option maxRecDepth 20000 in
theorem ggX1_sweep_X0_move : GoodIn wsX1_sweep wsX0_move := goodIn_r _ [32, 12, 33, 14, 15, 16, 5, 17, 7, 47, 48, 49] (by decide +kernel) (by decide +kernel)
set_option maxRecDepth 20000 in
theorem gX1_sweep_X0_move : GoodIn wsX1_sweep (wsV RX1 81 RX0 yX0_move wsX0_move) := goodIn_app (goodIn_of _ (by decide +kernel)) ggX1_sweep_X0_move
set_option maxRecDepth 20000 in
theorem ggX1_sweep_X0_shorten : GoodIn wsX1_sweep wsX0_shorten := goodIn_r _ [37, 7, 47, 48, 49] (by decide +kernel) (by decide +kernel)
set_option maxRecDepth 20000 in
theorem gX1_sweep_X0_shorten : GoodIn wsX1_sweep (wsV RX1 85 RX0 yX0_shorten wsX0_shorten) := goodIn_app (goodIn_of _ (by decide +kernel)) ggX1_sweep_X0_shorten
theorem dX1_sweep_0 : decode cX1_sweep 0 = .ok (.aload_n 0, 1) := by decide +kernel
theorem dX1_sweep_1 : decode cX1_sweep 1 = .ok (.getfield 14, 3) := by decide +kernel
theorem dX1_sweep_4 : decode cX1_sweep 4 = .ok (.invokevirtual 62, 3) := by decide +kernel
theorem dX1_sweep_7 : decode cX1_sweep 7 = .ok (.istore_n 1, 1) := by decide +kernel
theorem dX1_sweep_8 : decode cX1_sweep 8 = .ok (.iconst 0, 1) := by decide +kernel
theorem dX1_sweep_9 : decode cX1_sweep 9 = .ok (.istore_n 2, 1) := by decide +kernel
theorem dX1_sweep_10 : decode cX1_sweep 10 = .ok (.iconst 0, 1) := by decide +kernel
theorem dX1_sweep_11 : decode cX1_sweep 11 = .ok (.istore_n 3, 1) := by decide +kernel
theorem dX1_sweep_12 : decode cX1_sweep 12 = .ok (.iload_n 3, 1) := by decide +kernel
theorem dX1_sweep_13 : decode cX1_sweep 13 = .ok (.iload_n 1, 1) := by decide +kernel
theorem dX1_sweep_14 : decode cX1_sweep 14 = .ok (.if_icmp .ge 35, 3) := by decide +kernel
theorem dX1_sweep_17 : decode cX1_sweep 17 = .ok (.aload_n 0, 1) := by decide +kernel
theorem dX1_sweep_18 : decode cX1_sweep 18 = .ok (.getfield 14, 3) := by decide +kernel
theorem dX1_sweep_21 : decode cX1_sweep 21 = .ok (.iload_n 3, 1) := by decide +kernel
theorem dX1_sweep_22 : decode cX1_sweep 22 = .ok (.invokevirtual 66, 3) := by decide +kernel
theorem dX1_sweep_25 : decode cX1_sweep 25 = .ok (.invokestatic 77, 3) := by decide +kernel
theorem dX1_sweep_28 : decode cX1_sweep 28 = .ok (.ifCond .ne 15, 3) := by decide +kernel
theorem dX1_sweep_31 : decode cX1_sweep 31 = .ok (.aload_n 0, 1) := by decide +kernel
theorem dX1_sweep_32 : decode cX1_sweep 32 = .ok (.getfield 14, 3) := by decide +kernel
theorem dX1_sweep_35 : decode cX1_sweep 35 = .ok (.iload_n 3, 1) := by decide +kernel
theorem dX1_sweep_36 : decode cX1_sweep 36 = .ok (.iload_n 2, 1) := by decide +kernel
theorem dX1_sweep_37 : decode cX1_sweep 37 = .ok (.invokevirtual 81, 3) := by decide +kernel
theorem dX1_sweep_40 : decode cX1_sweep 40 = .ok (.iinc 2 1, 3) := by decide +kernel
theorem dX1_sweep_43 : decode cX1_sweep 43 = .ok (.iinc 3 1, 3) := by decide +kernel
theorem dX1_sweep_46 : decode cX1_sweep 46 = .ok (.goto (-34), 3) := by decide +kernel
theorem dX1_sweep_49 : decode cX1_sweep 49 = .ok (.aload_n 0, 1) := by decide +kernel
theorem dX1_sweep_50 : decode cX1_sweep 50 = .ok (.getfield 14, 3) := by decide +kernel
theorem dX1_sweep_53 : decode cX1_sweep 53 = .ok (.iload_n 2, 1) := by decide +kernel
theorem dX1_sweep_54 : decode cX1_sweep 54 = .ok (.invokevirtual 85, 3) := by decide +kernel
theorem dX1_sweep_57 : decode cX1_sweep 57 = .ok (.iload_n 1, 1) := by decide +kernel
theorem dX1_sweep_58 : decode cX1_sweep 58 = .ok (.iload_n 2, 1) := by decide +kernel
theorem dX1_sweep_59 : decode cX1_sweep 59 = .ok (.isub, 1) := by decide +kernel
theorem dX1_sweep_60 : decode cX1_sweep 60 = .ok (.ireturn, 1) := by decide +kernel
set_option maxRecDepth 20000 in
theorem ggX1_come_X1_pairKey : GoodIn wsX1_come wsX1_pairKey := goodIn_r _ [6, 7] (by decide +kernel) (by decide +kernel)
set_option maxRecDepth 20000 in
theorem gX1_come_X1_pairKey : GoodIn wsX1_come (va_wsS RX1 43 yX1_pairKey wsX1_pairKey) := goodIn_app (goodIn_of _ (by decide +kernel)) ggX1_come_X1_pairKey
set_option maxRecDepth 20000 in
theorem ggX1_come_X0_findValue : GoodIn wsX1_come wsX0_findValue := goodIn_r _ [12, 13, 14, 50, 51, 52] (by decide +kernel) (by decide +kernel)
set_option maxRecDepth 20000 in
theorem gX1_come_X0_findValue : GoodIn wsX1_come (wsV RX1 88 RX0 yX0_findValue wsX0_findValue) := goodIn_app (goodIn_of _ (by decide +kernel)) ggX1_come_X0_findValue
set_option maxRecDepth 20000 in
theorem ggX1_come_X0_store : GoodIn wsX1_come wsX0_store := goodIn_r _ [18, 19, 14, 20, 21, 22, 11, 23, 13, 24, 25, 26, 27, 28, 29, 30, 31, 32, 33, 34, 35, 36, 37, 38, 39, 40, 50, 51, 52] (by decide +kernel) (by decide +kernel)
set_option maxRecDepth 20000 in
theorem gX1_come_X0_store : GoodIn wsX1_come (wsV RX1 91 RX0 yX0_store wsX0_store) := goodIn_app (goodIn_of _ (by decide +kernel)) ggX1_come_X0_store
theorem dX1_come_0 : decode cX1_come 0 = .ok (.iload_n 1, 1) := by decide +kernel
theorem dX1_come_1 : decode cX1_come 1 = .ok (.iload_n 2, 1) := by decide +kernel
theorem dX1_come_2 : decode cX1_come 2 = .ok (.invokestatic 43, 3) := by decide +kernel
theorem dX1_come_5 : decode cX1_come 5 = .ok (.lstore_n 3, 1) := by decide +kernel
theorem dX1_come_6 : decode cX1_come 6 = .ok (.aload_n 0, 1) := by decide +kernel
theorem dX1_come_7 : decode cX1_come 7 = .ok (.getfield 18, 3) := by decide +kernel
theorem dX1_come_10 : decode cX1_come 10 = .ok (.lload_n 3, 1) := by decide +kernel
theorem dX1_come_11 : decode cX1_come 11 = .ok (.invokevirtual 88, 3) := by decide +kernel
theorem dX1_come_14 : decode cX1_come 14 = .ok (.ifCond .lt 5, 3) := by decide +kernel
theorem dX1_come_17 : decode cX1_come 17 = .ok (.iconst 0, 1) := by decide +kernel
theorem dX1_come_18 : decode cX1_come 18 = .ok (.ireturn, 1) := by decide +kernel
theorem dX1_come_19 : decode cX1_come 19 = .ok (.aload_n 0, 1) := by decide +kernel
theorem dX1_come_20 : decode cX1_come 20 = .ok (.getfield 18, 3) := by decide +kernel
theorem dX1_come_23 : decode cX1_come 23 = .ok (.aload_n 0, 1) := by decide +kernel
theorem dX1_come_24 : decode cX1_come 24 = .ok (.getfield 40, 3) := by decide +kernel
theorem dX1_come_27 : decode cX1_come 27 = .ok (.lload_n 3, 1) := by decide +kernel
theorem dX1_come_28 : decode cX1_come 28 = .ok (.invokevirtual 91, 3) := by decide +kernel
theorem dX1_come_31 : decode cX1_come 31 = .ok (.pop2, 1) := by decide +kernel
theorem dX1_come_32 : decode cX1_come 32 = .ok (.aload_n 0, 1) := by decide +kernel
theorem dX1_come_33 : decode cX1_come 33 = .ok (.dup, 1) := by decide +kernel
theorem dX1_come_34 : decode cX1_come 34 = .ok (.getfield 40, 3) := by decide +kernel
theorem dX1_come_37 : decode cX1_come 37 = .ok (.lconst 1, 1) := by decide +kernel
theorem dX1_come_38 : decode cX1_come 38 = .ok (.ladd, 1) := by decide +kernel
theorem dX1_come_39 : decode cX1_come 39 = .ok (.putfield 40, 3) := by decide +kernel
theorem dX1_come_42 : decode cX1_come 42 = .ok (.iconst 1, 1) := by decide +kernel
theorem dX1_come_43 : decode cX1_come 43 = .ok (.ireturn, 1) := by decide +kernel
set_option maxRecDepth 20000 in
theorem ggX1_leave_X1_pairKey : GoodIn wsX1_leave wsX1_pairKey := goodIn_r _ [5, 6] (by decide +kernel) (by decide +kernel)
set_option maxRecDepth 20000 in
theorem gX1_leave_X1_pairKey : GoodIn wsX1_leave (va_wsS RX1 43 yX1_pairKey wsX1_pairKey) := goodIn_app (goodIn_of _ (by decide +kernel)) ggX1_leave_X1_pairKey
set_option maxRecDepth 20000 in
theorem ggX1_leave_X0_findValue : GoodIn wsX1_leave wsX0_findValue := goodIn_r _ [11, 12, 13, 45, 46, 47] (by decide +kernel) (by decide +kernel)
set_option maxRecDepth 20000 in
theorem gX1_leave_X0_findValue : GoodIn wsX1_leave (wsV RX1 88 RX0 yX0_findValue wsX0_findValue) := goodIn_app (goodIn_of _ (by decide +kernel)) ggX1_leave_X0_findValue
set_option maxRecDepth 20000 in
theorem ggX1_leave_X0_takeAt : GoodIn wsX1_leave wsX0_takeAt := goodIn_r _ [17, 18, 19, 20, 10, 21, 13, 22, 23, 24, 25, 26, 12, 27, 28, 29, 30, 31, 32, 33, 34, 35, 45, 46, 47] (by decide +kernel) (by decide +kernel)
set_option maxRecDepth 20000 in
theorem gX1_leave_X0_takeAt : GoodIn wsX1_leave (wsV RX1 59 RX0 yX0_takeAt wsX0_takeAt) := goodIn_app (goodIn_of _ (by decide +kernel)) ggX1_leave_X0_takeAt
theorem dX1_leave_0 : decode cX1_leave 0 = .ok (.aload_n 0, 1) := by decide +kernel
theorem dX1_leave_1 : decode cX1_leave 1 = .ok (.getfield 18, 3) := by decide +kernel
theorem dX1_leave_4 : decode cX1_leave 4 = .ok (.iload_n 1, 1) := by decide +kernel
theorem dX1_leave_5 : decode cX1_leave 5 = .ok (.iload_n 2, 1) := by decide +kernel
theorem dX1_leave_6 : decode cX1_leave 6 = .ok (.invokestatic 43, 3) := by decide +kernel
theorem dX1_leave_9 : decode cX1_leave 9 = .ok (.invokevirtual 88, 3) := by decide +kernel
theorem dX1_leave_12 : decode cX1_leave 12 = .ok (.istore_n 3, 1) := by decide +kernel
theorem dX1_leave_13 : decode cX1_leave 13 = .ok (.aload_n 0, 1) := by decide +kernel
theorem dX1_leave_14 : decode cX1_leave 14 = .ok (.getfield 18, 3) := by decide +kernel
theorem dX1_leave_17 : decode cX1_leave 17 = .ok (.iload_n 3, 1) := by decide +kernel
theorem dX1_leave_18 : decode cX1_leave 18 = .ok (.invokevirtual 59, 3) := by decide +kernel
theorem dX1_leave_21 : decode cX1_leave 21 = .ok (.pop2, 1) := by decide +kernel
theorem dX1_leave_22 : decode cX1_leave 22 = .ok (.iload_n 3, 1) := by decide +kernel
theorem dX1_leave_23 : decode cX1_leave 23 = .ok (.ifCond .lt 7, 3) := by decide +kernel
theorem dX1_leave_26 : decode cX1_leave 26 = .ok (.iconst 1, 1) := by decide +kernel
theorem dX1_leave_27 : decode cX1_leave 27 = .ok (.goto 4, 3) := by decide +kernel
theorem dX1_leave_30 : decode cX1_leave 30 = .ok (.iconst 0, 1) := by decide +kernel
theorem dX1_leave_31 : decode cX1_leave 31 = .ok (.ireturn, 1) := by decide +kernel
set_option maxRecDepth 20000 in
theorem ggX1_comer_X0_held : GoodIn wsX1_comer wsX0_held := goodIn_r _ [7, 8, 36, 37, 38] (by decide +kernel) (by decide +kernel)
set_option maxRecDepth 20000 in
theorem gX1_comer_X0_held : GoodIn wsX1_comer (wsV RX1 62 RX0 yX0_held wsX0_held) := goodIn_app (goodIn_of _ (by decide +kernel)) ggX1_comer_X0_held
set_option maxRecDepth 20000 in
theorem ggX1_comer_X0_valueAt : GoodIn wsX1_comer wsX0_valueAt := goodIn_r _ [12, 13, 14, 15, 16, 17, 6, 18, 8, 36, 37, 38] (by decide +kernel) (by decide +kernel)
set_option maxRecDepth 20000 in
theorem gX1_comer_X0_valueAt : GoodIn wsX1_comer (wsV RX1 55 RX0 yX0_valueAt wsX0_valueAt) := goodIn_app (goodIn_of _ (by decide +kernel)) ggX1_comer_X0_valueAt
set_option maxRecDepth 20000 in
theorem ggX1_comer_X1_secondOf : GoodIn wsX1_comer wsX1_secondOf := goodIn_r _ [22, 23] (by decide +kernel) (by decide +kernel)
set_option maxRecDepth 20000 in
theorem gX1_comer_X1_secondOf : GoodIn wsX1_comer (va_wsS RX1 74 yX1_secondOf wsX1_secondOf) := goodIn_app (goodIn_of _ (by decide +kernel)) ggX1_comer_X1_secondOf
set_option maxRecDepth 20000 in
theorem ggX1_comer_X1_firstOf : GoodIn wsX1_comer wsX1_firstOf := goodIn_r _ [26] (by decide +kernel) (by decide +kernel)
set_option maxRecDepth 20000 in
theorem gX1_comer_X1_firstOf : GoodIn wsX1_comer (va_wsS RX1 71 yX1_firstOf wsX1_firstOf) := goodIn_app (goodIn_of _ (by decide +kernel)) ggX1_comer_X1_firstOf
theorem dX1_comer_0 : decode cX1_comer 0 = .ok (.iload_n 1, 1) := by decide +kernel
theorem dX1_comer_1 : decode cX1_comer 1 = .ok (.ifCond .lt 14, 3) := by decide +kernel
theorem dX1_comer_4 : decode cX1_comer 4 = .ok (.iload_n 1, 1) := by decide +kernel
theorem dX1_comer_5 : decode cX1_comer 5 = .ok (.aload_n 0, 1) := by decide +kernel
theorem dX1_comer_6 : decode cX1_comer 6 = .ok (.getfield 18, 3) := by decide +kernel
theorem dX1_comer_9 : decode cX1_comer 9 = .ok (.invokevirtual 62, 3) := by decide +kernel
theorem dX1_comer_12 : decode cX1_comer 12 = .ok (.if_icmp .lt 7, 3) := by decide +kernel
theorem dX1_comer_15 : decode cX1_comer 15 = .ok (.ldc2_w 94, 3) := by decide +kernel
theorem dX1_comer_18 : decode cX1_comer 18 = .ok (.lreturn, 1) := by decide +kernel
theorem dX1_comer_19 : decode cX1_comer 19 = .ok (.aload_n 0, 1) := by decide +kernel
theorem dX1_comer_20 : decode cX1_comer 20 = .ok (.getfield 18, 3) := by decide +kernel
theorem dX1_comer_23 : decode cX1_comer 23 = .ok (.iload_n 1, 1) := by decide +kernel
theorem dX1_comer_24 : decode cX1_comer 24 = .ok (.invokevirtual 55, 3) := by decide +kernel
theorem dX1_comer_27 : decode cX1_comer 27 = .ok (.lstore_n 3, 1) := by decide +kernel
theorem dX1_comer_28 : decode cX1_comer 28 = .ok (.iload_n 2, 1) := by decide +kernel
theorem dX1_comer_29 : decode cX1_comer 29 = .ok (.ifCond .eq 11, 3) := by decide +kernel
theorem dX1_comer_32 : decode cX1_comer 32 = .ok (.lload_n 3, 1) := by decide +kernel
theorem dX1_comer_33 : decode cX1_comer 33 = .ok (.invokestatic 74, 3) := by decide +kernel
theorem dX1_comer_36 : decode cX1_comer 36 = .ok (.i2l, 1) := by decide +kernel
theorem dX1_comer_37 : decode cX1_comer 37 = .ok (.goto 8, 3) := by decide +kernel
theorem dX1_comer_40 : decode cX1_comer 40 = .ok (.lload_n 3, 1) := by decide +kernel
theorem dX1_comer_41 : decode cX1_comer 41 = .ok (.invokestatic 71, 3) := by decide +kernel
theorem dX1_comer_44 : decode cX1_comer 44 = .ok (.i2l, 1) := by decide +kernel
theorem dX1_comer_45 : decode cX1_comer 45 = .ok (.lreturn, 1) := by decide +kernel
set_option maxRecDepth 20000 in
theorem ggX1_retain_X0_held : GoodIn wsX1_retain wsX0_held := goodIn_r _ [7, 8, 53, 54, 55] (by decide +kernel) (by decide +kernel)
set_option maxRecDepth 20000 in
theorem gX1_retain_X0_held : GoodIn wsX1_retain (wsV RX1 62 RX0 yX0_held wsX0_held) := goodIn_app (goodIn_of _ (by decide +kernel)) ggX1_retain_X0_held
set_option maxRecDepth 20000 in
theorem ggX1_retain_X0_valueAt : GoodIn wsX1_retain wsX0_valueAt := goodIn_r _ [12, 13, 14, 15, 16, 17, 6, 18, 8, 53, 54, 55] (by decide +kernel) (by decide +kernel)
set_option maxRecDepth 20000 in
theorem gX1_retain_X0_valueAt : GoodIn wsX1_retain (wsV RX1 55 RX0 yX0_valueAt wsX0_valueAt) := goodIn_app (goodIn_of _ (by decide +kernel)) ggX1_retain_X0_valueAt
set_option maxRecDepth 20000 in
theorem ggX1_retain_X0_holds : GoodIn wsX1_retain wsX0_holds := goodIn_r _ [22, 23, 24, 25, 6, 26, 27, 28, 29, 30, 8, 31, 32, 33, 34, 35, 15, 16, 17, 18, 53, 54, 55] (by decide +kernel) (by decide +kernel)
set_option maxRecDepth 20000 in
theorem gX1_retain_X0_holds : GoodIn wsX1_retain (wsV RX1 96 RX0 yX0_holds wsX0_holds) := goodIn_app (goodIn_of _ (by decide +kernel)) ggX1_retain_X0_holds
set_option maxRecDepth 20000 in
theorem ggX1_retain_X0_move : GoodIn wsX1_retain wsX0_move := goodIn_r _ [39, 31, 13, 15, 16, 17, 6, 18, 8, 53, 54, 55] (by decide +kernel) (by decide +kernel)
set_option maxRecDepth 20000 in
theorem gX1_retain_X0_move : GoodIn wsX1_retain (wsV RX1 81 RX0 yX0_move wsX0_move) := goodIn_app (goodIn_of _ (by decide +kernel)) ggX1_retain_X0_move
set_option maxRecDepth 20000 in
theorem ggX1_retain_X0_shorten : GoodIn wsX1_retain wsX0_shorten := goodIn_r _ [43, 8, 53, 54, 55] (by decide +kernel) (by decide +kernel)
set_option maxRecDepth 20000 in
theorem gX1_retain_X0_shorten : GoodIn wsX1_retain (wsV RX1 85 RX0 yX0_shorten wsX0_shorten) := goodIn_app (goodIn_of _ (by decide +kernel)) ggX1_retain_X0_shorten
theorem dX1_retain_0 : decode cX1_retain 0 = .ok (.iconst 0, 1) := by decide +kernel
theorem dX1_retain_1 : decode cX1_retain 1 = .ok (.istore_n 1, 1) := by decide +kernel
theorem dX1_retain_2 : decode cX1_retain 2 = .ok (.iconst 0, 1) := by decide +kernel
theorem dX1_retain_3 : decode cX1_retain 3 = .ok (.istore_n 2, 1) := by decide +kernel
theorem dX1_retain_4 : decode cX1_retain 4 = .ok (.iload_n 2, 1) := by decide +kernel
theorem dX1_retain_5 : decode cX1_retain 5 = .ok (.aload_n 0, 1) := by decide +kernel
theorem dX1_retain_6 : decode cX1_retain 6 = .ok (.getfield 18, 3) := by decide +kernel
theorem dX1_retain_9 : decode cX1_retain 9 = .ok (.invokevirtual 62, 3) := by decide +kernel
theorem dX1_retain_12 : decode cX1_retain 12 = .ok (.if_icmp .ge 39, 3) := by decide +kernel
theorem dX1_retain_15 : decode cX1_retain 15 = .ok (.aload_n 0, 1) := by decide +kernel
theorem dX1_retain_16 : decode cX1_retain 16 = .ok (.getfield 14, 3) := by decide +kernel
theorem dX1_retain_19 : decode cX1_retain 19 = .ok (.aload_n 0, 1) := by decide +kernel
theorem dX1_retain_20 : decode cX1_retain 20 = .ok (.getfield 18, 3) := by decide +kernel
theorem dX1_retain_23 : decode cX1_retain 23 = .ok (.iload_n 2, 1) := by decide +kernel
theorem dX1_retain_24 : decode cX1_retain 24 = .ok (.invokevirtual 55, 3) := by decide +kernel
theorem dX1_retain_27 : decode cX1_retain 27 = .ok (.invokevirtual 96, 3) := by decide +kernel
theorem dX1_retain_30 : decode cX1_retain 30 = .ok (.ifCond .eq 15, 3) := by decide +kernel
theorem dX1_retain_33 : decode cX1_retain 33 = .ok (.aload_n 0, 1) := by decide +kernel
theorem dX1_retain_34 : decode cX1_retain 34 = .ok (.getfield 18, 3) := by decide +kernel
theorem dX1_retain_37 : decode cX1_retain 37 = .ok (.iload_n 2, 1) := by decide +kernel
theorem dX1_retain_38 : decode cX1_retain 38 = .ok (.iload_n 1, 1) := by decide +kernel
theorem dX1_retain_39 : decode cX1_retain 39 = .ok (.invokevirtual 81, 3) := by decide +kernel
theorem dX1_retain_42 : decode cX1_retain 42 = .ok (.iinc 1 1, 3) := by decide +kernel
theorem dX1_retain_45 : decode cX1_retain 45 = .ok (.iinc 2 1, 3) := by decide +kernel
theorem dX1_retain_48 : decode cX1_retain 48 = .ok (.goto (-44), 3) := by decide +kernel
theorem dX1_retain_51 : decode cX1_retain 51 = .ok (.aload_n 0, 1) := by decide +kernel
theorem dX1_retain_52 : decode cX1_retain 52 = .ok (.getfield 18, 3) := by decide +kernel
theorem dX1_retain_55 : decode cX1_retain 55 = .ok (.iload_n 1, 1) := by decide +kernel
theorem dX1_retain_56 : decode cX1_retain 56 = .ok (.invokevirtual 85, 3) := by decide +kernel
theorem dX1_retain_59 : decode cX1_retain 59 = .ok (.iload_n 1, 1) := by decide +kernel
theorem dX1_retain_60 : decode cX1_retain 60 = .ok (.ireturn, 1) := by decide +kernel
set_option maxRecDepth 20000 in
theorem ggX1_rank_X1_pairKey : GoodIn wsX1_rank wsX1_pairKey := goodIn_r _ [5, 6] (by decide +kernel) (by decide +kernel)
set_option maxRecDepth 20000 in
theorem gX1_rank_X1_pairKey : GoodIn wsX1_rank (va_wsS RX1 43 yX1_pairKey wsX1_pairKey) := goodIn_app (goodIn_of _ (by decide +kernel)) ggX1_rank_X1_pairKey
set_option maxRecDepth 20000 in
theorem ggX1_rank_X0_store : GoodIn wsX1_rank wsX0_store := goodIn_r _ [11, 12, 13, 14, 15, 16, 10, 17, 18, 19, 20, 21, 22, 23, 24, 25, 26, 27, 28, 29, 30, 31, 32, 33, 34, 35, 45, 46, 47] (by decide +kernel) (by decide +kernel)
set_option maxRecDepth 20000 in
theorem gX1_rank_X0_store : GoodIn wsX1_rank (wsV RX1 91 RX0 yX0_store wsX0_store) := goodIn_app (goodIn_of _ (by decide +kernel)) ggX1_rank_X0_store
theorem dX1_rank_0 : decode cX1_rank 0 = .ok (.aload_n 0, 1) := by decide +kernel
theorem dX1_rank_1 : decode cX1_rank 1 = .ok (.getfield 21, 3) := by decide +kernel
theorem dX1_rank_4 : decode cX1_rank 4 = .ok (.iload_n 1, 1) := by decide +kernel
theorem dX1_rank_5 : decode cX1_rank 5 = .ok (.iload_n 2, 1) := by decide +kernel
theorem dX1_rank_6 : decode cX1_rank 6 = .ok (.invokestatic 43, 3) := by decide +kernel
theorem dX1_rank_9 : decode cX1_rank 9 = .ok (.iload_n 3, 1) := by decide +kernel
theorem dX1_rank_10 : decode cX1_rank 10 = .ok (.i2l, 1) := by decide +kernel
theorem dX1_rank_11 : decode cX1_rank 11 = .ok (.invokevirtual 91, 3) := by decide +kernel
theorem dX1_rank_14 : decode cX1_rank 14 = .ok (.lreturn, 1) := by decide +kernel
set_option maxRecDepth 20000 in
theorem ggX1_near_X1_pairKey : GoodIn wsX1_near wsX1_pairKey := goodIn_r _ [7, 8] (by decide +kernel) (by decide +kernel)
set_option maxRecDepth 20000 in
theorem gX1_near_X1_pairKey : GoodIn wsX1_near (va_wsS RX1 43 yX1_pairKey wsX1_pairKey) := goodIn_app (goodIn_of _ (by decide +kernel)) ggX1_near_X1_pairKey
set_option maxRecDepth 20000 in
theorem ggX1_near_X0_upTo : GoodIn wsX1_near wsX0_upTo := goodIn_r _ [13, 14, 15, 16, 17, 18, 12, 19, 20, 51, 52, 53] (by decide +kernel) (by decide +kernel)
set_option maxRecDepth 20000 in
theorem gX1_near_X0_upTo : GoodIn wsX1_near (wsV RX1 99 RX0 yX0_upTo wsX0_upTo) := goodIn_app (goodIn_of _ (by decide +kernel)) ggX1_near_X0_upTo
set_option maxRecDepth 20000 in
theorem ggX1_near_X0_below : GoodIn wsX1_near wsX0_below := goodIn_r _ [19, 15, 20, 51, 52, 53] (by decide +kernel) (by decide +kernel)
set_option maxRecDepth 20000 in
theorem gX1_near_X0_below : GoodIn wsX1_near (wsV RX1 102 RX0 yX0_below wsX0_below) := goodIn_app (goodIn_of _ (by decide +kernel)) ggX1_near_X0_below
set_option maxRecDepth 20000 in
theorem ggX1_near_X0_held : GoodIn wsX1_near wsX0_held := goodIn_r _ [25, 15, 51, 52, 53] (by decide +kernel) (by decide +kernel)
set_option maxRecDepth 20000 in
theorem gX1_near_X0_held : GoodIn wsX1_near (wsV RX1 62 RX0 yX0_held wsX0_held) := goodIn_app (goodIn_of _ (by decide +kernel)) ggX1_near_X0_held
set_option maxRecDepth 20000 in
theorem ggX1_near_X0_keyAt : GoodIn wsX1_near wsX0_keyAt := goodIn_r _ [29, 20, 30, 31, 32, 33, 12, 34, 15, 51, 52, 53] (by decide +kernel) (by decide +kernel)
set_option maxRecDepth 20000 in
theorem gX1_near_X0_keyAt : GoodIn wsX1_near (wsV RX1 66 RX0 yX0_keyAt wsX0_keyAt) := goodIn_app (goodIn_of _ (by decide +kernel)) ggX1_near_X0_keyAt
set_option maxRecDepth 20000 in
theorem ggX1_near_X1_firstOf : GoodIn wsX1_near wsX1_firstOf := goodIn_r _ [37] (by decide +kernel) (by decide +kernel)
set_option maxRecDepth 20000 in
theorem gX1_near_X1_firstOf : GoodIn wsX1_near (va_wsS RX1 71 yX1_firstOf wsX1_firstOf) := goodIn_app (goodIn_of _ (by decide +kernel)) ggX1_near_X1_firstOf
set_option maxRecDepth 20000 in
theorem ggX1_near_X1_secondOf : GoodIn wsX1_near wsX1_secondOf := goodIn_r _ [40, 41] (by decide +kernel) (by decide +kernel)
set_option maxRecDepth 20000 in
theorem gX1_near_X1_secondOf : GoodIn wsX1_near (va_wsS RX1 74 yX1_secondOf wsX1_secondOf) := goodIn_app (goodIn_of _ (by decide +kernel)) ggX1_near_X1_secondOf
theorem dX1_near_0 : decode cX1_near 0 = .ok (.iload_n 1, 1) := by decide +kernel
theorem dX1_near_1 : decode cX1_near 1 = .ok (.iload_n 2, 1) := by decide +kernel
theorem dX1_near_2 : decode cX1_near 2 = .ok (.invokestatic 43, 3) := by decide +kernel
theorem dX1_near_5 : decode cX1_near 5 = .ok (.lstore 5, 2) := by decide +kernel
theorem dX1_near_7 : decode cX1_near 7 = .ok (.iload_n 3, 1) := by decide +kernel
theorem dX1_near_8 : decode cX1_near 8 = .ok (.iload 4, 2) := by decide +kernel
theorem dX1_near_10 : decode cX1_near 10 = .ok (.if_icmp .ne 15, 3) := by decide +kernel
theorem dX1_near_13 : decode cX1_near 13 = .ok (.aload_n 0, 1) := by decide +kernel
theorem dX1_near_14 : decode cX1_near 14 = .ok (.getfield 21, 3) := by decide +kernel
theorem dX1_near_17 : decode cX1_near 17 = .ok (.lload 5, 2) := by decide +kernel
theorem dX1_near_19 : decode cX1_near 19 = .ok (.invokevirtual 99, 3) := by decide +kernel
theorem dX1_near_22 : decode cX1_near 22 = .ok (.goto 12, 3) := by decide +kernel
theorem dX1_near_25 : decode cX1_near 25 = .ok (.aload_n 0, 1) := by decide +kernel
theorem dX1_near_26 : decode cX1_near 26 = .ok (.getfield 21, 3) := by decide +kernel
theorem dX1_near_29 : decode cX1_near 29 = .ok (.lload 5, 2) := by decide +kernel
theorem dX1_near_31 : decode cX1_near 31 = .ok (.invokevirtual 102, 3) := by decide +kernel
theorem dX1_near_34 : decode cX1_near 34 = .ok (.istore 7, 2) := by decide +kernel
theorem dX1_near_36 : decode cX1_near 36 = .ok (.iload_n 3, 1) := by decide +kernel
theorem dX1_near_37 : decode cX1_near 37 = .ok (.ifCond .eq 10, 3) := by decide +kernel
theorem dX1_near_40 : decode cX1_near 40 = .ok (.iload 7, 2) := by decide +kernel
theorem dX1_near_42 : decode cX1_near 42 = .ok (.iconst 1, 1) := by decide +kernel
theorem dX1_near_43 : decode cX1_near 43 = .ok (.isub, 1) := by decide +kernel
theorem dX1_near_44 : decode cX1_near 44 = .ok (.goto 5, 3) := by decide +kernel
theorem dX1_near_47 : decode cX1_near 47 = .ok (.iload 7, 2) := by decide +kernel
theorem dX1_near_49 : decode cX1_near 49 = .ok (.istore 8, 2) := by decide +kernel
theorem dX1_near_51 : decode cX1_near 51 = .ok (.iload 8, 2) := by decide +kernel
theorem dX1_near_53 : decode cX1_near 53 = .ok (.ifCond .lt 15, 3) := by decide +kernel
theorem dX1_near_56 : decode cX1_near 56 = .ok (.iload 8, 2) := by decide +kernel
theorem dX1_near_58 : decode cX1_near 58 = .ok (.aload_n 0, 1) := by decide +kernel
theorem dX1_near_59 : decode cX1_near 59 = .ok (.getfield 21, 3) := by decide +kernel
theorem dX1_near_62 : decode cX1_near 62 = .ok (.invokevirtual 62, 3) := by decide +kernel
theorem dX1_near_65 : decode cX1_near 65 = .ok (.if_icmp .lt 7, 3) := by decide +kernel
theorem dX1_near_68 : decode cX1_near 68 = .ok (.ldc2_w 94, 3) := by decide +kernel
theorem dX1_near_71 : decode cX1_near 71 = .ok (.lreturn, 1) := by decide +kernel
theorem dX1_near_72 : decode cX1_near 72 = .ok (.aload_n 0, 1) := by decide +kernel
theorem dX1_near_73 : decode cX1_near 73 = .ok (.getfield 21, 3) := by decide +kernel
theorem dX1_near_76 : decode cX1_near 76 = .ok (.iload 8, 2) := by decide +kernel
theorem dX1_near_78 : decode cX1_near 78 = .ok (.invokevirtual 66, 3) := by decide +kernel
theorem dX1_near_81 : decode cX1_near 81 = .ok (.lstore 9, 2) := by decide +kernel
theorem dX1_near_83 : decode cX1_near 83 = .ok (.lload 9, 2) := by decide +kernel
theorem dX1_near_85 : decode cX1_near 85 = .ok (.invokestatic 71, 3) := by decide +kernel
theorem dX1_near_88 : decode cX1_near 88 = .ok (.i2l, 1) := by decide +kernel
theorem dX1_near_89 : decode cX1_near 89 = .ok (.ldc2_w 105, 3) := by decide +kernel
theorem dX1_near_92 : decode cX1_near 92 = .ok (.lmul, 1) := by decide +kernel
theorem dX1_near_93 : decode cX1_near 93 = .ok (.lload 9, 2) := by decide +kernel
theorem dX1_near_95 : decode cX1_near 95 = .ok (.invokestatic 74, 3) := by decide +kernel
theorem dX1_near_98 : decode cX1_near 98 = .ok (.i2l, 1) := by decide +kernel
theorem dX1_near_99 : decode cX1_near 99 = .ok (.ladd, 1) := by decide +kernel
theorem dX1_near_100 : decode cX1_near 100 = .ok (.lreturn, 1) := by decide +kernel
set_option maxRecDepth 20000 in
theorem ggX1_poll_X0_held : GoodIn wsX1_poll wsX0_held := goodIn_r _ [6, 7, 40, 41, 42] (by decide +kernel) (by decide +kernel)
set_option maxRecDepth 20000 in
theorem gX1_poll_X0_held : GoodIn wsX1_poll (wsV RX1 62 RX0 yX0_held wsX0_held) := goodIn_app (goodIn_of _ (by decide +kernel)) ggX1_poll_X0_held
set_option maxRecDepth 20000 in
theorem ggX1_poll_X0_takeAt : GoodIn wsX1_poll wsX0_takeAt := goodIn_r _ [11, 12, 13, 14, 5, 15, 16, 17, 18, 19, 20, 21, 7, 22, 23, 24, 25, 26, 27, 28, 29, 30, 40, 41, 42] (by decide +kernel) (by decide +kernel)
set_option maxRecDepth 20000 in
theorem gX1_poll_X0_takeAt : GoodIn wsX1_poll (wsV RX1 59 RX0 yX0_takeAt wsX0_takeAt) := goodIn_app (goodIn_of _ (by decide +kernel)) ggX1_poll_X0_takeAt
theorem dX1_poll_0 : decode cX1_poll 0 = .ok (.aload_n 0, 1) := by decide +kernel
theorem dX1_poll_1 : decode cX1_poll 1 = .ok (.getfield 21, 3) := by decide +kernel
theorem dX1_poll_4 : decode cX1_poll 4 = .ok (.iload_n 1, 1) := by decide +kernel
theorem dX1_poll_5 : decode cX1_poll 5 = .ok (.ifCond .eq 15, 3) := by decide +kernel
theorem dX1_poll_8 : decode cX1_poll 8 = .ok (.aload_n 0, 1) := by decide +kernel
theorem dX1_poll_9 : decode cX1_poll 9 = .ok (.getfield 21, 3) := by decide +kernel
theorem dX1_poll_12 : decode cX1_poll 12 = .ok (.invokevirtual 62, 3) := by decide +kernel
theorem dX1_poll_15 : decode cX1_poll 15 = .ok (.iconst 1, 1) := by decide +kernel
theorem dX1_poll_16 : decode cX1_poll 16 = .ok (.isub, 1) := by decide +kernel
theorem dX1_poll_17 : decode cX1_poll 17 = .ok (.goto 4, 3) := by decide +kernel
theorem dX1_poll_20 : decode cX1_poll 20 = .ok (.iconst 0, 1) := by decide +kernel
theorem dX1_poll_21 : decode cX1_poll 21 = .ok (.invokevirtual 59, 3) := by decide +kernel
theorem dX1_poll_24 : decode cX1_poll 24 = .ok (.lreturn, 1) := by decide +kernel
set_option maxRecDepth 20000 in
theorem ggX1_between_X1_pairKey : GoodIn wsX1_between wsX1_pairKey := goodIn_r _ [5, 6] (by decide +kernel) (by decide +kernel)
set_option maxRecDepth 20000 in
theorem gX1_between_X1_pairKey : GoodIn wsX1_between (va_wsS RX1 43 yX1_pairKey wsX1_pairKey) := goodIn_app (goodIn_of _ (by decide +kernel)) ggX1_between_X1_pairKey
set_option maxRecDepth 20000 in
theorem ggX1_between_X0_below : GoodIn wsX1_between wsX0_below := goodIn_r _ [11, 12, 13, 23, 24, 25] (by decide +kernel) (by decide +kernel)
set_option maxRecDepth 20000 in
theorem gX1_between_X0_below : GoodIn wsX1_between (wsV RX1 102 RX0 yX0_below wsX0_below) := goodIn_app (goodIn_of _ (by decide +kernel)) ggX1_between_X0_below
theorem dX1_between_0 : decode cX1_between 0 = .ok (.iload_n 1, 1) := by decide +kernel
theorem dX1_between_1 : decode cX1_between 1 = .ok (.iload_n 2, 1) := by decide +kernel
theorem dX1_between_2 : decode cX1_between 2 = .ok (.invokestatic 43, 3) := by decide +kernel
theorem dX1_between_5 : decode cX1_between 5 = .ok (.lstore 5, 2) := by decide +kernel
theorem dX1_between_7 : decode cX1_between 7 = .ok (.iload_n 3, 1) := by decide +kernel
theorem dX1_between_8 : decode cX1_between 8 = .ok (.iload 4, 2) := by decide +kernel
theorem dX1_between_10 : decode cX1_between 10 = .ok (.invokestatic 43, 3) := by decide +kernel
theorem dX1_between_13 : decode cX1_between 13 = .ok (.lstore 7, 2) := by decide +kernel
theorem dX1_between_15 : decode cX1_between 15 = .ok (.lload 7, 2) := by decide +kernel
theorem dX1_between_17 : decode cX1_between 17 = .ok (.lload 5, 2) := by decide +kernel
theorem dX1_between_19 : decode cX1_between 19 = .ok (.lcmp, 1) := by decide +kernel
theorem dX1_between_20 : decode cX1_between 20 = .ok (.ifCond .ge 5, 3) := by decide +kernel
theorem dX1_between_23 : decode cX1_between 23 = .ok (.iconst (-1), 1) := by decide +kernel
theorem dX1_between_24 : decode cX1_between 24 = .ok (.ireturn, 1) := by decide +kernel
theorem dX1_between_25 : decode cX1_between 25 = .ok (.aload_n 0, 1) := by decide +kernel
theorem dX1_between_26 : decode cX1_between 26 = .ok (.getfield 21, 3) := by decide +kernel
theorem dX1_between_29 : decode cX1_between 29 = .ok (.lload 7, 2) := by decide +kernel
theorem dX1_between_31 : decode cX1_between 31 = .ok (.invokevirtual 102, 3) := by decide +kernel
theorem dX1_between_34 : decode cX1_between 34 = .ok (.aload_n 0, 1) := by decide +kernel
theorem dX1_between_35 : decode cX1_between 35 = .ok (.getfield 21, 3) := by decide +kernel
theorem dX1_between_38 : decode cX1_between 38 = .ok (.lload 5, 2) := by decide +kernel
theorem dX1_between_40 : decode cX1_between 40 = .ok (.invokevirtual 102, 3) := by decide +kernel
theorem dX1_between_43 : decode cX1_between 43 = .ok (.isub, 1) := by decide +kernel
theorem dX1_between_44 : decode cX1_between 44 = .ok (.ireturn, 1) := by decide +kernel
set_option maxRecDepth 20000 in
theorem ggX1_sign_X1_signsOf : GoodIn wsX1_sign wsX1_signsOf := goodIn_r _ [5, 6, 7, 4, 8, 9, 10, 11, 12] (by decide +kernel) (by decide +kernel)
set_option maxRecDepth 20000 in
theorem gX1_sign_X1_signsOf : GoodIn wsX1_sign (va_wsS RX1 107 yX1_signsOf wsX1_signsOf) := goodIn_app (goodIn_of _ (by decide +kernel)) ggX1_sign_X1_signsOf
set_option maxRecDepth 20000 in
theorem ggX1_sign_X1_placeOf : GoodIn wsX1_sign wsX1_placeOf := goodIn_r _ [12] (by decide +kernel) (by decide +kernel)
set_option maxRecDepth 20000 in
theorem gX1_sign_X1_placeOf : GoodIn wsX1_sign (va_wsS RX1 110 yX1_placeOf wsX1_placeOf) := goodIn_app (goodIn_of _ (by decide +kernel)) ggX1_sign_X1_placeOf
theorem dX1_sign_0 : decode cX1_sign 0 = .ok (.iload_n 1, 1) := by decide +kernel
theorem dX1_sign_1 : decode cX1_sign 1 = .ok (.bipush 97, 2) := by decide +kernel
theorem dX1_sign_3 : decode cX1_sign 3 = .ok (.if_icmp .lt 9, 3) := by decide +kernel
theorem dX1_sign_6 : decode cX1_sign 6 = .ok (.iload_n 1, 1) := by decide +kernel
theorem dX1_sign_7 : decode cX1_sign 7 = .ok (.bipush 122, 2) := by decide +kernel
theorem dX1_sign_9 : decode cX1_sign 9 = .ok (.if_icmp .le 5, 3) := by decide +kernel
theorem dX1_sign_12 : decode cX1_sign 12 = .ok (.iconst (-1), 1) := by decide +kernel
theorem dX1_sign_13 : decode cX1_sign 13 = .ok (.ireturn, 1) := by decide +kernel
theorem dX1_sign_14 : decode cX1_sign 14 = .ok (.aload_n 0, 1) := by decide +kernel
theorem dX1_sign_15 : decode cX1_sign 15 = .ok (.getfield 36, 3) := by decide +kernel
theorem dX1_sign_18 : decode cX1_sign 18 = .ok (.invokestatic 107, 3) := by decide +kernel
theorem dX1_sign_21 : decode cX1_sign 21 = .ok (.istore_n 2, 1) := by decide +kernel
theorem dX1_sign_22 : decode cX1_sign 22 = .ok (.iload_n 2, 1) := by decide +kernel
theorem dX1_sign_23 : decode cX1_sign 23 = .ok (.bipush 12, 2) := by decide +kernel
theorem dX1_sign_25 : decode cX1_sign 25 = .ok (.if_icmp .lt 6, 3) := by decide +kernel
theorem dX1_sign_28 : decode cX1_sign 28 = .ok (.bipush (-3), 2) := by decide +kernel
theorem dX1_sign_30 : decode cX1_sign 30 = .ok (.ireturn, 1) := by decide +kernel
theorem dX1_sign_31 : decode cX1_sign 31 = .ok (.aload_n 0, 1) := by decide +kernel
theorem dX1_sign_32 : decode cX1_sign 32 = .ok (.dup, 1) := by decide +kernel
theorem dX1_sign_33 : decode cX1_sign 33 = .ok (.getfield 36, 3) := by decide +kernel
theorem dX1_sign_36 : decode cX1_sign 36 = .ok (.iload_n 1, 1) := by decide +kernel
theorem dX1_sign_37 : decode cX1_sign 37 = .ok (.bipush 96, 2) := by decide +kernel
theorem dX1_sign_39 : decode cX1_sign 39 = .ok (.isub, 1) := by decide +kernel
theorem dX1_sign_40 : decode cX1_sign 40 = .ok (.i2l, 1) := by decide +kernel
theorem dX1_sign_41 : decode cX1_sign 41 = .ok (.iload_n 2, 1) := by decide +kernel
theorem dX1_sign_42 : decode cX1_sign 42 = .ok (.invokestatic 110, 3) := by decide +kernel
theorem dX1_sign_45 : decode cX1_sign 45 = .ok (.lshl, 1) := by decide +kernel
theorem dX1_sign_46 : decode cX1_sign 46 = .ok (.ladd, 1) := by decide +kernel
theorem dX1_sign_47 : decode cX1_sign 47 = .ok (.putfield 36, 3) := by decide +kernel
theorem dX1_sign_50 : decode cX1_sign 50 = .ok (.iload_n 2, 1) := by decide +kernel
theorem dX1_sign_51 : decode cX1_sign 51 = .ok (.iconst 1, 1) := by decide +kernel
theorem dX1_sign_52 : decode cX1_sign 52 = .ok (.iadd, 1) := by decide +kernel
theorem dX1_sign_53 : decode cX1_sign 53 = .ok (.ireturn, 1) := by decide +kernel
set_option maxRecDepth 20000 in
theorem ggX1_erase_X1_takeTape : GoodIn wsX1_erase wsX1_takeTape := goodIn_r _ [5, 6, 17, 18, 19, 20, 21, 22, 23, 24, 25] (by decide +kernel) (by decide +kernel)
set_option maxRecDepth 20000 in
theorem gX1_erase_X1_takeTape : GoodIn wsX1_erase (wsV RX1 114 RX1 yX1_takeTape wsX1_takeTape) := goodIn_app (goodIn_of _ (by decide +kernel)) ggX1_erase_X1_takeTape
set_option maxRecDepth 20000 in
theorem ggX1_erase_X1_signsOf : GoodIn wsX1_erase wsX1_signsOf := goodIn_r _ [9, 10, 11, 4, 12, 13, 14, 15, 16] (by decide +kernel) (by decide +kernel)
set_option maxRecDepth 20000 in
theorem gX1_erase_X1_signsOf : GoodIn wsX1_erase (va_wsS RX1 107 yX1_signsOf wsX1_signsOf) := goodIn_app (goodIn_of _ (by decide +kernel)) ggX1_erase_X1_signsOf
theorem dX1_erase_0 : decode cX1_erase 0 = .ok (.aload_n 0, 1) := by decide +kernel
theorem dX1_erase_1 : decode cX1_erase 1 = .ok (.invokevirtual 114, 3) := by decide +kernel
theorem dX1_erase_4 : decode cX1_erase 4 = .ok (.invokestatic 107, 3) := by decide +kernel
theorem dX1_erase_7 : decode cX1_erase 7 = .ok (.ireturn, 1) := by decide +kernel
set_option maxRecDepth 20000 in
theorem ggX1_line_X1_takeTape : GoodIn wsX1_line wsX1_takeTape := goodIn_r _ [6, 7, 30, 31, 32, 33, 34, 35, 36, 37, 38] (by decide +kernel) (by decide +kernel)
set_option maxRecDepth 20000 in
theorem gX1_line_X1_takeTape : GoodIn wsX1_line (wsV RX1 114 RX1 yX1_takeTape wsX1_takeTape) := goodIn_app (goodIn_of _ (by decide +kernel)) ggX1_line_X1_takeTape
set_option maxRecDepth 20000 in
theorem ggX1_line_X0_upTo : GoodIn wsX1_line wsX0_upTo := goodIn_r _ [12, 13, 14, 15, 16, 17, 11, 18, 19, 39, 40, 41] (by decide +kernel) (by decide +kernel)
set_option maxRecDepth 20000 in
theorem gX1_line_X0_upTo : GoodIn wsX1_line (wsV RX1 99 RX0 yX0_upTo wsX0_upTo) := goodIn_app (goodIn_of _ (by decide +kernel)) ggX1_line_X0_upTo
set_option maxRecDepth 20000 in
theorem ggX1_line_X0_insert : GoodIn wsX1_line wsX0_insert := goodIn_r _ [23, 14, 19, 24, 25, 26, 27, 28, 39, 40, 41] (by decide +kernel) (by decide +kernel)
set_option maxRecDepth 20000 in
theorem gX1_line_X0_insert : GoodIn wsX1_line (wsV RX1 118 RX0 yX0_insert wsX0_insert) := goodIn_app (goodIn_of _ (by decide +kernel)) ggX1_line_X0_insert
set_option maxRecDepth 20000 in
theorem ggX1_line_X0_below : GoodIn wsX1_line wsX0_below := goodIn_r _ [18, 14, 19, 39, 40, 41] (by decide +kernel) (by decide +kernel)
set_option maxRecDepth 20000 in
theorem gX1_line_X0_below : GoodIn wsX1_line (wsV RX1 102 RX0 yX0_below wsX0_below) := goodIn_app (goodIn_of _ (by decide +kernel)) ggX1_line_X0_below
theorem dX1_line_0 : decode cX1_line 0 = .ok (.aload_n 0, 1) := by decide +kernel
theorem dX1_line_1 : decode cX1_line 1 = .ok (.invokevirtual 114, 3) := by decide +kernel
theorem dX1_line_4 : decode cX1_line 4 = .ok (.lstore_n 2, 1) := by decide +kernel
theorem dX1_line_5 : decode cX1_line 5 = .ok (.lload_n 2, 1) := by decide +kernel
theorem dX1_line_6 : decode cX1_line 6 = .ok (.lconst 0, 1) := by decide +kernel
theorem dX1_line_7 : decode cX1_line 7 = .ok (.lcmp, 1) := by decide +kernel
theorem dX1_line_8 : decode cX1_line 8 = .ok (.ifCond .ne 5, 3) := by decide +kernel
theorem dX1_line_11 : decode cX1_line 11 = .ok (.iconst (-1), 1) := by decide +kernel
theorem dX1_line_12 : decode cX1_line 12 = .ok (.ireturn, 1) := by decide +kernel
theorem dX1_line_13 : decode cX1_line 13 = .ok (.aload_n 0, 1) := by decide +kernel
theorem dX1_line_14 : decode cX1_line 14 = .ok (.getfield 24, 3) := by decide +kernel
theorem dX1_line_17 : decode cX1_line 17 = .ok (.aload_n 0, 1) := by decide +kernel
theorem dX1_line_18 : decode cX1_line 18 = .ok (.getfield 24, 3) := by decide +kernel
theorem dX1_line_21 : decode cX1_line 21 = .ok (.lload_n 2, 1) := by decide +kernel
theorem dX1_line_22 : decode cX1_line 22 = .ok (.invokevirtual 99, 3) := by decide +kernel
theorem dX1_line_25 : decode cX1_line 25 = .ok (.lload_n 2, 1) := by decide +kernel
theorem dX1_line_26 : decode cX1_line 26 = .ok (.iload_n 1, 1) := by decide +kernel
theorem dX1_line_27 : decode cX1_line 27 = .ok (.i2l, 1) := by decide +kernel
theorem dX1_line_28 : decode cX1_line 28 = .ok (.invokevirtual 118, 3) := by decide +kernel
theorem dX1_line_31 : decode cX1_line 31 = .ok (.aload_n 0, 1) := by decide +kernel
theorem dX1_line_32 : decode cX1_line 32 = .ok (.getfield 24, 3) := by decide +kernel
theorem dX1_line_35 : decode cX1_line 35 = .ok (.lload_n 2, 1) := by decide +kernel
theorem dX1_line_36 : decode cX1_line 36 = .ok (.invokevirtual 99, 3) := by decide +kernel
theorem dX1_line_39 : decode cX1_line 39 = .ok (.aload_n 0, 1) := by decide +kernel
theorem dX1_line_40 : decode cX1_line 40 = .ok (.getfield 24, 3) := by decide +kernel
theorem dX1_line_43 : decode cX1_line 43 = .ok (.lload_n 2, 1) := by decide +kernel
theorem dX1_line_44 : decode cX1_line 44 = .ok (.invokevirtual 102, 3) := by decide +kernel
theorem dX1_line_47 : decode cX1_line 47 = .ok (.isub, 1) := by decide +kernel
theorem dX1_line_48 : decode cX1_line 48 = .ok (.ireturn, 1) := by decide +kernel
end
section
set_option maxRecDepth 20000 in
theorem ggX1_read_X1_takeTape : GoodIn wsX1_read wsX1_takeTape := goodIn_r _ [7, 8, 32, 33, 34, 35, 36, 37, 38, 39, 40] (by decide +kernel) (by decide +kernel)
set_option maxRecDepth 20000 in
theorem gX1_read_X1_takeTape : GoodIn wsX1_read (wsV RX1 114 RX1 yX1_takeTape wsX1_takeTape) := goodIn_app (goodIn_of _ (by decide +kernel)) ggX1_read_X1_takeTape
set_option maxRecDepth 20000 in
theorem ggX1_read_X0_below : GoodIn wsX1_read wsX0_below := goodIn_r _ [13, 14, 15, 41, 42, 43] (by decide +kernel) (by decide +kernel)
set_option maxRecDepth 20000 in
theorem gX1_read_X0_below : GoodIn wsX1_read (wsV RX1 102 RX0 yX0_below wsX0_below) := goodIn_app (goodIn_of _ (by decide +kernel)) ggX1_read_X0_below
set_option maxRecDepth 20000 in
theorem ggX1_read_X0_upTo : GoodIn wsX1_read wsX0_upTo := goodIn_r _ [19, 20, 14, 21, 10, 11, 12, 13, 15, 41, 42, 43] (by decide +kernel) (by decide +kernel)
set_option maxRecDepth 20000 in
theorem gX1_read_X0_upTo : GoodIn wsX1_read (wsV RX1 99 RX0 yX0_upTo wsX0_upTo) := goodIn_app (goodIn_of _ (by decide +kernel)) ggX1_read_X0_upTo
set_option maxRecDepth 20000 in
theorem ggX1_read_X0_valueAt : GoodIn wsX1_read wsX0_valueAt := goodIn_r _ [25, 26, 27, 28, 29, 30, 12, 31, 14, 41, 42, 43] (by decide +kernel) (by decide +kernel)
set_option maxRecDepth 20000 in
theorem gX1_read_X0_valueAt : GoodIn wsX1_read (wsV RX1 55 RX0 yX0_valueAt wsX0_valueAt) := goodIn_app (goodIn_of _ (by decide +kernel)) ggX1_read_X0_valueAt
theorem dX1_read_0 : decode cX1_read 0 = .ok (.aload_n 0, 1) := by decide +kernel
theorem dX1_read_1 : decode cX1_read 1 = .ok (.invokevirtual 114, 3) := by decide +kernel
theorem dX1_read_4 : decode cX1_read 4 = .ok (.lstore_n 2, 1) := by decide +kernel
theorem dX1_read_5 : decode cX1_read 5 = .ok (.aload_n 0, 1) := by decide +kernel
theorem dX1_read_6 : decode cX1_read 6 = .ok (.getfield 24, 3) := by decide +kernel
theorem dX1_read_9 : decode cX1_read 9 = .ok (.lload_n 2, 1) := by decide +kernel
theorem dX1_read_10 : decode cX1_read 10 = .ok (.invokevirtual 102, 3) := by decide +kernel
theorem dX1_read_13 : decode cX1_read 13 = .ok (.istore 4, 2) := by decide +kernel
theorem dX1_read_15 : decode cX1_read 15 = .ok (.aload_n 0, 1) := by decide +kernel
theorem dX1_read_16 : decode cX1_read 16 = .ok (.getfield 24, 3) := by decide +kernel
theorem dX1_read_19 : decode cX1_read 19 = .ok (.lload_n 2, 1) := by decide +kernel
theorem dX1_read_20 : decode cX1_read 20 = .ok (.invokevirtual 99, 3) := by decide +kernel
theorem dX1_read_23 : decode cX1_read 23 = .ok (.iload 4, 2) := by decide +kernel
theorem dX1_read_25 : decode cX1_read 25 = .ok (.isub, 1) := by decide +kernel
theorem dX1_read_26 : decode cX1_read 26 = .ok (.istore 5, 2) := by decide +kernel
theorem dX1_read_28 : decode cX1_read 28 = .ok (.iload_n 1, 1) := by decide +kernel
theorem dX1_read_29 : decode cX1_read 29 = .ok (.ifCond .lt 23, 3) := by decide +kernel
theorem dX1_read_32 : decode cX1_read 32 = .ok (.iload_n 1, 1) := by decide +kernel
theorem dX1_read_33 : decode cX1_read 33 = .ok (.iload 5, 2) := by decide +kernel
theorem dX1_read_35 : decode cX1_read 35 = .ok (.if_icmp .ge 17, 3) := by decide +kernel
theorem dX1_read_38 : decode cX1_read 38 = .ok (.aload_n 0, 1) := by decide +kernel
theorem dX1_read_39 : decode cX1_read 39 = .ok (.getfield 24, 3) := by decide +kernel
theorem dX1_read_42 : decode cX1_read 42 = .ok (.iload 4, 2) := by decide +kernel
theorem dX1_read_44 : decode cX1_read 44 = .ok (.iload_n 1, 1) := by decide +kernel
theorem dX1_read_45 : decode cX1_read 45 = .ok (.iadd, 1) := by decide +kernel
theorem dX1_read_46 : decode cX1_read 46 = .ok (.invokevirtual 55, 3) := by decide +kernel
theorem dX1_read_49 : decode cX1_read 49 = .ok (.goto 6, 3) := by decide +kernel
theorem dX1_read_52 : decode cX1_read 52 = .ok (.ldc2_w 94, 3) := by decide +kernel
theorem dX1_read_55 : decode cX1_read 55 = .ok (.lreturn, 1) := by decide +kernel
set_option maxRecDepth 20000 in
theorem ggX1_next_X0_upTo : GoodIn wsX1_next wsX0_upTo := goodIn_r _ [7, 8, 9, 10, 11, 12, 6, 13, 14, 48, 49, 50] (by decide +kernel) (by decide +kernel)
set_option maxRecDepth 20000 in
theorem gX1_next_X0_upTo : GoodIn wsX1_next (wsV RX1 99 RX0 yX0_upTo wsX0_upTo) := goodIn_app (goodIn_of _ (by decide +kernel)) ggX1_next_X0_upTo
set_option maxRecDepth 20000 in
theorem ggX1_next_X0_held : GoodIn wsX1_next wsX0_held := goodIn_r _ [18, 9, 48, 49, 50] (by decide +kernel) (by decide +kernel)
set_option maxRecDepth 20000 in
theorem gX1_next_X0_held : GoodIn wsX1_next (wsV RX1 62 RX0 yX0_held wsX0_held) := goodIn_app (goodIn_of _ (by decide +kernel)) ggX1_next_X0_held
set_option maxRecDepth 20000 in
theorem ggX1_next_X0_keyAt : GoodIn wsX1_next wsX0_keyAt := goodIn_r _ [22, 14, 23, 24, 25, 26, 6, 27, 9, 48, 49, 50] (by decide +kernel) (by decide +kernel)
set_option maxRecDepth 20000 in
theorem gX1_next_X0_keyAt : GoodIn wsX1_next (wsV RX1 66 RX0 yX0_keyAt wsX0_keyAt) := goodIn_app (goodIn_of _ (by decide +kernel)) ggX1_next_X0_keyAt
set_option maxRecDepth 20000 in
theorem ggX1_next_X1_signsOf : GoodIn wsX1_next wsX1_signsOf := goodIn_r _ [31, 32, 33, 30, 34, 35, 36, 37, 38] (by decide +kernel) (by decide +kernel)
set_option maxRecDepth 20000 in
theorem gX1_next_X1_signsOf : GoodIn wsX1_next (va_wsS RX1 107 yX1_signsOf wsX1_signsOf) := goodIn_app (goodIn_of _ (by decide +kernel)) ggX1_next_X1_signsOf
theorem dX1_next_0 : decode cX1_next 0 = .ok (.aload_n 0, 1) := by decide +kernel
theorem dX1_next_1 : decode cX1_next 1 = .ok (.getfield 24, 3) := by decide +kernel
theorem dX1_next_4 : decode cX1_next 4 = .ok (.aload_n 0, 1) := by decide +kernel
theorem dX1_next_5 : decode cX1_next 5 = .ok (.getfield 36, 3) := by decide +kernel
theorem dX1_next_8 : decode cX1_next 8 = .ok (.invokevirtual 99, 3) := by decide +kernel
theorem dX1_next_11 : decode cX1_next 11 = .ok (.istore_n 1, 1) := by decide +kernel
theorem dX1_next_12 : decode cX1_next 12 = .ok (.aload_n 0, 1) := by decide +kernel
theorem dX1_next_13 : decode cX1_next 13 = .ok (.iload_n 1, 1) := by decide +kernel
theorem dX1_next_14 : decode cX1_next 14 = .ok (.aload_n 0, 1) := by decide +kernel
theorem dX1_next_15 : decode cX1_next 15 = .ok (.getfield 24, 3) := by decide +kernel
theorem dX1_next_18 : decode cX1_next 18 = .ok (.invokevirtual 62, 3) := by decide +kernel
theorem dX1_next_21 : decode cX1_next 21 = .ok (.if_icmp .ge 14, 3) := by decide +kernel
theorem dX1_next_24 : decode cX1_next 24 = .ok (.aload_n 0, 1) := by decide +kernel
theorem dX1_next_25 : decode cX1_next 25 = .ok (.getfield 24, 3) := by decide +kernel
theorem dX1_next_28 : decode cX1_next 28 = .ok (.iload_n 1, 1) := by decide +kernel
theorem dX1_next_29 : decode cX1_next 29 = .ok (.invokevirtual 66, 3) := by decide +kernel
theorem dX1_next_32 : decode cX1_next 32 = .ok (.goto 4, 3) := by decide +kernel
theorem dX1_next_35 : decode cX1_next 35 = .ok (.lconst 0, 1) := by decide +kernel
theorem dX1_next_36 : decode cX1_next 36 = .ok (.putfield 36, 3) := by decide +kernel
theorem dX1_next_39 : decode cX1_next 39 = .ok (.aload_n 0, 1) := by decide +kernel
theorem dX1_next_40 : decode cX1_next 40 = .ok (.getfield 36, 3) := by decide +kernel
theorem dX1_next_43 : decode cX1_next 43 = .ok (.invokestatic 107, 3) := by decide +kernel
theorem dX1_next_46 : decode cX1_next 46 = .ok (.ireturn, 1) := by decide +kernel
set_option maxRecDepth 20000 in
theorem ggX1_letter_X1_signsOf : GoodIn wsX1_letter wsX1_signsOf := goodIn_r _ [5, 6, 7, 4, 8, 9, 10, 11, 12] (by decide +kernel) (by decide +kernel)
set_option maxRecDepth 20000 in
theorem gX1_letter_X1_signsOf : GoodIn wsX1_letter (va_wsS RX1 107 yX1_signsOf wsX1_signsOf) := goodIn_app (goodIn_of _ (by decide +kernel)) ggX1_letter_X1_signsOf
set_option maxRecDepth 20000 in
theorem ggX1_letter_X1_signAt : GoodIn wsX1_letter wsX1_signAt := goodIn_r _ [8, 9, 10, 11, 4, 12] (by decide +kernel) (by decide +kernel)
set_option maxRecDepth 20000 in
theorem gX1_letter_X1_signAt : GoodIn wsX1_letter (va_wsS RX1 122 yX1_signAt wsX1_signAt) := goodIn_app (goodIn_of _ (by decide +kernel)) ggX1_letter_X1_signAt
theorem dX1_letter_0 : decode cX1_letter 0 = .ok (.iload_n 1, 1) := by decide +kernel
theorem dX1_letter_1 : decode cX1_letter 1 = .ok (.ifCond .lt 14, 3) := by decide +kernel
theorem dX1_letter_4 : decode cX1_letter 4 = .ok (.iload_n 1, 1) := by decide +kernel
theorem dX1_letter_5 : decode cX1_letter 5 = .ok (.aload_n 0, 1) := by decide +kernel
theorem dX1_letter_6 : decode cX1_letter 6 = .ok (.getfield 36, 3) := by decide +kernel
theorem dX1_letter_9 : decode cX1_letter 9 = .ok (.invokestatic 107, 3) := by decide +kernel
theorem dX1_letter_12 : decode cX1_letter 12 = .ok (.if_icmp .lt 5, 3) := by decide +kernel
theorem dX1_letter_15 : decode cX1_letter 15 = .ok (.iconst (-1), 1) := by decide +kernel
theorem dX1_letter_16 : decode cX1_letter 16 = .ok (.ireturn, 1) := by decide +kernel
theorem dX1_letter_17 : decode cX1_letter 17 = .ok (.bipush 96, 2) := by decide +kernel
theorem dX1_letter_19 : decode cX1_letter 19 = .ok (.aload_n 0, 1) := by decide +kernel
theorem dX1_letter_20 : decode cX1_letter 20 = .ok (.getfield 36, 3) := by decide +kernel
theorem dX1_letter_23 : decode cX1_letter 23 = .ok (.iload_n 1, 1) := by decide +kernel
theorem dX1_letter_24 : decode cX1_letter 24 = .ok (.invokestatic 122, 3) := by decide +kernel
theorem dX1_letter_27 : decode cX1_letter 27 = .ok (.iadd, 1) := by decide +kernel
theorem dX1_letter_28 : decode cX1_letter 28 = .ok (.ireturn, 1) := by decide +kernel
set_option maxRecDepth 20000 in
theorem ggX1_forget_X1_takeTape : GoodIn wsX1_forget wsX1_takeTape := goodIn_r _ [6, 7, 30, 31, 32, 33, 34, 35, 36, 37, 38] (by decide +kernel) (by decide +kernel)
set_option maxRecDepth 20000 in
theorem gX1_forget_X1_takeTape : GoodIn wsX1_forget (wsV RX1 114 RX1 yX1_takeTape wsX1_takeTape) := goodIn_app (goodIn_of _ (by decide +kernel)) ggX1_forget_X1_takeTape
set_option maxRecDepth 20000 in
theorem ggX1_forget_X0_below : GoodIn wsX1_forget wsX0_below := goodIn_r _ [12, 13, 14, 39, 40, 41] (by decide +kernel) (by decide +kernel)
set_option maxRecDepth 20000 in
theorem gX1_forget_X0_below : GoodIn wsX1_forget (wsV RX1 102 RX0 yX0_below wsX0_below) := goodIn_app (goodIn_of _ (by decide +kernel)) ggX1_forget_X0_below
set_option maxRecDepth 20000 in
theorem ggX1_forget_X0_upTo : GoodIn wsX1_forget wsX0_upTo := goodIn_r _ [18, 19, 13, 20, 9, 10, 11, 12, 14, 39, 40, 41] (by decide +kernel) (by decide +kernel)
set_option maxRecDepth 20000 in
theorem gX1_forget_X0_upTo : GoodIn wsX1_forget (wsV RX1 99 RX0 yX0_upTo wsX0_upTo) := goodIn_app (goodIn_of _ (by decide +kernel)) ggX1_forget_X0_upTo
set_option maxRecDepth 20000 in
theorem ggX1_forget_X0_takeOut : GoodIn wsX1_forget wsX0_takeOut := goodIn_r _ [24, 13, 14, 25, 26, 27, 28, 29, 39, 40, 41] (by decide +kernel) (by decide +kernel)
set_option maxRecDepth 20000 in
theorem gX1_forget_X0_takeOut : GoodIn wsX1_forget (wsV RX1 126 RX0 yX0_takeOut wsX0_takeOut) := goodIn_app (goodIn_of _ (by decide +kernel)) ggX1_forget_X0_takeOut
theorem dX1_forget_0 : decode cX1_forget 0 = .ok (.aload_n 0, 1) := by decide +kernel
theorem dX1_forget_1 : decode cX1_forget 1 = .ok (.invokevirtual 114, 3) := by decide +kernel
theorem dX1_forget_4 : decode cX1_forget 4 = .ok (.lstore_n 1, 1) := by decide +kernel
theorem dX1_forget_5 : decode cX1_forget 5 = .ok (.aload_n 0, 1) := by decide +kernel
theorem dX1_forget_6 : decode cX1_forget 6 = .ok (.getfield 24, 3) := by decide +kernel
theorem dX1_forget_9 : decode cX1_forget 9 = .ok (.lload_n 1, 1) := by decide +kernel
theorem dX1_forget_10 : decode cX1_forget 10 = .ok (.invokevirtual 102, 3) := by decide +kernel
theorem dX1_forget_13 : decode cX1_forget 13 = .ok (.istore_n 3, 1) := by decide +kernel
theorem dX1_forget_14 : decode cX1_forget 14 = .ok (.aload_n 0, 1) := by decide +kernel
theorem dX1_forget_15 : decode cX1_forget 15 = .ok (.getfield 24, 3) := by decide +kernel
theorem dX1_forget_18 : decode cX1_forget 18 = .ok (.lload_n 1, 1) := by decide +kernel
theorem dX1_forget_19 : decode cX1_forget 19 = .ok (.invokevirtual 99, 3) := by decide +kernel
theorem dX1_forget_22 : decode cX1_forget 22 = .ok (.istore 4, 2) := by decide +kernel
theorem dX1_forget_24 : decode cX1_forget 24 = .ok (.iload_n 3, 1) := by decide +kernel
theorem dX1_forget_25 : decode cX1_forget 25 = .ok (.iload 4, 2) := by decide +kernel
theorem dX1_forget_27 : decode cX1_forget 27 = .ok (.if_icmp .lt 5, 3) := by decide +kernel
theorem dX1_forget_30 : decode cX1_forget 30 = .ok (.iconst (-1), 1) := by decide +kernel
theorem dX1_forget_31 : decode cX1_forget 31 = .ok (.ireturn, 1) := by decide +kernel
theorem dX1_forget_32 : decode cX1_forget 32 = .ok (.aload_n 0, 1) := by decide +kernel
theorem dX1_forget_33 : decode cX1_forget 33 = .ok (.getfield 24, 3) := by decide +kernel
theorem dX1_forget_36 : decode cX1_forget 36 = .ok (.iload_n 3, 1) := by decide +kernel
theorem dX1_forget_37 : decode cX1_forget 37 = .ok (.iload 4, 2) := by decide +kernel
theorem dX1_forget_39 : decode cX1_forget 39 = .ok (.invokevirtual 126, 3) := by decide +kernel
theorem dX1_forget_42 : decode cX1_forget 42 = .ok (.iload 4, 2) := by decide +kernel
theorem dX1_forget_44 : decode cX1_forget 44 = .ok (.iload_n 3, 1) := by decide +kernel
theorem dX1_forget_45 : decode cX1_forget 45 = .ok (.isub, 1) := by decide +kernel
theorem dX1_forget_46 : decode cX1_forget 46 = .ok (.ireturn, 1) := by decide +kernel
set_option maxRecDepth 20000 in
theorem ggX1_mark_X1_pairKey : GoodIn wsX1_mark wsX1_pairKey := goodIn_r _ [5, 6] (by decide +kernel) (by decide +kernel)
set_option maxRecDepth 20000 in
theorem gX1_mark_X1_pairKey : GoodIn wsX1_mark (va_wsS RX1 43 yX1_pairKey wsX1_pairKey) := goodIn_app (goodIn_of _ (by decide +kernel)) ggX1_mark_X1_pairKey
set_option maxRecDepth 20000 in
theorem ggX1_mark_X0_find : GoodIn wsX1_mark wsX0_find := goodIn_r _ [11, 12, 13, 14, 10, 15, 16, 17, 18, 19, 20, 21, 22, 23, 24, 25, 65, 66, 67] (by decide +kernel) (by decide +kernel)
set_option maxRecDepth 20000 in
theorem gX1_mark_X0_find : GoodIn wsX1_mark (wsV RX1 51 RX0 yX0_find wsX0_find) := goodIn_app (goodIn_of _ (by decide +kernel)) ggX1_mark_X0_find
set_option maxRecDepth 20000 in
theorem ggX1_mark_X0_store : GoodIn wsX1_mark wsX0_store := goodIn_r _ [29, 30, 31, 12, 13, 14, 10, 15, 16, 17, 18, 19, 20, 21, 22, 23, 24, 25, 32, 33, 34, 35, 36, 37, 38, 39, 65, 66, 67] (by decide +kernel) (by decide +kernel)
set_option maxRecDepth 20000 in
theorem gX1_mark_X0_store : GoodIn wsX1_mark (wsV RX1 91 RX0 yX0_store wsX0_store) := goodIn_app (goodIn_of _ (by decide +kernel)) ggX1_mark_X0_store
set_option maxRecDepth 20000 in
theorem ggX1_mark_X0_takeAt : GoodIn wsX1_mark wsX0_takeAt := goodIn_r _ [43, 44, 45, 46, 10, 47, 31, 30, 22, 23, 24, 25, 16, 48, 49, 50, 51, 17, 36, 37, 38, 39, 65, 66, 67] (by decide +kernel) (by decide +kernel)
set_option maxRecDepth 20000 in
theorem gX1_mark_X0_takeAt : GoodIn wsX1_mark (wsV RX1 59 RX0 yX0_takeAt wsX0_takeAt) := goodIn_app (goodIn_of _ (by decide +kernel)) ggX1_mark_X0_takeAt
set_option maxRecDepth 20000 in
theorem ggX1_mark_X0_held : GoodIn wsX1_mark wsX0_held := goodIn_r _ [55, 16, 65, 66, 67] (by decide +kernel) (by decide +kernel)
set_option maxRecDepth 20000 in
theorem gX1_mark_X0_held : GoodIn wsX1_mark (wsV RX1 62 RX0 yX0_held wsX0_held) := goodIn_app (goodIn_of _ (by decide +kernel)) ggX1_mark_X0_held
theorem dX1_mark_0 : decode cX1_mark 0 = .ok (.iload_n 1, 1) := by decide +kernel
theorem dX1_mark_1 : decode cX1_mark 1 = .ok (.iload_n 2, 1) := by decide +kernel
theorem dX1_mark_2 : decode cX1_mark 2 = .ok (.invokestatic 43, 3) := by decide +kernel
theorem dX1_mark_5 : decode cX1_mark 5 = .ok (.lstore_n 3, 1) := by decide +kernel
theorem dX1_mark_6 : decode cX1_mark 6 = .ok (.aload_n 0, 1) := by decide +kernel
theorem dX1_mark_7 : decode cX1_mark 7 = .ok (.getfield 30, 3) := by decide +kernel
theorem dX1_mark_10 : decode cX1_mark 10 = .ok (.lload_n 3, 1) := by decide +kernel
theorem dX1_mark_11 : decode cX1_mark 11 = .ok (.invokevirtual 51, 3) := by decide +kernel
theorem dX1_mark_14 : decode cX1_mark 14 = .ok (.istore 5, 2) := by decide +kernel
theorem dX1_mark_16 : decode cX1_mark 16 = .ok (.iload 5, 2) := by decide +kernel
theorem dX1_mark_18 : decode cX1_mark 18 = .ok (.ifCond .ge 16, 3) := by decide +kernel
theorem dX1_mark_21 : decode cX1_mark 21 = .ok (.aload_n 0, 1) := by decide +kernel
theorem dX1_mark_22 : decode cX1_mark 22 = .ok (.getfield 30, 3) := by decide +kernel
theorem dX1_mark_25 : decode cX1_mark 25 = .ok (.lload_n 3, 1) := by decide +kernel
theorem dX1_mark_26 : decode cX1_mark 26 = .ok (.lconst 0, 1) := by decide +kernel
theorem dX1_mark_27 : decode cX1_mark 27 = .ok (.invokevirtual 91, 3) := by decide +kernel
theorem dX1_mark_30 : decode cX1_mark 30 = .ok (.pop2, 1) := by decide +kernel
theorem dX1_mark_31 : decode cX1_mark 31 = .ok (.goto 13, 3) := by decide +kernel
theorem dX1_mark_34 : decode cX1_mark 34 = .ok (.aload_n 0, 1) := by decide +kernel
theorem dX1_mark_35 : decode cX1_mark 35 = .ok (.getfield 30, 3) := by decide +kernel
theorem dX1_mark_38 : decode cX1_mark 38 = .ok (.iload 5, 2) := by decide +kernel
theorem dX1_mark_40 : decode cX1_mark 40 = .ok (.invokevirtual 59, 3) := by decide +kernel
theorem dX1_mark_43 : decode cX1_mark 43 = .ok (.pop2, 1) := by decide +kernel
theorem dX1_mark_44 : decode cX1_mark 44 = .ok (.aload_n 0, 1) := by decide +kernel
theorem dX1_mark_45 : decode cX1_mark 45 = .ok (.getfield 30, 3) := by decide +kernel
theorem dX1_mark_48 : decode cX1_mark 48 = .ok (.invokevirtual 62, 3) := by decide +kernel
theorem dX1_mark_51 : decode cX1_mark 51 = .ok (.ireturn, 1) := by decide +kernel
set_option maxRecDepth 20000 in
theorem ggX1_around_X1_pairKey : GoodIn wsX1_around wsX1_pairKey := goodIn_r _ [5, 6] (by decide +kernel) (by decide +kernel)
set_option maxRecDepth 20000 in
theorem gX1_around_X1_pairKey : GoodIn wsX1_around (va_wsS RX1 43 yX1_pairKey wsX1_pairKey) := goodIn_app (goodIn_of _ (by decide +kernel)) ggX1_around_X1_pairKey
set_option maxRecDepth 20000 in
theorem ggX1_around_X0_holds : GoodIn wsX1_around wsX0_holds := goodIn_r _ [11, 12, 13, 14, 10, 15, 16, 17, 18, 19, 20, 21, 22, 23, 24, 25, 26, 27, 28, 29, 39, 40, 41] (by decide +kernel) (by decide +kernel)
set_option maxRecDepth 20000 in
theorem gX1_around_X0_holds : GoodIn wsX1_around (wsV RX1 96 RX0 yX0_holds wsX0_holds) := goodIn_app (goodIn_of _ (by decide +kernel)) ggX1_around_X0_holds
theorem dX1_around_0 : decode cX1_around 0 = .ok (.iconst 0, 1) := by decide +kernel
theorem dX1_around_1 : decode cX1_around 1 = .ok (.istore_n 3, 1) := by decide +kernel
theorem dX1_around_2 : decode cX1_around 2 = .ok (.iconst (-1), 1) := by decide +kernel
theorem dX1_around_3 : decode cX1_around 3 = .ok (.istore 4, 2) := by decide +kernel
theorem dX1_around_5 : decode cX1_around 5 = .ok (.iload 4, 2) := by decide +kernel
theorem dX1_around_7 : decode cX1_around 7 = .ok (.iconst 1, 1) := by decide +kernel
theorem dX1_around_8 : decode cX1_around 8 = .ok (.if_icmp .gt 58, 3) := by decide +kernel
theorem dX1_around_11 : decode cX1_around 11 = .ok (.iconst (-1), 1) := by decide +kernel
theorem dX1_around_12 : decode cX1_around 12 = .ok (.istore 5, 2) := by decide +kernel
theorem dX1_around_14 : decode cX1_around 14 = .ok (.iload 5, 2) := by decide +kernel
theorem dX1_around_16 : decode cX1_around 16 = .ok (.iconst 1, 1) := by decide +kernel
theorem dX1_around_17 : decode cX1_around 17 = .ok (.if_icmp .gt 43, 3) := by decide +kernel
theorem dX1_around_20 : decode cX1_around 20 = .ok (.iload 4, 2) := by decide +kernel
theorem dX1_around_22 : decode cX1_around 22 = .ok (.ifCond .ne 8, 3) := by decide +kernel
theorem dX1_around_25 : decode cX1_around 25 = .ok (.iload 5, 2) := by decide +kernel
theorem dX1_around_27 : decode cX1_around 27 = .ok (.ifCond .eq 27, 3) := by decide +kernel
theorem dX1_around_30 : decode cX1_around 30 = .ok (.aload_n 0, 1) := by decide +kernel
theorem dX1_around_31 : decode cX1_around 31 = .ok (.getfield 30, 3) := by decide +kernel
theorem dX1_around_34 : decode cX1_around 34 = .ok (.iload_n 1, 1) := by decide +kernel
theorem dX1_around_35 : decode cX1_around 35 = .ok (.iload 4, 2) := by decide +kernel
theorem dX1_around_37 : decode cX1_around 37 = .ok (.iadd, 1) := by decide +kernel
theorem dX1_around_38 : decode cX1_around 38 = .ok (.iload_n 2, 1) := by decide +kernel
theorem dX1_around_39 : decode cX1_around 39 = .ok (.iload 5, 2) := by decide +kernel
theorem dX1_around_41 : decode cX1_around 41 = .ok (.iadd, 1) := by decide +kernel
theorem dX1_around_42 : decode cX1_around 42 = .ok (.invokestatic 43, 3) := by decide +kernel
theorem dX1_around_45 : decode cX1_around 45 = .ok (.invokevirtual 96, 3) := by decide +kernel
theorem dX1_around_48 : decode cX1_around 48 = .ok (.ifCond .eq 6, 3) := by decide +kernel
theorem dX1_around_51 : decode cX1_around 51 = .ok (.iinc 3 1, 3) := by decide +kernel
theorem dX1_around_54 : decode cX1_around 54 = .ok (.iinc 5 1, 3) := by decide +kernel
theorem dX1_around_57 : decode cX1_around 57 = .ok (.goto (-43), 3) := by decide +kernel
theorem dX1_around_60 : decode cX1_around 60 = .ok (.iinc 4 1, 3) := by decide +kernel
theorem dX1_around_63 : decode cX1_around 63 = .ok (.goto (-58), 3) := by decide +kernel
theorem dX1_around_66 : decode cX1_around 66 = .ok (.iload_n 3, 1) := by decide +kernel
theorem dX1_around_67 : decode cX1_around 67 = .ok (.ireturn, 1) := by decide +kernel
set_option maxRecDepth 20000 in
theorem ggX1_step_X0_held : GoodIn wsX1_step wsX0_held := goodIn_r _ [7, 8, 95, 96, 97] (by decide +kernel) (by decide +kernel)
set_option maxRecDepth 20000 in
theorem gX1_step_X0_held : GoodIn wsX1_step (wsV RX1 62 RX0 yX0_held wsX0_held) := goodIn_app (goodIn_of _ (by decide +kernel)) ggX1_step_X0_held
set_option maxRecDepth 20000 in
theorem ggX1_step_X1_tallyAllAround : GoodIn wsX1_step wsX1_tallyAllAround := goodIn_r _ [13, 2, 1, 14, 15, 16, 6, 17, 8, 3, 4, 5, 7, 18, 19, 20, 21, 22, 23, 24, 25, 26, 27, 28, 29, 12, 30, 31, 32, 33, 34, 35, 36, 37, 38, 39, 40, 41, 42, 43, 44, 45, 46, 47, 48, 49, 50, 51, 52, 53, 54, 55, 56, 57, 58, 59, 60, 61, 62, 63, 86, 87, 88, 89, 90, 91, 92, 93, 94, 95, 96, 97] (by decide +kernel) (by decide +kernel)
set_option maxRecDepth 20000 in
theorem gX1_step_X1_tallyAllAround : GoodIn wsX1_step (wsV RX1 129 RX1 yX1_tallyAllAround wsX1_tallyAllAround) := goodIn_app (goodIn_of _ (by decide +kernel)) ggX1_step_X1_tallyAllAround
set_option maxRecDepth 20000 in
theorem ggX1_step_X0_keyAt : GoodIn wsX1_step wsX0_keyAt := goodIn_r _ [21, 22, 23, 24, 25, 26, 6, 27, 8, 95, 96, 97] (by decide +kernel) (by decide +kernel)
set_option maxRecDepth 20000 in
theorem gX1_step_X0_keyAt : GoodIn wsX1_step (wsV RX1 66 RX0 yX0_keyAt wsX0_keyAt) := goodIn_app (goodIn_of _ (by decide +kernel)) ggX1_step_X0_keyAt
set_option maxRecDepth 20000 in
theorem ggX1_step_X0_valueAt : GoodIn wsX1_step wsX0_valueAt := goodIn_r _ [67, 47, 23, 24, 25, 26, 6, 27, 8, 95, 96, 97] (by decide +kernel) (by decide +kernel)
set_option maxRecDepth 20000 in
theorem gX1_step_X0_valueAt : GoodIn wsX1_step (wsV RX1 55 RX0 yX0_valueAt wsX0_valueAt) := goodIn_app (goodIn_of _ (by decide +kernel)) ggX1_step_X0_valueAt
set_option maxRecDepth 20000 in
theorem ggX1_step_X1_isMarkedThen : GoodIn wsX1_step wsX1_isMarkedThen := goodIn_r _ [71, 72, 73, 1, 74, 75, 76, 6, 77, 78, 79, 80, 81, 48, 49, 50, 51, 8, 22, 52, 53, 54, 55, 24, 25, 26, 27, 86, 87, 88, 89, 90, 91, 92, 93, 94, 95, 96, 97] (by decide +kernel) (by decide +kernel)
set_option maxRecDepth 20000 in
theorem gX1_step_X1_isMarkedThen : GoodIn wsX1_step (wsV RX1 132 RX1 yX1_isMarkedThen wsX1_isMarkedThen) := goodIn_app (goodIn_of _ (by decide +kernel)) ggX1_step_X1_isMarkedThen
set_option maxRecDepth 20000 in
theorem ggX1_step_X0_move : GoodIn wsX1_step wsX0_move := goodIn_r _ [85, 22, 47, 24, 25, 26, 6, 27, 8, 95, 96, 97] (by decide +kernel) (by decide +kernel)
set_option maxRecDepth 20000 in
theorem gX1_step_X0_move : GoodIn wsX1_step (wsV RX1 81 RX0 yX0_move wsX0_move) := goodIn_app (goodIn_of _ (by decide +kernel)) ggX1_step_X0_move
set_option maxRecDepth 20000 in
theorem ggX1_step_X0_shorten : GoodIn wsX1_step wsX0_shorten := goodIn_r _ [17, 8, 95, 96, 97] (by decide +kernel) (by decide +kernel)
set_option maxRecDepth 20000 in
theorem gX1_step_X0_shorten : GoodIn wsX1_step (wsV RX1 85 RX0 yX0_shorten wsX0_shorten) := goodIn_app (goodIn_of _ (by decide +kernel)) ggX1_step_X0_shorten
theorem dX1_step_0 : decode cX1_step 0 = .ok (.aload_n 0, 1) := by decide +kernel
theorem dX1_step_1 : decode cX1_step 1 = .ok (.getfield 30, 3) := by decide +kernel
theorem dX1_step_4 : decode cX1_step 4 = .ok (.invokevirtual 62, 3) := by decide +kernel
theorem dX1_step_7 : decode cX1_step 7 = .ok (.bipush 60, 2) := by decide +kernel
theorem dX1_step_9 : decode cX1_step 9 = .ok (.if_icmp .le 5, 3) := by decide +kernel
theorem dX1_step_12 : decode cX1_step 12 = .ok (.iconst (-1), 1) := by decide +kernel
theorem dX1_step_13 : decode cX1_step 13 = .ok (.ireturn, 1) := by decide +kernel
theorem dX1_step_14 : decode cX1_step 14 = .ok (.aload_n 0, 1) := by decide +kernel
theorem dX1_step_15 : decode cX1_step 15 = .ok (.invokevirtual 129, 3) := by decide +kernel
theorem dX1_step_18 : decode cX1_step 18 = .ok (.iconst 0, 1) := by decide +kernel
theorem dX1_step_19 : decode cX1_step 19 = .ok (.istore_n 1, 1) := by decide +kernel
theorem dX1_step_20 : decode cX1_step 20 = .ok (.iconst 0, 1) := by decide +kernel
theorem dX1_step_21 : decode cX1_step 21 = .ok (.istore_n 2, 1) := by decide +kernel
theorem dX1_step_22 : decode cX1_step 22 = .ok (.iload_n 2, 1) := by decide +kernel
theorem dX1_step_23 : decode cX1_step 23 = .ok (.aload_n 0, 1) := by decide +kernel
theorem dX1_step_24 : decode cX1_step 24 = .ok (.getfield 33, 3) := by decide +kernel
theorem dX1_step_27 : decode cX1_step 27 = .ok (.invokevirtual 62, 3) := by decide +kernel
theorem dX1_step_30 : decode cX1_step 30 = .ok (.if_icmp .ge 44, 3) := by decide +kernel
theorem dX1_step_33 : decode cX1_step 33 = .ok (.aload_n 0, 1) := by decide +kernel
theorem dX1_step_34 : decode cX1_step 34 = .ok (.aload_n 0, 1) := by decide +kernel
theorem dX1_step_35 : decode cX1_step 35 = .ok (.getfield 33, 3) := by decide +kernel
theorem dX1_step_38 : decode cX1_step 38 = .ok (.iload_n 2, 1) := by decide +kernel
theorem dX1_step_39 : decode cX1_step 39 = .ok (.invokevirtual 66, 3) := by decide +kernel
theorem dX1_step_42 : decode cX1_step 42 = .ok (.aload_n 0, 1) := by decide +kernel
theorem dX1_step_43 : decode cX1_step 43 = .ok (.getfield 33, 3) := by decide +kernel
theorem dX1_step_46 : decode cX1_step 46 = .ok (.iload_n 2, 1) := by decide +kernel
theorem dX1_step_47 : decode cX1_step 47 = .ok (.invokevirtual 55, 3) := by decide +kernel
theorem dX1_step_50 : decode cX1_step 50 = .ok (.invokevirtual 132, 3) := by decide +kernel
theorem dX1_step_53 : decode cX1_step 53 = .ok (.ifCond .eq 15, 3) := by decide +kernel
theorem dX1_step_56 : decode cX1_step 56 = .ok (.aload_n 0, 1) := by decide +kernel
theorem dX1_step_57 : decode cX1_step 57 = .ok (.getfield 33, 3) := by decide +kernel
theorem dX1_step_60 : decode cX1_step 60 = .ok (.iload_n 2, 1) := by decide +kernel
theorem dX1_step_61 : decode cX1_step 61 = .ok (.iload_n 1, 1) := by decide +kernel
theorem dX1_step_62 : decode cX1_step 62 = .ok (.invokevirtual 81, 3) := by decide +kernel
theorem dX1_step_65 : decode cX1_step 65 = .ok (.iinc 1 1, 3) := by decide +kernel
theorem dX1_step_68 : decode cX1_step 68 = .ok (.iinc 2 1, 3) := by decide +kernel
theorem dX1_step_71 : decode cX1_step 71 = .ok (.goto (-49), 3) := by decide +kernel
theorem dX1_step_74 : decode cX1_step 74 = .ok (.aload_n 0, 1) := by decide +kernel
theorem dX1_step_75 : decode cX1_step 75 = .ok (.getfield 33, 3) := by decide +kernel
theorem dX1_step_78 : decode cX1_step 78 = .ok (.iload_n 1, 1) := by decide +kernel
theorem dX1_step_79 : decode cX1_step 79 = .ok (.invokevirtual 85, 3) := by decide +kernel
theorem dX1_step_82 : decode cX1_step 82 = .ok (.aload_n 0, 1) := by decide +kernel
theorem dX1_step_83 : decode cX1_step 83 = .ok (.getfield 30, 3) := by decide +kernel
theorem dX1_step_86 : decode cX1_step 86 = .ok (.astore_n 2, 1) := by decide +kernel
theorem dX1_step_87 : decode cX1_step 87 = .ok (.aload_n 0, 1) := by decide +kernel
theorem dX1_step_88 : decode cX1_step 88 = .ok (.aload_n 0, 1) := by decide +kernel
theorem dX1_step_89 : decode cX1_step 89 = .ok (.getfield 33, 3) := by decide +kernel
theorem dX1_step_92 : decode cX1_step 92 = .ok (.putfield 30, 3) := by decide +kernel
theorem dX1_step_95 : decode cX1_step 95 = .ok (.aload_n 0, 1) := by decide +kernel
theorem dX1_step_96 : decode cX1_step 96 = .ok (.aload_n 2, 1) := by decide +kernel
theorem dX1_step_97 : decode cX1_step 97 = .ok (.putfield 33, 3) := by decide +kernel
theorem dX1_step_100 : decode cX1_step 100 = .ok (.aload_n 0, 1) := by decide +kernel
theorem dX1_step_101 : decode cX1_step 101 = .ok (.getfield 30, 3) := by decide +kernel
theorem dX1_step_104 : decode cX1_step 104 = .ok (.invokevirtual 62, 3) := by decide +kernel
theorem dX1_step_107 : decode cX1_step 107 = .ok (.ireturn, 1) := by decide +kernel
set_option maxRecDepth 20000 in
theorem ggX1_put_X1_pairKey : GoodIn wsX1_put wsX1_pairKey := goodIn_r _ [5, 6] (by decide +kernel) (by decide +kernel)
set_option maxRecDepth 20000 in
theorem gX1_put_X1_pairKey : GoodIn wsX1_put (va_wsS RX1 43 yX1_pairKey wsX1_pairKey) := goodIn_app (goodIn_of _ (by decide +kernel)) ggX1_put_X1_pairKey
set_option maxRecDepth 20000 in
theorem ggX1_put_X0_store : GoodIn wsX1_put wsX0_store := goodIn_r _ [11, 12, 13, 14, 15, 16, 10, 17, 18, 19, 20, 21, 22, 23, 24, 25, 26, 27, 28, 29, 30, 31, 32, 33, 34, 35, 45, 46, 47] (by decide +kernel) (by decide +kernel)
set_option maxRecDepth 20000 in
theorem gX1_put_X0_store : GoodIn wsX1_put (wsV RX1 91 RX0 yX0_store wsX0_store) := goodIn_app (goodIn_of _ (by decide +kernel)) ggX1_put_X0_store
theorem dX1_put_0 : decode cX1_put 0 = .ok (.aload_n 0, 1) := by decide +kernel
theorem dX1_put_1 : decode cX1_put 1 = .ok (.getfield 27, 3) := by decide +kernel
theorem dX1_put_4 : decode cX1_put 4 = .ok (.iload_n 1, 1) := by decide +kernel
theorem dX1_put_5 : decode cX1_put 5 = .ok (.iload_n 2, 1) := by decide +kernel
theorem dX1_put_6 : decode cX1_put 6 = .ok (.invokestatic 43, 3) := by decide +kernel
theorem dX1_put_9 : decode cX1_put 9 = .ok (.iload_n 3, 1) := by decide +kernel
theorem dX1_put_10 : decode cX1_put 10 = .ok (.i2l, 1) := by decide +kernel
theorem dX1_put_11 : decode cX1_put 11 = .ok (.invokevirtual 91, 3) := by decide +kernel
theorem dX1_put_14 : decode cX1_put 14 = .ok (.lreturn, 1) := by decide +kernel
set_option maxRecDepth 20000 in
theorem ggX1_get_X1_pairKey : GoodIn wsX1_get wsX1_pairKey := goodIn_r _ [5, 6] (by decide +kernel) (by decide +kernel)
set_option maxRecDepth 20000 in
theorem gX1_get_X1_pairKey : GoodIn wsX1_get (va_wsS RX1 43 yX1_pairKey wsX1_pairKey) := goodIn_app (goodIn_of _ (by decide +kernel)) ggX1_get_X1_pairKey
set_option maxRecDepth 20000 in
theorem ggX1_get_X0_find : GoodIn wsX1_get wsX0_find := goodIn_r _ [11, 12, 13, 14, 10, 15, 16, 17, 18, 19, 20, 21, 22, 23, 24, 25, 41, 42, 43] (by decide +kernel) (by decide +kernel)
set_option maxRecDepth 20000 in
theorem gX1_get_X0_find : GoodIn wsX1_get (wsV RX1 51 RX0 yX0_find wsX0_find) := goodIn_app (goodIn_of _ (by decide +kernel)) ggX1_get_X0_find
set_option maxRecDepth 20000 in
theorem ggX1_get_X0_valueAt : GoodIn wsX1_get wsX0_valueAt := goodIn_r _ [29, 30, 31, 22, 23, 24, 10, 25, 16, 41, 42, 43] (by decide +kernel) (by decide +kernel)
set_option maxRecDepth 20000 in
theorem gX1_get_X0_valueAt : GoodIn wsX1_get (wsV RX1 55 RX0 yX0_valueAt wsX0_valueAt) := goodIn_app (goodIn_of _ (by decide +kernel)) ggX1_get_X0_valueAt
theorem dX1_get_0 : decode cX1_get 0 = .ok (.aload_n 0, 1) := by decide +kernel
theorem dX1_get_1 : decode cX1_get 1 = .ok (.getfield 27, 3) := by decide +kernel
theorem dX1_get_4 : decode cX1_get 4 = .ok (.aload_n 0, 1) := by decide +kernel
theorem dX1_get_5 : decode cX1_get 5 = .ok (.getfield 27, 3) := by decide +kernel
theorem dX1_get_8 : decode cX1_get 8 = .ok (.iload_n 1, 1) := by decide +kernel
theorem dX1_get_9 : decode cX1_get 9 = .ok (.iload_n 2, 1) := by decide +kernel
theorem dX1_get_10 : decode cX1_get 10 = .ok (.invokestatic 43, 3) := by decide +kernel
theorem dX1_get_13 : decode cX1_get 13 = .ok (.invokevirtual 51, 3) := by decide +kernel
theorem dX1_get_16 : decode cX1_get 16 = .ok (.invokevirtual 55, 3) := by decide +kernel
theorem dX1_get_19 : decode cX1_get 19 = .ok (.lreturn, 1) := by decide +kernel
set_option maxRecDepth 20000 in
theorem ggX1_end_X1_pairKey : GoodIn wsX1_end wsX1_pairKey := goodIn_r _ [7, 8] (by decide +kernel) (by decide +kernel)
set_option maxRecDepth 20000 in
theorem gX1_end_X1_pairKey : GoodIn wsX1_end (va_wsS RX1 43 yX1_pairKey wsX1_pairKey) := goodIn_app (goodIn_of _ (by decide +kernel)) ggX1_end_X1_pairKey
set_option maxRecDepth 20000 in
theorem ggX1_end_X0_upTo : GoodIn wsX1_end wsX0_upTo := goodIn_r _ [13, 14, 15, 16, 17, 18, 12, 19, 20, 46, 47, 48] (by decide +kernel) (by decide +kernel)
set_option maxRecDepth 20000 in
theorem gX1_end_X0_upTo : GoodIn wsX1_end (wsV RX1 99 RX0 yX0_upTo wsX0_upTo) := goodIn_app (goodIn_of _ (by decide +kernel)) ggX1_end_X0_upTo
set_option maxRecDepth 20000 in
theorem ggX1_end_X0_keyAt : GoodIn wsX1_end wsX0_keyAt := goodIn_r _ [24, 20, 25, 26, 27, 28, 12, 29, 15, 46, 47, 48] (by decide +kernel) (by decide +kernel)
set_option maxRecDepth 20000 in
theorem gX1_end_X0_keyAt : GoodIn wsX1_end (wsV RX1 66 RX0 yX0_keyAt wsX0_keyAt) := goodIn_app (goodIn_of _ (by decide +kernel)) ggX1_end_X0_keyAt
set_option maxRecDepth 20000 in
theorem ggX1_end_X1_firstOf : GoodIn wsX1_end wsX1_firstOf := goodIn_r _ [32] (by decide +kernel) (by decide +kernel)
set_option maxRecDepth 20000 in
theorem gX1_end_X1_firstOf : GoodIn wsX1_end (va_wsS RX1 71 yX1_firstOf wsX1_firstOf) := goodIn_app (goodIn_of _ (by decide +kernel)) ggX1_end_X1_firstOf
set_option maxRecDepth 20000 in
theorem ggX1_end_X1_secondOf : GoodIn wsX1_end wsX1_secondOf := goodIn_r _ [35, 36] (by decide +kernel) (by decide +kernel)
set_option maxRecDepth 20000 in
theorem gX1_end_X1_secondOf : GoodIn wsX1_end (va_wsS RX1 74 yX1_secondOf wsX1_secondOf) := goodIn_app (goodIn_of _ (by decide +kernel)) ggX1_end_X1_secondOf
theorem dX1_end_0 : decode cX1_end 0 = .ok (.aload_n 0, 1) := by decide +kernel
theorem dX1_end_1 : decode cX1_end 1 = .ok (.getfield 27, 3) := by decide +kernel
theorem dX1_end_4 : decode cX1_end 4 = .ok (.iload_n 1, 1) := by decide +kernel
theorem dX1_end_5 : decode cX1_end 5 = .ok (.ldc 138, 2) := by decide +kernel
theorem dX1_end_7 : decode cX1_end 7 = .ok (.invokestatic 43, 3) := by decide +kernel
theorem dX1_end_10 : decode cX1_end 10 = .ok (.invokevirtual 99, 3) := by decide +kernel
theorem dX1_end_13 : decode cX1_end 13 = .ok (.iconst 1, 1) := by decide +kernel
theorem dX1_end_14 : decode cX1_end 14 = .ok (.isub, 1) := by decide +kernel
theorem dX1_end_15 : decode cX1_end 15 = .ok (.istore_n 2, 1) := by decide +kernel
theorem dX1_end_16 : decode cX1_end 16 = .ok (.iload_n 2, 1) := by decide +kernel
theorem dX1_end_17 : decode cX1_end 17 = .ok (.ifCond .lt 18, 3) := by decide +kernel
theorem dX1_end_20 : decode cX1_end 20 = .ok (.aload_n 0, 1) := by decide +kernel
theorem dX1_end_21 : decode cX1_end 21 = .ok (.getfield 27, 3) := by decide +kernel
theorem dX1_end_24 : decode cX1_end 24 = .ok (.iload_n 2, 1) := by decide +kernel
theorem dX1_end_25 : decode cX1_end 25 = .ok (.invokevirtual 66, 3) := by decide +kernel
theorem dX1_end_28 : decode cX1_end 28 = .ok (.invokestatic 71, 3) := by decide +kernel
theorem dX1_end_31 : decode cX1_end 31 = .ok (.iload_n 1, 1) := by decide +kernel
theorem dX1_end_32 : decode cX1_end 32 = .ok (.if_icmp .eq 7, 3) := by decide +kernel
theorem dX1_end_35 : decode cX1_end 35 = .ok (.ldc2_w 94, 3) := by decide +kernel
theorem dX1_end_38 : decode cX1_end 38 = .ok (.lreturn, 1) := by decide +kernel
theorem dX1_end_39 : decode cX1_end 39 = .ok (.aload_n 0, 1) := by decide +kernel
theorem dX1_end_40 : decode cX1_end 40 = .ok (.getfield 27, 3) := by decide +kernel
theorem dX1_end_43 : decode cX1_end 43 = .ok (.iload_n 2, 1) := by decide +kernel
theorem dX1_end_44 : decode cX1_end 44 = .ok (.invokevirtual 66, 3) := by decide +kernel
theorem dX1_end_47 : decode cX1_end 47 = .ok (.invokestatic 74, 3) := by decide +kernel
theorem dX1_end_50 : decode cX1_end 50 = .ok (.i2l, 1) := by decide +kernel
theorem dX1_end_51 : decode cX1_end 51 = .ok (.lreturn, 1) := by decide +kernel
set_option maxRecDepth 20000 in
theorem ggX1_cut_X1_pairKey : GoodIn wsX1_cut wsX1_pairKey := goodIn_r _ [5, 6] (by decide +kernel) (by decide +kernel)
set_option maxRecDepth 20000 in
theorem gX1_cut_X1_pairKey : GoodIn wsX1_cut (va_wsS RX1 43 yX1_pairKey wsX1_pairKey) := goodIn_app (goodIn_of _ (by decide +kernel)) ggX1_cut_X1_pairKey
set_option maxRecDepth 20000 in
theorem ggX1_cut_X0_find : GoodIn wsX1_cut wsX0_find := goodIn_r _ [11, 12, 13, 14, 10, 15, 16, 17, 18, 19, 20, 21, 22, 23, 24, 25, 57, 58, 59] (by decide +kernel) (by decide +kernel)
set_option maxRecDepth 20000 in
theorem gX1_cut_X0_find : GoodIn wsX1_cut (wsV RX1 51 RX0 yX0_find wsX0_find) := goodIn_app (goodIn_of _ (by decide +kernel)) ggX1_cut_X0_find
set_option maxRecDepth 20000 in
theorem ggX1_cut_X0_takeAt : GoodIn wsX1_cut wsX0_takeAt := goodIn_r _ [29, 30, 31, 32, 10, 33, 34, 35, 22, 23, 24, 25, 16, 36, 37, 38, 39, 17, 40, 41, 42, 43, 57, 58, 59] (by decide +kernel) (by decide +kernel)
set_option maxRecDepth 20000 in
theorem gX1_cut_X0_takeAt : GoodIn wsX1_cut (wsV RX1 59 RX0 yX0_takeAt wsX0_takeAt) := goodIn_app (goodIn_of _ (by decide +kernel)) ggX1_cut_X0_takeAt
set_option maxRecDepth 20000 in
theorem ggX1_cut_X0_groups : GoodIn wsX1_cut wsX0_groups := goodIn_r _ [47, 16, 17, 57, 58, 59] (by decide +kernel) (by decide +kernel)
set_option maxRecDepth 20000 in
theorem gX1_cut_X0_groups : GoodIn wsX1_cut (wsV RX1 139 RX0 yX0_groups wsX0_groups) := goodIn_app (goodIn_of _ (by decide +kernel)) ggX1_cut_X0_groups
theorem dX1_cut_0 : decode cX1_cut 0 = .ok (.aload_n 0, 1) := by decide +kernel
theorem dX1_cut_1 : decode cX1_cut 1 = .ok (.getfield 27, 3) := by decide +kernel
theorem dX1_cut_4 : decode cX1_cut 4 = .ok (.aload_n 0, 1) := by decide +kernel
theorem dX1_cut_5 : decode cX1_cut 5 = .ok (.getfield 27, 3) := by decide +kernel
theorem dX1_cut_8 : decode cX1_cut 8 = .ok (.iload_n 1, 1) := by decide +kernel
theorem dX1_cut_9 : decode cX1_cut 9 = .ok (.iload_n 2, 1) := by decide +kernel
theorem dX1_cut_10 : decode cX1_cut 10 = .ok (.invokestatic 43, 3) := by decide +kernel
theorem dX1_cut_13 : decode cX1_cut 13 = .ok (.invokevirtual 51, 3) := by decide +kernel
theorem dX1_cut_16 : decode cX1_cut 16 = .ok (.invokevirtual 59, 3) := by decide +kernel
theorem dX1_cut_19 : decode cX1_cut 19 = .ok (.pop2, 1) := by decide +kernel
theorem dX1_cut_20 : decode cX1_cut 20 = .ok (.aload_n 0, 1) := by decide +kernel
theorem dX1_cut_21 : decode cX1_cut 21 = .ok (.getfield 27, 3) := by decide +kernel
theorem dX1_cut_24 : decode cX1_cut 24 = .ok (.bipush 32, 2) := by decide +kernel
theorem dX1_cut_26 : decode cX1_cut 26 = .ok (.invokevirtual 139, 3) := by decide +kernel
theorem dX1_cut_29 : decode cX1_cut 29 = .ok (.ireturn, 1) := by decide +kernel
set_option maxRecDepth 20000 in
theorem ggX1_size_X0_held : GoodIn wsX1_size wsX0_held := goodIn_r _ [11, 12, 27, 28, 29] (by decide +kernel) (by decide +kernel)
set_option maxRecDepth 20000 in
theorem gX1_size_X0_held : GoodIn wsX1_size (wsV RX1 62 RX0 yX0_held wsX0_held) := goodIn_app (goodIn_of _ (by decide +kernel)) ggX1_size_X0_held
set_option maxRecDepth 20000 in
theorem ggX1_size_X0_groups : GoodIn wsX1_size wsX0_groups := goodIn_r _ [16, 12, 17, 27, 28, 29] (by decide +kernel) (by decide +kernel)
set_option maxRecDepth 20000 in
theorem gX1_size_X0_groups : GoodIn wsX1_size (wsV RX1 139 RX0 yX0_groups wsX0_groups) := goodIn_app (goodIn_of _ (by decide +kernel)) ggX1_size_X0_groups
theorem dX1_size_0 : decode cX1_size 0 = .ok (.iload_n 1, 1) := by decide +kernel
theorem dX1_size_1 : decode cX1_size 1 = .ok (.tableswitch 102 0 6 #[43, 51, 59, 67, 76, 84, 94], 43) := by decide +kernel
theorem dX1_size_44 : decode cX1_size 44 = .ok (.aload_n 0, 1) := by decide +kernel
theorem dX1_size_45 : decode cX1_size 45 = .ok (.getfield 14, 3) := by decide +kernel
theorem dX1_size_48 : decode cX1_size 48 = .ok (.invokevirtual 62, 3) := by decide +kernel
theorem dX1_size_51 : decode cX1_size 51 = .ok (.ireturn, 1) := by decide +kernel
theorem dX1_size_52 : decode cX1_size 52 = .ok (.aload_n 0, 1) := by decide +kernel
theorem dX1_size_53 : decode cX1_size 53 = .ok (.getfield 18, 3) := by decide +kernel
theorem dX1_size_56 : decode cX1_size 56 = .ok (.invokevirtual 62, 3) := by decide +kernel
theorem dX1_size_59 : decode cX1_size 59 = .ok (.ireturn, 1) := by decide +kernel
theorem dX1_size_60 : decode cX1_size 60 = .ok (.aload_n 0, 1) := by decide +kernel
theorem dX1_size_61 : decode cX1_size 61 = .ok (.getfield 21, 3) := by decide +kernel
theorem dX1_size_64 : decode cX1_size 64 = .ok (.invokevirtual 62, 3) := by decide +kernel
theorem dX1_size_67 : decode cX1_size 67 = .ok (.ireturn, 1) := by decide +kernel
theorem dX1_size_68 : decode cX1_size 68 = .ok (.aload_n 0, 1) := by decide +kernel
theorem dX1_size_69 : decode cX1_size 69 = .ok (.getfield 24, 3) := by decide +kernel
theorem dX1_size_72 : decode cX1_size 72 = .ok (.iconst 0, 1) := by decide +kernel
theorem dX1_size_73 : decode cX1_size 73 = .ok (.invokevirtual 139, 3) := by decide +kernel
theorem dX1_size_76 : decode cX1_size 76 = .ok (.ireturn, 1) := by decide +kernel
theorem dX1_size_77 : decode cX1_size 77 = .ok (.aload_n 0, 1) := by decide +kernel
theorem dX1_size_78 : decode cX1_size 78 = .ok (.getfield 30, 3) := by decide +kernel
theorem dX1_size_81 : decode cX1_size 81 = .ok (.invokevirtual 62, 3) := by decide +kernel
theorem dX1_size_84 : decode cX1_size 84 = .ok (.ireturn, 1) := by decide +kernel
theorem dX1_size_85 : decode cX1_size 85 = .ok (.aload_n 0, 1) := by decide +kernel
theorem dX1_size_86 : decode cX1_size 86 = .ok (.getfield 27, 3) := by decide +kernel
theorem dX1_size_89 : decode cX1_size 89 = .ok (.bipush 32, 2) := by decide +kernel
theorem dX1_size_91 : decode cX1_size 91 = .ok (.invokevirtual 139, 3) := by decide +kernel
theorem dX1_size_94 : decode cX1_size 94 = .ok (.ireturn, 1) := by decide +kernel
theorem dX1_size_95 : decode cX1_size 95 = .ok (.aload_n 0, 1) := by decide +kernel
theorem dX1_size_96 : decode cX1_size 96 = .ok (.getfield 27, 3) := by decide +kernel
theorem dX1_size_99 : decode cX1_size 99 = .ok (.invokevirtual 62, 3) := by decide +kernel
theorem dX1_size_102 : decode cX1_size 102 = .ok (.ireturn, 1) := by decide +kernel
theorem dX1_size_103 : decode cX1_size 103 = .ok (.iconst (-1), 1) := by decide +kernel
theorem dX1_size_104 : decode cX1_size 104 = .ok (.ireturn, 1) := by decide +kernel
theorem dX1_pairKey_0 : decode cX1_pairKey 0 = .ok (.iload_n 0, 1) := by decide +kernel
theorem dX1_pairKey_1 : decode cX1_pairKey 1 = .ok (.i2l, 1) := by decide +kernel
theorem dX1_pairKey_2 : decode cX1_pairKey 2 = .ok (.bipush 32, 2) := by decide +kernel
theorem dX1_pairKey_4 : decode cX1_pairKey 4 = .ok (.lshl, 1) := by decide +kernel
theorem dX1_pairKey_5 : decode cX1_pairKey 5 = .ok (.iload_n 1, 1) := by decide +kernel
theorem dX1_pairKey_6 : decode cX1_pairKey 6 = .ok (.i2l, 1) := by decide +kernel
theorem dX1_pairKey_7 : decode cX1_pairKey 7 = .ok (.ldc2_w 142, 3) := by decide +kernel
theorem dX1_pairKey_10 : decode cX1_pairKey 10 = .ok (.lsub, 1) := by decide +kernel
theorem dX1_pairKey_11 : decode cX1_pairKey 11 = .ok (.ladd, 1) := by decide +kernel
theorem dX1_pairKey_12 : decode cX1_pairKey 12 = .ok (.lreturn, 1) := by decide +kernel
theorem dX1_firstOf_0 : decode cX1_firstOf 0 = .ok (.lload_n 0, 1) := by decide +kernel
theorem dX1_firstOf_1 : decode cX1_firstOf 1 = .ok (.bipush 32, 2) := by decide +kernel
theorem dX1_firstOf_3 : decode cX1_firstOf 3 = .ok (.lshr, 1) := by decide +kernel
theorem dX1_firstOf_4 : decode cX1_firstOf 4 = .ok (.l2i, 1) := by decide +kernel
theorem dX1_firstOf_5 : decode cX1_firstOf 5 = .ok (.ireturn, 1) := by decide +kernel
theorem dX1_secondOf_0 : decode cX1_secondOf 0 = .ok (.lload_n 0, 1) := by decide +kernel
theorem dX1_secondOf_1 : decode cX1_secondOf 1 = .ok (.l2i, 1) := by decide +kernel
theorem dX1_secondOf_2 : decode cX1_secondOf 2 = .ok (.ldc 144, 2) := by decide +kernel
theorem dX1_secondOf_4 : decode cX1_secondOf 4 = .ok (.iadd, 1) := by decide +kernel
theorem dX1_secondOf_5 : decode cX1_secondOf 5 = .ok (.ireturn, 1) := by decide +kernel
set_option maxRecDepth 20000 in
theorem ggX1_hasEvenSum_X1_firstOf : GoodIn wsX1_hasEvenSum wsX1_firstOf := goodIn_r _ [4] (by decide +kernel) (by decide +kernel)
set_option maxRecDepth 20000 in
theorem gX1_hasEvenSum_X1_firstOf : GoodIn wsX1_hasEvenSum (va_wsS RX1 71 yX1_firstOf wsX1_firstOf) := goodIn_app (goodIn_of _ (by decide +kernel)) ggX1_hasEvenSum_X1_firstOf
set_option maxRecDepth 20000 in
theorem ggX1_hasEvenSum_X1_secondOf : GoodIn wsX1_hasEvenSum wsX1_secondOf := goodIn_r _ [7, 8] (by decide +kernel) (by decide +kernel)
set_option maxRecDepth 20000 in
theorem gX1_hasEvenSum_X1_secondOf : GoodIn wsX1_hasEvenSum (va_wsS RX1 74 yX1_secondOf wsX1_secondOf) := goodIn_app (goodIn_of _ (by decide +kernel)) ggX1_hasEvenSum_X1_secondOf
theorem dX1_hasEvenSum_0 : decode cX1_hasEvenSum 0 = .ok (.lload_n 0, 1) := by decide +kernel
theorem dX1_hasEvenSum_1 : decode cX1_hasEvenSum 1 = .ok (.invokestatic 71, 3) := by decide +kernel
theorem dX1_hasEvenSum_4 : decode cX1_hasEvenSum 4 = .ok (.lload_n 0, 1) := by decide +kernel
theorem dX1_hasEvenSum_5 : decode cX1_hasEvenSum 5 = .ok (.invokestatic 74, 3) := by decide +kernel
theorem dX1_hasEvenSum_8 : decode cX1_hasEvenSum 8 = .ok (.iadd, 1) := by decide +kernel
theorem dX1_hasEvenSum_9 : decode cX1_hasEvenSum 9 = .ok (.iconst 1, 1) := by decide +kernel
theorem dX1_hasEvenSum_10 : decode cX1_hasEvenSum 10 = .ok (.iand, 1) := by decide +kernel
theorem dX1_hasEvenSum_11 : decode cX1_hasEvenSum 11 = .ok (.ifCond .ne 7, 3) := by decide +kernel
theorem dX1_hasEvenSum_14 : decode cX1_hasEvenSum 14 = .ok (.iconst 1, 1) := by decide +kernel
theorem dX1_hasEvenSum_15 : decode cX1_hasEvenSum 15 = .ok (.goto 4, 3) := by decide +kernel
theorem dX1_hasEvenSum_18 : decode cX1_hasEvenSum 18 = .ok (.iconst 0, 1) := by decide +kernel
theorem dX1_hasEvenSum_19 : decode cX1_hasEvenSum 19 = .ok (.ireturn, 1) := by decide +kernel
theorem dX1_placeOf_0 : decode cX1_placeOf 0 = .ok (.iconst 5, 1) := by decide +kernel
theorem dX1_placeOf_1 : decode cX1_placeOf 1 = .ok (.bipush 11, 2) := by decide +kernel
theorem dX1_placeOf_3 : decode cX1_placeOf 3 = .ok (.iload_n 0, 1) := by decide +kernel
theorem dX1_placeOf_4 : decode cX1_placeOf 4 = .ok (.isub, 1) := by decide +kernel
theorem dX1_placeOf_5 : decode cX1_placeOf 5 = .ok (.imul, 1) := by decide +kernel
theorem dX1_placeOf_6 : decode cX1_placeOf 6 = .ok (.ireturn, 1) := by decide +kernel
set_option maxRecDepth 20000 in
theorem ggX1_signAt_X1_placeOf : GoodIn wsX1_signAt wsX1_placeOf := goodIn_r _ [5] (by decide +kernel) (by decide +kernel)
set_option maxRecDepth 20000 in
theorem gX1_signAt_X1_placeOf : GoodIn wsX1_signAt (va_wsS RX1 110 yX1_placeOf wsX1_placeOf) := goodIn_app (goodIn_of _ (by decide +kernel)) ggX1_signAt_X1_placeOf
theorem dX1_signAt_0 : decode cX1_signAt 0 = .ok (.lload_n 0, 1) := by decide +kernel
theorem dX1_signAt_1 : decode cX1_signAt 1 = .ok (.iload_n 2, 1) := by decide +kernel
theorem dX1_signAt_2 : decode cX1_signAt 2 = .ok (.invokestatic 110, 3) := by decide +kernel
theorem dX1_signAt_5 : decode cX1_signAt 5 = .ok (.lshr, 1) := by decide +kernel
theorem dX1_signAt_6 : decode cX1_signAt 6 = .ok (.ldc2_w 69, 3) := by decide +kernel
theorem dX1_signAt_9 : decode cX1_signAt 9 = .ok (.land, 1) := by decide +kernel
theorem dX1_signAt_10 : decode cX1_signAt 10 = .ok (.l2i, 1) := by decide +kernel
theorem dX1_signAt_11 : decode cX1_signAt 11 = .ok (.ireturn, 1) := by decide +kernel
set_option maxRecDepth 20000 in
theorem ggX1_signsOf_X1_signAt : GoodIn wsX1_signsOf wsX1_signAt := goodIn_r _ [4, 5, 6, 7, 3, 8] (by decide +kernel) (by decide +kernel)
set_option maxRecDepth 20000 in
theorem gX1_signsOf_X1_signAt : GoodIn wsX1_signsOf (va_wsS RX1 122 yX1_signAt wsX1_signAt) := goodIn_app (goodIn_of _ (by decide +kernel)) ggX1_signsOf_X1_signAt
theorem dX1_signsOf_0 : decode cX1_signsOf 0 = .ok (.iconst 0, 1) := by decide +kernel
theorem dX1_signsOf_1 : decode cX1_signsOf 1 = .ok (.istore_n 2, 1) := by decide +kernel
theorem dX1_signsOf_2 : decode cX1_signsOf 2 = .ok (.iload_n 2, 1) := by decide +kernel
theorem dX1_signsOf_3 : decode cX1_signsOf 3 = .ok (.bipush 12, 2) := by decide +kernel
theorem dX1_signsOf_5 : decode cX1_signsOf 5 = .ok (.if_icmp .ge 17, 3) := by decide +kernel
theorem dX1_signsOf_8 : decode cX1_signsOf 8 = .ok (.lload_n 0, 1) := by decide +kernel
theorem dX1_signsOf_9 : decode cX1_signsOf 9 = .ok (.iload_n 2, 1) := by decide +kernel
theorem dX1_signsOf_10 : decode cX1_signsOf 10 = .ok (.invokestatic 122, 3) := by decide +kernel
theorem dX1_signsOf_13 : decode cX1_signsOf 13 = .ok (.ifCond .eq 9, 3) := by decide +kernel
theorem dX1_signsOf_16 : decode cX1_signsOf 16 = .ok (.iinc 2 1, 3) := by decide +kernel
theorem dX1_signsOf_19 : decode cX1_signsOf 19 = .ok (.goto (-17), 3) := by decide +kernel
theorem dX1_signsOf_22 : decode cX1_signsOf 22 = .ok (.iload_n 2, 1) := by decide +kernel
theorem dX1_signsOf_23 : decode cX1_signsOf 23 = .ok (.ireturn, 1) := by decide +kernel
theorem dX1_takeTape_0 : decode cX1_takeTape 0 = .ok (.aload_n 0, 1) := by decide +kernel
theorem dX1_takeTape_1 : decode cX1_takeTape 1 = .ok (.getfield 36, 3) := by decide +kernel
theorem dX1_takeTape_4 : decode cX1_takeTape 4 = .ok (.lstore_n 1, 1) := by decide +kernel
theorem dX1_takeTape_5 : decode cX1_takeTape 5 = .ok (.aload_n 0, 1) := by decide +kernel
theorem dX1_takeTape_6 : decode cX1_takeTape 6 = .ok (.lconst 0, 1) := by decide +kernel
theorem dX1_takeTape_7 : decode cX1_takeTape 7 = .ok (.putfield 36, 3) := by decide +kernel
theorem dX1_takeTape_10 : decode cX1_takeTape 10 = .ok (.lload_n 1, 1) := by decide +kernel
theorem dX1_takeTape_11 : decode cX1_takeTape 11 = .ok (.lreturn, 1) := by decide +kernel
set_option maxRecDepth 20000 in
theorem ggX1_tallyAllAround_X0_shorten : GoodIn wsX1_tallyAllAround wsX0_shorten := goodIn_r _ [7, 8, 69, 70, 71] (by decide +kernel) (by decide +kernel)
set_option maxRecDepth 20000 in
theorem gX1_tallyAllAround_X0_shorten : GoodIn wsX1_tallyAllAround (wsV RX1 85 RX0 yX0_shorten wsX0_shorten) := goodIn_app (goodIn_of _ (by decide +kernel)) ggX1_tallyAllAround_X0_shorten
set_option maxRecDepth 20000 in
theorem ggX1_tallyAllAround_X0_held : GoodIn wsX1_tallyAllAround wsX0_held := goodIn_r _ [12, 8, 69, 70, 71] (by decide +kernel) (by decide +kernel)
set_option maxRecDepth 20000 in
theorem gX1_tallyAllAround_X0_held : GoodIn wsX1_tallyAllAround (wsV RX1 62 RX0 yX0_held wsX0_held) := goodIn_app (goodIn_of _ (by decide +kernel)) ggX1_tallyAllAround_X0_held
set_option maxRecDepth 20000 in
theorem ggX1_tallyAllAround_X0_keyAt : GoodIn wsX1_tallyAllAround wsX0_keyAt := goodIn_r _ [16, 17, 18, 19, 20, 21, 6, 22, 8, 69, 70, 71] (by decide +kernel) (by decide +kernel)
set_option maxRecDepth 20000 in
theorem gX1_tallyAllAround_X0_keyAt : GoodIn wsX1_tallyAllAround (wsV RX1 66 RX0 yX0_keyAt wsX0_keyAt) := goodIn_app (goodIn_of _ (by decide +kernel)) ggX1_tallyAllAround_X0_keyAt
set_option maxRecDepth 20000 in
theorem ggX1_tallyAllAround_X1_firstOf : GoodIn wsX1_tallyAllAround wsX1_firstOf := goodIn_r _ [26] (by decide +kernel) (by decide +kernel)
set_option maxRecDepth 20000 in
theorem gX1_tallyAllAround_X1_firstOf : GoodIn wsX1_tallyAllAround (va_wsS RX1 71 yX1_firstOf wsX1_firstOf) := goodIn_app (goodIn_of _ (by decide +kernel)) ggX1_tallyAllAround_X1_firstOf
set_option maxRecDepth 20000 in
theorem ggX1_tallyAllAround_X1_secondOf : GoodIn wsX1_tallyAllAround wsX1_secondOf := goodIn_r _ [29, 30] (by decide +kernel) (by decide +kernel)
set_option maxRecDepth 20000 in
theorem gX1_tallyAllAround_X1_secondOf : GoodIn wsX1_tallyAllAround (va_wsS RX1 74 yX1_secondOf wsX1_secondOf) := goodIn_app (goodIn_of _ (by decide +kernel)) ggX1_tallyAllAround_X1_secondOf
set_option maxRecDepth 20000 in
theorem ggX1_tallyAllAround_X1_tallyAround : GoodIn wsX1_tallyAllAround wsX1_tallyAround := goodIn_r _ [34, 1, 35, 36, 25, 37, 38, 39, 40, 41, 6, 42, 43, 44, 45, 46, 47, 8, 17, 48, 49, 50, 51, 19, 20, 21, 22, 52, 53, 54, 55, 56, 57, 58, 59, 60, 61, 62, 63, 64, 65, 66, 67, 68, 69, 70, 71] (by decide +kernel) (by decide +kernel)
set_option maxRecDepth 20000 in
theorem gX1_tallyAllAround_X1_tallyAround : GoodIn wsX1_tallyAllAround (wsV RX1 145 RX1 yX1_tallyAround wsX1_tallyAround) := goodIn_app (goodIn_of _ (by decide +kernel)) ggX1_tallyAllAround_X1_tallyAround
theorem dX1_tallyAllAround_0 : decode cX1_tallyAllAround 0 = .ok (.aload_n 0, 1) := by decide +kernel
theorem dX1_tallyAllAround_1 : decode cX1_tallyAllAround 1 = .ok (.getfield 33, 3) := by decide +kernel
theorem dX1_tallyAllAround_4 : decode cX1_tallyAllAround 4 = .ok (.iconst 0, 1) := by decide +kernel
theorem dX1_tallyAllAround_5 : decode cX1_tallyAllAround 5 = .ok (.invokevirtual 85, 3) := by decide +kernel
theorem dX1_tallyAllAround_8 : decode cX1_tallyAllAround 8 = .ok (.iconst 0, 1) := by decide +kernel
theorem dX1_tallyAllAround_9 : decode cX1_tallyAllAround 9 = .ok (.istore_n 1, 1) := by decide +kernel
theorem dX1_tallyAllAround_10 : decode cX1_tallyAllAround 10 = .ok (.iload_n 1, 1) := by decide +kernel
theorem dX1_tallyAllAround_11 : decode cX1_tallyAllAround 11 = .ok (.aload_n 0, 1) := by decide +kernel
theorem dX1_tallyAllAround_12 : decode cX1_tallyAllAround 12 = .ok (.getfield 30, 3) := by decide +kernel
theorem dX1_tallyAllAround_15 : decode cX1_tallyAllAround 15 = .ok (.invokevirtual 62, 3) := by decide +kernel
theorem dX1_tallyAllAround_18 : decode cX1_tallyAllAround 18 = .ok (.if_icmp .ge 30, 3) := by decide +kernel
theorem dX1_tallyAllAround_21 : decode cX1_tallyAllAround 21 = .ok (.aload_n 0, 1) := by decide +kernel
theorem dX1_tallyAllAround_22 : decode cX1_tallyAllAround 22 = .ok (.getfield 30, 3) := by decide +kernel
theorem dX1_tallyAllAround_25 : decode cX1_tallyAllAround 25 = .ok (.iload_n 1, 1) := by decide +kernel
theorem dX1_tallyAllAround_26 : decode cX1_tallyAllAround 26 = .ok (.invokevirtual 66, 3) := by decide +kernel
theorem dX1_tallyAllAround_29 : decode cX1_tallyAllAround 29 = .ok (.lstore_n 2, 1) := by decide +kernel
theorem dX1_tallyAllAround_30 : decode cX1_tallyAllAround 30 = .ok (.aload_n 0, 1) := by decide +kernel
theorem dX1_tallyAllAround_31 : decode cX1_tallyAllAround 31 = .ok (.lload_n 2, 1) := by decide +kernel
theorem dX1_tallyAllAround_32 : decode cX1_tallyAllAround 32 = .ok (.invokestatic 71, 3) := by decide +kernel
theorem dX1_tallyAllAround_35 : decode cX1_tallyAllAround 35 = .ok (.lload_n 2, 1) := by decide +kernel
theorem dX1_tallyAllAround_36 : decode cX1_tallyAllAround 36 = .ok (.invokestatic 74, 3) := by decide +kernel
theorem dX1_tallyAllAround_39 : decode cX1_tallyAllAround 39 = .ok (.invokevirtual 145, 3) := by decide +kernel
theorem dX1_tallyAllAround_42 : decode cX1_tallyAllAround 42 = .ok (.iinc 1 1, 3) := by decide +kernel
theorem dX1_tallyAllAround_45 : decode cX1_tallyAllAround 45 = .ok (.goto (-35), 3) := by decide +kernel
theorem dX1_tallyAllAround_48 : decode cX1_tallyAllAround 48 = .ok (.return_, 1) := by decide +kernel
set_option maxRecDepth 20000 in
theorem ggX1_tallyAround_X1_pairKey : GoodIn wsX1_tallyAround wsX1_pairKey := goodIn_r _ [5, 6] (by decide +kernel) (by decide +kernel)
set_option maxRecDepth 20000 in
theorem gX1_tallyAround_X1_pairKey : GoodIn wsX1_tallyAround (va_wsS RX1 43 yX1_pairKey wsX1_pairKey) := goodIn_app (goodIn_of _ (by decide +kernel)) ggX1_tallyAround_X1_pairKey
set_option maxRecDepth 20000 in
theorem ggX1_tallyAround_X0_raise : GoodIn wsX1_tallyAround wsX0_raise := goodIn_r _ [11, 12, 13, 14, 15, 10, 16, 17, 18, 19, 20, 21, 22, 23, 24, 25, 26, 27, 28, 29, 30, 31, 32, 33, 34, 44, 45, 46] (by decide +kernel) (by decide +kernel)
set_option maxRecDepth 20000 in
theorem gX1_tallyAround_X0_raise : GoodIn wsX1_tallyAround (wsV RX1 47 RX0 yX0_raise wsX0_raise) := goodIn_app (goodIn_of _ (by decide +kernel)) ggX1_tallyAround_X0_raise
theorem dX1_tallyAround_0 : decode cX1_tallyAround 0 = .ok (.iconst (-1), 1) := by decide +kernel
theorem dX1_tallyAround_1 : decode cX1_tallyAround 1 = .ok (.istore_n 3, 1) := by decide +kernel
theorem dX1_tallyAround_2 : decode cX1_tallyAround 2 = .ok (.iload_n 3, 1) := by decide +kernel
theorem dX1_tallyAround_3 : decode cX1_tallyAround 3 = .ok (.iconst 1, 1) := by decide +kernel
theorem dX1_tallyAround_4 : decode cX1_tallyAround 4 = .ok (.if_icmp .gt 52, 3) := by decide +kernel
theorem dX1_tallyAround_7 : decode cX1_tallyAround 7 = .ok (.iconst (-1), 1) := by decide +kernel
theorem dX1_tallyAround_8 : decode cX1_tallyAround 8 = .ok (.istore 4, 2) := by decide +kernel
theorem dX1_tallyAround_10 : decode cX1_tallyAround 10 = .ok (.iload 4, 2) := by decide +kernel
theorem dX1_tallyAround_12 : decode cX1_tallyAround 12 = .ok (.iconst 1, 1) := by decide +kernel
theorem dX1_tallyAround_13 : decode cX1_tallyAround 13 = .ok (.if_icmp .gt 37, 3) := by decide +kernel
theorem dX1_tallyAround_16 : decode cX1_tallyAround 16 = .ok (.iload_n 3, 1) := by decide +kernel
theorem dX1_tallyAround_17 : decode cX1_tallyAround 17 = .ok (.ifCond .ne 8, 3) := by decide +kernel
theorem dX1_tallyAround_20 : decode cX1_tallyAround 20 = .ok (.iload 4, 2) := by decide +kernel
theorem dX1_tallyAround_22 : decode cX1_tallyAround 22 = .ok (.ifCond .eq 22, 3) := by decide +kernel
theorem dX1_tallyAround_25 : decode cX1_tallyAround 25 = .ok (.aload_n 0, 1) := by decide +kernel
theorem dX1_tallyAround_26 : decode cX1_tallyAround 26 = .ok (.getfield 33, 3) := by decide +kernel
theorem dX1_tallyAround_29 : decode cX1_tallyAround 29 = .ok (.iload_n 1, 1) := by decide +kernel
theorem dX1_tallyAround_30 : decode cX1_tallyAround 30 = .ok (.iload_n 3, 1) := by decide +kernel
theorem dX1_tallyAround_31 : decode cX1_tallyAround 31 = .ok (.iadd, 1) := by decide +kernel
theorem dX1_tallyAround_32 : decode cX1_tallyAround 32 = .ok (.iload_n 2, 1) := by decide +kernel
theorem dX1_tallyAround_33 : decode cX1_tallyAround 33 = .ok (.iload 4, 2) := by decide +kernel
theorem dX1_tallyAround_35 : decode cX1_tallyAround 35 = .ok (.iadd, 1) := by decide +kernel
theorem dX1_tallyAround_36 : decode cX1_tallyAround 36 = .ok (.invokestatic 43, 3) := by decide +kernel
theorem dX1_tallyAround_39 : decode cX1_tallyAround 39 = .ok (.lconst 1, 1) := by decide +kernel
theorem dX1_tallyAround_40 : decode cX1_tallyAround 40 = .ok (.invokevirtual 47, 3) := by decide +kernel
theorem dX1_tallyAround_43 : decode cX1_tallyAround 43 = .ok (.pop2, 1) := by decide +kernel
theorem dX1_tallyAround_44 : decode cX1_tallyAround 44 = .ok (.iinc 4 1, 3) := by decide +kernel
theorem dX1_tallyAround_47 : decode cX1_tallyAround 47 = .ok (.goto (-37), 3) := by decide +kernel
theorem dX1_tallyAround_50 : decode cX1_tallyAround 50 = .ok (.iinc 3 1, 3) := by decide +kernel
theorem dX1_tallyAround_53 : decode cX1_tallyAround 53 = .ok (.goto (-51), 3) := by decide +kernel
theorem dX1_tallyAround_56 : decode cX1_tallyAround 56 = .ok (.return_, 1) := by decide +kernel
set_option maxRecDepth 20000 in
theorem ggX1_isMarkedThen_X0_holds : GoodIn wsX1_isMarkedThen wsX0_holds := goodIn_r _ [8, 9, 10, 11, 7, 12, 13, 14, 15, 16, 17, 18, 19, 20, 21, 22, 23, 24, 25, 26, 36, 37, 38] (by decide +kernel) (by decide +kernel)
set_option maxRecDepth 20000 in
theorem gX1_isMarkedThen_X0_holds : GoodIn wsX1_isMarkedThen (wsV RX1 96 RX0 yX0_holds wsX0_holds) := goodIn_app (goodIn_of _ (by decide +kernel)) ggX1_isMarkedThen_X0_holds
theorem dX1_isMarkedThen_0 : decode cX1_isMarkedThen 0 = .ok (.lload_n 3, 1) := by decide +kernel
theorem dX1_isMarkedThen_1 : decode cX1_isMarkedThen 1 = .ok (.ldc2_w 148, 3) := by decide +kernel
theorem dX1_isMarkedThen_4 : decode cX1_isMarkedThen 4 = .ok (.lcmp, 1) := by decide +kernel
theorem dX1_isMarkedThen_5 : decode cX1_isMarkedThen 5 = .ok (.ifCond .eq 22, 3) := by decide +kernel
theorem dX1_isMarkedThen_8 : decode cX1_isMarkedThen 8 = .ok (.lload_n 3, 1) := by decide +kernel
theorem dX1_isMarkedThen_9 : decode cX1_isMarkedThen 9 = .ok (.ldc2_w 150, 3) := by decide +kernel
theorem dX1_isMarkedThen_12 : decode cX1_isMarkedThen 12 = .ok (.lcmp, 1) := by decide +kernel
theorem dX1_isMarkedThen_13 : decode cX1_isMarkedThen 13 = .ok (.ifCond .ne 18, 3) := by decide +kernel
theorem dX1_isMarkedThen_16 : decode cX1_isMarkedThen 16 = .ok (.aload_n 0, 1) := by decide +kernel
theorem dX1_isMarkedThen_17 : decode cX1_isMarkedThen 17 = .ok (.getfield 30, 3) := by decide +kernel
theorem dX1_isMarkedThen_20 : decode cX1_isMarkedThen 20 = .ok (.lload_n 1, 1) := by decide +kernel
theorem dX1_isMarkedThen_21 : decode cX1_isMarkedThen 21 = .ok (.invokevirtual 96, 3) := by decide +kernel
theorem dX1_isMarkedThen_24 : decode cX1_isMarkedThen 24 = .ok (.ifCond .eq 7, 3) := by decide +kernel
theorem dX1_isMarkedThen_27 : decode cX1_isMarkedThen 27 = .ok (.iconst 1, 1) := by decide +kernel
theorem dX1_isMarkedThen_28 : decode cX1_isMarkedThen 28 = .ok (.goto 4, 3) := by decide +kernel
theorem dX1_isMarkedThen_31 : decode cX1_isMarkedThen 31 = .ok (.iconst 0, 1) := by decide +kernel
theorem dX1_isMarkedThen_32 : decode cX1_isMarkedThen 32 = .ok (.ireturn, 1) := by decide +kernel
end
section
theorem dX2_init_0 : decode cX2_init 0 = .ok (.aload_n 0, 1) := by decide +kernel
theorem dX2_init_1 : decode cX2_init 1 = .ok (.invokespecial 1, 3) := by decide +kernel
theorem dX2_init_4 : decode cX2_init 4 = .ok (.aload_n 0, 1) := by decide +kernel
theorem dX2_init_5 : decode cX2_init 5 = .ok (.bipush 16, 2) := by decide +kernel
theorem dX2_init_7 : decode cX2_init 7 = .ok (.newarray .int, 2) := by decide +kernel
theorem dX2_init_9 : decode cX2_init 9 = .ok (.putfield 7, 3) := by decide +kernel
theorem dX2_init_12 : decode cX2_init 12 = .ok (.aload_n 0, 1) := by decide +kernel
theorem dX2_init_13 : decode cX2_init 13 = .ok (.bipush 16, 2) := by decide +kernel
theorem dX2_init_15 : decode cX2_init 15 = .ok (.newarray .int, 2) := by decide +kernel
theorem dX2_init_17 : decode cX2_init 17 = .ok (.putfield 13, 3) := by decide +kernel
theorem dX2_init_20 : decode cX2_init 20 = .ok (.aload_n 0, 1) := by decide +kernel
theorem dX2_init_21 : decode cX2_init 21 = .ok (.bipush 16, 2) := by decide +kernel
theorem dX2_init_23 : decode cX2_init 23 = .ok (.newarray .long, 2) := by decide +kernel
theorem dX2_init_25 : decode cX2_init 25 = .ok (.putfield 16, 3) := by decide +kernel
theorem dX2_init_28 : decode cX2_init 28 = .ok (.return_, 1) := by decide +kernel
theorem dX2_find_0 : decode cX2_find 0 = .ok (.iconst 0, 1) := by decide +kernel
theorem dX2_find_1 : decode cX2_find 1 = .ok (.istore_n 3, 1) := by decide +kernel
theorem dX2_find_2 : decode cX2_find 2 = .ok (.iload_n 3, 1) := by decide +kernel
theorem dX2_find_3 : decode cX2_find 3 = .ok (.aload_n 0, 1) := by decide +kernel
theorem dX2_find_4 : decode cX2_find 4 = .ok (.getfield 20, 3) := by decide +kernel
theorem dX2_find_7 : decode cX2_find 7 = .ok (.if_icmp .ge 31, 3) := by decide +kernel
theorem dX2_find_10 : decode cX2_find 10 = .ok (.aload_n 0, 1) := by decide +kernel
theorem dX2_find_11 : decode cX2_find 11 = .ok (.getfield 7, 3) := by decide +kernel
theorem dX2_find_14 : decode cX2_find 14 = .ok (.iload_n 3, 1) := by decide +kernel
theorem dX2_find_15 : decode cX2_find 15 = .ok (.iaload, 1) := by decide +kernel
theorem dX2_find_16 : decode cX2_find 16 = .ok (.iload_n 1, 1) := by decide +kernel
theorem dX2_find_17 : decode cX2_find 17 = .ok (.if_icmp .ne 15, 3) := by decide +kernel
theorem dX2_find_20 : decode cX2_find 20 = .ok (.aload_n 0, 1) := by decide +kernel
theorem dX2_find_21 : decode cX2_find 21 = .ok (.getfield 13, 3) := by decide +kernel
theorem dX2_find_24 : decode cX2_find 24 = .ok (.iload_n 3, 1) := by decide +kernel
theorem dX2_find_25 : decode cX2_find 25 = .ok (.iaload, 1) := by decide +kernel
theorem dX2_find_26 : decode cX2_find 26 = .ok (.iload_n 2, 1) := by decide +kernel
theorem dX2_find_27 : decode cX2_find 27 = .ok (.if_icmp .ne 5, 3) := by decide +kernel
theorem dX2_find_30 : decode cX2_find 30 = .ok (.iload_n 3, 1) := by decide +kernel
theorem dX2_find_31 : decode cX2_find 31 = .ok (.ireturn, 1) := by decide +kernel
theorem dX2_find_32 : decode cX2_find 32 = .ok (.iinc 3 1, 3) := by decide +kernel
theorem dX2_find_35 : decode cX2_find 35 = .ok (.goto (-33), 3) := by decide +kernel
theorem dX2_find_38 : decode cX2_find 38 = .ok (.iconst (-1), 1) := by decide +kernel
theorem dX2_find_39 : decode cX2_find 39 = .ok (.ireturn, 1) := by decide +kernel
theorem dX2_add_0 : decode cX2_add 0 = .ok (.aload_n 0, 1) := by decide +kernel
theorem dX2_add_1 : decode cX2_add 1 = .ok (.getfield 20, 3) := by decide +kernel
theorem dX2_add_4 : decode cX2_add 4 = .ok (.aload_n 0, 1) := by decide +kernel
theorem dX2_add_5 : decode cX2_add 5 = .ok (.getfield 7, 3) := by decide +kernel
theorem dX2_add_8 : decode cX2_add 8 = .ok (.arraylength, 1) := by decide +kernel
theorem dX2_add_9 : decode cX2_add 9 = .ok (.if_icmp .ne 105, 3) := by decide +kernel
theorem dX2_add_12 : decode cX2_add 12 = .ok (.iconst 2, 1) := by decide +kernel
theorem dX2_add_13 : decode cX2_add 13 = .ok (.aload_n 0, 1) := by decide +kernel
theorem dX2_add_14 : decode cX2_add 14 = .ok (.getfield 20, 3) := by decide +kernel
theorem dX2_add_17 : decode cX2_add 17 = .ok (.imul, 1) := by decide +kernel
theorem dX2_add_18 : decode cX2_add 18 = .ok (.newarray .int, 2) := by decide +kernel
theorem dX2_add_20 : decode cX2_add 20 = .ok (.astore 5, 2) := by decide +kernel
theorem dX2_add_22 : decode cX2_add 22 = .ok (.iconst 2, 1) := by decide +kernel
theorem dX2_add_23 : decode cX2_add 23 = .ok (.aload_n 0, 1) := by decide +kernel
theorem dX2_add_24 : decode cX2_add 24 = .ok (.getfield 20, 3) := by decide +kernel
theorem dX2_add_27 : decode cX2_add 27 = .ok (.imul, 1) := by decide +kernel
theorem dX2_add_28 : decode cX2_add 28 = .ok (.newarray .int, 2) := by decide +kernel
theorem dX2_add_30 : decode cX2_add 30 = .ok (.astore 6, 2) := by decide +kernel
theorem dX2_add_32 : decode cX2_add 32 = .ok (.iconst 2, 1) := by decide +kernel
theorem dX2_add_33 : decode cX2_add 33 = .ok (.aload_n 0, 1) := by decide +kernel
theorem dX2_add_34 : decode cX2_add 34 = .ok (.getfield 20, 3) := by decide +kernel
theorem dX2_add_37 : decode cX2_add 37 = .ok (.imul, 1) := by decide +kernel
theorem dX2_add_38 : decode cX2_add 38 = .ok (.newarray .long, 2) := by decide +kernel
theorem dX2_add_40 : decode cX2_add 40 = .ok (.astore 7, 2) := by decide +kernel
theorem dX2_add_42 : decode cX2_add 42 = .ok (.iconst 0, 1) := by decide +kernel
theorem dX2_add_43 : decode cX2_add 43 = .ok (.istore 8, 2) := by decide +kernel
theorem dX2_add_45 : decode cX2_add 45 = .ok (.iload 8, 2) := by decide +kernel
theorem dX2_add_47 : decode cX2_add 47 = .ok (.aload_n 0, 1) := by decide +kernel
theorem dX2_add_48 : decode cX2_add 48 = .ok (.getfield 20, 3) := by decide +kernel
theorem dX2_add_51 : decode cX2_add 51 = .ok (.if_icmp .ge 45, 3) := by decide +kernel
theorem dX2_add_54 : decode cX2_add 54 = .ok (.aload 5, 2) := by decide +kernel
theorem dX2_add_56 : decode cX2_add 56 = .ok (.iload 8, 2) := by decide +kernel
theorem dX2_add_58 : decode cX2_add 58 = .ok (.aload_n 0, 1) := by decide +kernel
theorem dX2_add_59 : decode cX2_add 59 = .ok (.getfield 7, 3) := by decide +kernel
theorem dX2_add_62 : decode cX2_add 62 = .ok (.iload 8, 2) := by decide +kernel
theorem dX2_add_64 : decode cX2_add 64 = .ok (.iaload, 1) := by decide +kernel
theorem dX2_add_65 : decode cX2_add 65 = .ok (.iastore, 1) := by decide +kernel
theorem dX2_add_66 : decode cX2_add 66 = .ok (.aload 6, 2) := by decide +kernel
theorem dX2_add_68 : decode cX2_add 68 = .ok (.iload 8, 2) := by decide +kernel
theorem dX2_add_70 : decode cX2_add 70 = .ok (.aload_n 0, 1) := by decide +kernel
theorem dX2_add_71 : decode cX2_add 71 = .ok (.getfield 13, 3) := by decide +kernel
theorem dX2_add_74 : decode cX2_add 74 = .ok (.iload 8, 2) := by decide +kernel
theorem dX2_add_76 : decode cX2_add 76 = .ok (.iaload, 1) := by decide +kernel
theorem dX2_add_77 : decode cX2_add 77 = .ok (.iastore, 1) := by decide +kernel
theorem dX2_add_78 : decode cX2_add 78 = .ok (.aload 7, 2) := by decide +kernel
theorem dX2_add_80 : decode cX2_add 80 = .ok (.iload 8, 2) := by decide +kernel
theorem dX2_add_82 : decode cX2_add 82 = .ok (.aload_n 0, 1) := by decide +kernel
theorem dX2_add_83 : decode cX2_add 83 = .ok (.getfield 16, 3) := by decide +kernel
theorem dX2_add_86 : decode cX2_add 86 = .ok (.iload 8, 2) := by decide +kernel
theorem dX2_add_88 : decode cX2_add 88 = .ok (.laload, 1) := by decide +kernel
theorem dX2_add_89 : decode cX2_add 89 = .ok (.lastore, 1) := by decide +kernel
theorem dX2_add_90 : decode cX2_add 90 = .ok (.iinc 8 1, 3) := by decide +kernel
theorem dX2_add_93 : decode cX2_add 93 = .ok (.goto (-48), 3) := by decide +kernel
theorem dX2_add_96 : decode cX2_add 96 = .ok (.aload_n 0, 1) := by decide +kernel
theorem dX2_add_97 : decode cX2_add 97 = .ok (.aload 5, 2) := by decide +kernel
theorem dX2_add_99 : decode cX2_add 99 = .ok (.putfield 7, 3) := by decide +kernel
theorem dX2_add_102 : decode cX2_add 102 = .ok (.aload_n 0, 1) := by decide +kernel
theorem dX2_add_103 : decode cX2_add 103 = .ok (.aload 6, 2) := by decide +kernel
theorem dX2_add_105 : decode cX2_add 105 = .ok (.putfield 13, 3) := by decide +kernel
theorem dX2_add_108 : decode cX2_add 108 = .ok (.aload_n 0, 1) := by decide +kernel
theorem dX2_add_109 : decode cX2_add 109 = .ok (.aload 7, 2) := by decide +kernel
theorem dX2_add_111 : decode cX2_add 111 = .ok (.putfield 16, 3) := by decide +kernel
theorem dX2_add_114 : decode cX2_add 114 = .ok (.aload_n 0, 1) := by decide +kernel
theorem dX2_add_115 : decode cX2_add 115 = .ok (.getfield 7, 3) := by decide +kernel
theorem dX2_add_118 : decode cX2_add 118 = .ok (.aload_n 0, 1) := by decide +kernel
theorem dX2_add_119 : decode cX2_add 119 = .ok (.getfield 20, 3) := by decide +kernel
theorem dX2_add_122 : decode cX2_add 122 = .ok (.iload_n 1, 1) := by decide +kernel
theorem dX2_add_123 : decode cX2_add 123 = .ok (.iastore, 1) := by decide +kernel
theorem dX2_add_124 : decode cX2_add 124 = .ok (.aload_n 0, 1) := by decide +kernel
theorem dX2_add_125 : decode cX2_add 125 = .ok (.getfield 13, 3) := by decide +kernel
theorem dX2_add_128 : decode cX2_add 128 = .ok (.aload_n 0, 1) := by decide +kernel
theorem dX2_add_129 : decode cX2_add 129 = .ok (.getfield 20, 3) := by decide +kernel
theorem dX2_add_132 : decode cX2_add 132 = .ok (.iload_n 2, 1) := by decide +kernel
theorem dX2_add_133 : decode cX2_add 133 = .ok (.iastore, 1) := by decide +kernel
theorem dX2_add_134 : decode cX2_add 134 = .ok (.aload_n 0, 1) := by decide +kernel
theorem dX2_add_135 : decode cX2_add 135 = .ok (.getfield 16, 3) := by decide +kernel
theorem dX2_add_138 : decode cX2_add 138 = .ok (.aload_n 0, 1) := by decide +kernel
theorem dX2_add_139 : decode cX2_add 139 = .ok (.dup, 1) := by decide +kernel
theorem dX2_add_140 : decode cX2_add 140 = .ok (.getfield 20, 3) := by decide +kernel
theorem dX2_add_143 : decode cX2_add 143 = .ok (.dup_x1, 1) := by decide +kernel
theorem dX2_add_144 : decode cX2_add 144 = .ok (.iconst 1, 1) := by decide +kernel
theorem dX2_add_145 : decode cX2_add 145 = .ok (.iadd, 1) := by decide +kernel
theorem dX2_add_146 : decode cX2_add 146 = .ok (.putfield 20, 3) := by decide +kernel
theorem dX2_add_149 : decode cX2_add 149 = .ok (.lload_n 3, 1) := by decide +kernel
theorem dX2_add_150 : decode cX2_add 150 = .ok (.lastore, 1) := by decide +kernel
theorem dX2_add_151 : decode cX2_add 151 = .ok (.return_, 1) := by decide +kernel
theorem dX2_remove_0 : decode cX2_remove 0 = .ok (.aload_n 0, 1) := by decide +kernel
theorem dX2_remove_1 : decode cX2_remove 1 = .ok (.dup, 1) := by decide +kernel
theorem dX2_remove_2 : decode cX2_remove 2 = .ok (.getfield 20, 3) := by decide +kernel
theorem dX2_remove_5 : decode cX2_remove 5 = .ok (.iconst 1, 1) := by decide +kernel
theorem dX2_remove_6 : decode cX2_remove 6 = .ok (.isub, 1) := by decide +kernel
theorem dX2_remove_7 : decode cX2_remove 7 = .ok (.putfield 20, 3) := by decide +kernel
theorem dX2_remove_10 : decode cX2_remove 10 = .ok (.iload_n 1, 1) := by decide +kernel
theorem dX2_remove_11 : decode cX2_remove 11 = .ok (.istore_n 2, 1) := by decide +kernel
theorem dX2_remove_12 : decode cX2_remove 12 = .ok (.iload_n 2, 1) := by decide +kernel
theorem dX2_remove_13 : decode cX2_remove 13 = .ok (.aload_n 0, 1) := by decide +kernel
theorem dX2_remove_14 : decode cX2_remove 14 = .ok (.getfield 20, 3) := by decide +kernel
theorem dX2_remove_17 : decode cX2_remove 17 = .ok (.if_icmp .ge 51, 3) := by decide +kernel
theorem dX2_remove_20 : decode cX2_remove 20 = .ok (.aload_n 0, 1) := by decide +kernel
theorem dX2_remove_21 : decode cX2_remove 21 = .ok (.getfield 7, 3) := by decide +kernel
theorem dX2_remove_24 : decode cX2_remove 24 = .ok (.iload_n 2, 1) := by decide +kernel
theorem dX2_remove_25 : decode cX2_remove 25 = .ok (.aload_n 0, 1) := by decide +kernel
theorem dX2_remove_26 : decode cX2_remove 26 = .ok (.getfield 7, 3) := by decide +kernel
theorem dX2_remove_29 : decode cX2_remove 29 = .ok (.iload_n 2, 1) := by decide +kernel
theorem dX2_remove_30 : decode cX2_remove 30 = .ok (.iconst 1, 1) := by decide +kernel
theorem dX2_remove_31 : decode cX2_remove 31 = .ok (.iadd, 1) := by decide +kernel
theorem dX2_remove_32 : decode cX2_remove 32 = .ok (.iaload, 1) := by decide +kernel
theorem dX2_remove_33 : decode cX2_remove 33 = .ok (.iastore, 1) := by decide +kernel
theorem dX2_remove_34 : decode cX2_remove 34 = .ok (.aload_n 0, 1) := by decide +kernel
theorem dX2_remove_35 : decode cX2_remove 35 = .ok (.getfield 13, 3) := by decide +kernel
theorem dX2_remove_38 : decode cX2_remove 38 = .ok (.iload_n 2, 1) := by decide +kernel
theorem dX2_remove_39 : decode cX2_remove 39 = .ok (.aload_n 0, 1) := by decide +kernel
theorem dX2_remove_40 : decode cX2_remove 40 = .ok (.getfield 13, 3) := by decide +kernel
theorem dX2_remove_43 : decode cX2_remove 43 = .ok (.iload_n 2, 1) := by decide +kernel
theorem dX2_remove_44 : decode cX2_remove 44 = .ok (.iconst 1, 1) := by decide +kernel
theorem dX2_remove_45 : decode cX2_remove 45 = .ok (.iadd, 1) := by decide +kernel
theorem dX2_remove_46 : decode cX2_remove 46 = .ok (.iaload, 1) := by decide +kernel
theorem dX2_remove_47 : decode cX2_remove 47 = .ok (.iastore, 1) := by decide +kernel
theorem dX2_remove_48 : decode cX2_remove 48 = .ok (.aload_n 0, 1) := by decide +kernel
theorem dX2_remove_49 : decode cX2_remove 49 = .ok (.getfield 16, 3) := by decide +kernel
theorem dX2_remove_52 : decode cX2_remove 52 = .ok (.iload_n 2, 1) := by decide +kernel
theorem dX2_remove_53 : decode cX2_remove 53 = .ok (.aload_n 0, 1) := by decide +kernel
theorem dX2_remove_54 : decode cX2_remove 54 = .ok (.getfield 16, 3) := by decide +kernel
theorem dX2_remove_57 : decode cX2_remove 57 = .ok (.iload_n 2, 1) := by decide +kernel
theorem dX2_remove_58 : decode cX2_remove 58 = .ok (.iconst 1, 1) := by decide +kernel
theorem dX2_remove_59 : decode cX2_remove 59 = .ok (.iadd, 1) := by decide +kernel
theorem dX2_remove_60 : decode cX2_remove 60 = .ok (.laload, 1) := by decide +kernel
theorem dX2_remove_61 : decode cX2_remove 61 = .ok (.lastore, 1) := by decide +kernel
theorem dX2_remove_62 : decode cX2_remove 62 = .ok (.iinc 2 1, 3) := by decide +kernel
theorem dX2_remove_65 : decode cX2_remove 65 = .ok (.goto (-53), 3) := by decide +kernel
theorem dX2_remove_68 : decode cX2_remove 68 = .ok (.return_, 1) := by decide +kernel
set_option maxRecDepth 20000 in
theorem ggX3_init_X2_init : GoodIn wsX3_init wsX2_init := goodIn_r _ [17, 18, 2, 3, 13, 19, 20, 21, 22, 23, 24, 25, 26] (by decide +kernel) (by decide +kernel)
set_option maxRecDepth 20000 in
theorem gX3_init_X2_init_n9 : GoodIn wsX3_init (wsX2_init) := ggX3_init_X2_init
theorem dX3_init_0 : decode cX3_init 0 = .ok (.aload_n 0, 1) := by decide +kernel
theorem dX3_init_1 : decode cX3_init 1 = .ok (.invokespecial 1, 3) := by decide +kernel
theorem dX3_init_4 : decode cX3_init 4 = .ok (.aload_n 0, 1) := by decide +kernel
theorem dX3_init_5 : decode cX3_init 5 = .ok (.new 7, 3) := by decide +kernel
theorem dX3_init_8 : decode cX3_init 8 = .ok (.dup, 1) := by decide +kernel
theorem dX3_init_9 : decode cX3_init 9 = .ok (.invokespecial 9, 3) := by decide +kernel
theorem dX3_init_12 : decode cX3_init 12 = .ok (.putfield 10, 3) := by decide +kernel
theorem dX3_init_15 : decode cX3_init 15 = .ok (.aload_n 0, 1) := by decide +kernel
theorem dX3_init_16 : decode cX3_init 16 = .ok (.new 7, 3) := by decide +kernel
theorem dX3_init_19 : decode cX3_init 19 = .ok (.dup, 1) := by decide +kernel
theorem dX3_init_20 : decode cX3_init 20 = .ok (.invokespecial 9, 3) := by decide +kernel
theorem dX3_init_23 : decode cX3_init 23 = .ok (.putfield 16, 3) := by decide +kernel
theorem dX3_init_26 : decode cX3_init 26 = .ok (.aload_n 0, 1) := by decide +kernel
theorem dX3_init_27 : decode cX3_init 27 = .ok (.new 7, 3) := by decide +kernel
theorem dX3_init_30 : decode cX3_init 30 = .ok (.dup, 1) := by decide +kernel
theorem dX3_init_31 : decode cX3_init 31 = .ok (.invokespecial 9, 3) := by decide +kernel
theorem dX3_init_34 : decode cX3_init 34 = .ok (.putfield 19, 3) := by decide +kernel
theorem dX3_init_37 : decode cX3_init 37 = .ok (.aload_n 0, 1) := by decide +kernel
theorem dX3_init_38 : decode cX3_init 38 = .ok (.new 7, 3) := by decide +kernel
theorem dX3_init_41 : decode cX3_init 41 = .ok (.dup, 1) := by decide +kernel
theorem dX3_init_42 : decode cX3_init 42 = .ok (.invokespecial 9, 3) := by decide +kernel
theorem dX3_init_45 : decode cX3_init 45 = .ok (.putfield 22, 3) := by decide +kernel
theorem dX3_init_48 : decode cX3_init 48 = .ok (.aload_n 0, 1) := by decide +kernel
theorem dX3_init_49 : decode cX3_init 49 = .ok (.new 7, 3) := by decide +kernel
theorem dX3_init_52 : decode cX3_init 52 = .ok (.dup, 1) := by decide +kernel
theorem dX3_init_53 : decode cX3_init 53 = .ok (.invokespecial 9, 3) := by decide +kernel
theorem dX3_init_56 : decode cX3_init 56 = .ok (.putfield 25, 3) := by decide +kernel
theorem dX3_init_59 : decode cX3_init 59 = .ok (.aload_n 0, 1) := by decide +kernel
theorem dX3_init_60 : decode cX3_init 60 = .ok (.new 7, 3) := by decide +kernel
theorem dX3_init_63 : decode cX3_init 63 = .ok (.dup, 1) := by decide +kernel
theorem dX3_init_64 : decode cX3_init 64 = .ok (.invokespecial 9, 3) := by decide +kernel
theorem dX3_init_67 : decode cX3_init 67 = .ok (.putfield 28, 3) := by decide +kernel
theorem dX3_init_70 : decode cX3_init 70 = .ok (.aload_n 0, 1) := by decide +kernel
theorem dX3_init_71 : decode cX3_init 71 = .ok (.sipush 192, 3) := by decide +kernel
theorem dX3_init_74 : decode cX3_init 74 = .ok (.newarray .int, 2) := by decide +kernel
theorem dX3_init_76 : decode cX3_init 76 = .ok (.putfield 31, 3) := by decide +kernel
theorem dX3_init_79 : decode cX3_init 79 = .ok (.aload_n 0, 1) := by decide +kernel
theorem dX3_init_80 : decode cX3_init 80 = .ok (.bipush 12, 2) := by decide +kernel
theorem dX3_init_82 : decode cX3_init 82 = .ok (.newarray .int, 2) := by decide +kernel
theorem dX3_init_84 : decode cX3_init 84 = .ok (.putfield 35, 3) := by decide +kernel
theorem dX3_init_87 : decode cX3_init 87 = .ok (.return_, 1) := by decide +kernel
set_option maxRecDepth 20000 in
theorem ggX3_add_X2_find : GoodIn wsX3_add wsX2_find := goodIn_r _ [8, 9, 10, 11, 29, 30, 31, 32] (by decide +kernel) (by decide +kernel)
set_option maxRecDepth 20000 in
theorem gX3_add_X2_find : GoodIn wsX3_add (wsV RX3 38 RX2 yX2_find wsX2_find) := goodIn_app (goodIn_of _ (by decide +kernel)) ggX3_add_X2_find
set_option maxRecDepth 20000 in
theorem ggX3_add_X2_add : GoodIn wsX3_add wsX2_add := goodIn_r _ [15, 9, 10, 16, 17, 11, 18, 29, 30, 31, 32] (by decide +kernel) (by decide +kernel)
set_option maxRecDepth 20000 in
theorem gX3_add_X2_add : GoodIn wsX3_add (wsV RX3 42 RX2 yX2_add wsX2_add) := goodIn_app (goodIn_of _ (by decide +kernel)) ggX3_add_X2_add
theorem dX3_add_0 : decode cX3_add 0 = .ok (.aload_n 0, 1) := by decide +kernel
theorem dX3_add_1 : decode cX3_add 1 = .ok (.getfield 10, 3) := by decide +kernel
theorem dX3_add_4 : decode cX3_add 4 = .ok (.iload_n 1, 1) := by decide +kernel
theorem dX3_add_5 : decode cX3_add 5 = .ok (.iload_n 2, 1) := by decide +kernel
theorem dX3_add_6 : decode cX3_add 6 = .ok (.invokevirtual 38, 3) := by decide +kernel
theorem dX3_add_9 : decode cX3_add 9 = .ok (.istore 4, 2) := by decide +kernel
theorem dX3_add_11 : decode cX3_add 11 = .ok (.iload 4, 2) := by decide +kernel
theorem dX3_add_13 : decode cX3_add 13 = .ok (.ifCond .ge 24, 3) := by decide +kernel
theorem dX3_add_16 : decode cX3_add 16 = .ok (.aload_n 0, 1) := by decide +kernel
theorem dX3_add_17 : decode cX3_add 17 = .ok (.getfield 10, 3) := by decide +kernel
theorem dX3_add_20 : decode cX3_add 20 = .ok (.iload_n 1, 1) := by decide +kernel
theorem dX3_add_21 : decode cX3_add 21 = .ok (.iload_n 2, 1) := by decide +kernel
theorem dX3_add_22 : decode cX3_add 22 = .ok (.lconst 0, 1) := by decide +kernel
theorem dX3_add_23 : decode cX3_add 23 = .ok (.invokevirtual 42, 3) := by decide +kernel
theorem dX3_add_26 : decode cX3_add 26 = .ok (.aload_n 0, 1) := by decide +kernel
theorem dX3_add_27 : decode cX3_add 27 = .ok (.getfield 10, 3) := by decide +kernel
theorem dX3_add_30 : decode cX3_add 30 = .ok (.getfield 46, 3) := by decide +kernel
theorem dX3_add_33 : decode cX3_add 33 = .ok (.iconst 1, 1) := by decide +kernel
theorem dX3_add_34 : decode cX3_add 34 = .ok (.isub, 1) := by decide +kernel
theorem dX3_add_35 : decode cX3_add 35 = .ok (.istore 4, 2) := by decide +kernel
theorem dX3_add_37 : decode cX3_add 37 = .ok (.aload_n 0, 1) := by decide +kernel
theorem dX3_add_38 : decode cX3_add 38 = .ok (.getfield 10, 3) := by decide +kernel
theorem dX3_add_41 : decode cX3_add 41 = .ok (.getfield 50, 3) := by decide +kernel
theorem dX3_add_44 : decode cX3_add 44 = .ok (.iload 4, 2) := by decide +kernel
theorem dX3_add_46 : decode cX3_add 46 = .ok (.dup2, 1) := by decide +kernel
theorem dX3_add_47 : decode cX3_add 47 = .ok (.laload, 1) := by decide +kernel
theorem dX3_add_48 : decode cX3_add 48 = .ok (.iload_n 3, 1) := by decide +kernel
theorem dX3_add_49 : decode cX3_add 49 = .ok (.i2l, 1) := by decide +kernel
theorem dX3_add_50 : decode cX3_add 50 = .ok (.ladd, 1) := by decide +kernel
theorem dX3_add_51 : decode cX3_add 51 = .ok (.lastore, 1) := by decide +kernel
theorem dX3_add_52 : decode cX3_add 52 = .ok (.aload_n 0, 1) := by decide +kernel
theorem dX3_add_53 : decode cX3_add 53 = .ok (.getfield 10, 3) := by decide +kernel
theorem dX3_add_56 : decode cX3_add 56 = .ok (.getfield 50, 3) := by decide +kernel
theorem dX3_add_59 : decode cX3_add 59 = .ok (.iload 4, 2) := by decide +kernel
theorem dX3_add_61 : decode cX3_add 61 = .ok (.laload, 1) := by decide +kernel
theorem dX3_add_62 : decode cX3_add 62 = .ok (.lreturn, 1) := by decide +kernel
theorem dX3_told_0 : decode cX3_told 0 = .ok (.iload_n 1, 1) := by decide +kernel
theorem dX3_told_1 : decode cX3_told 1 = .ok (.ifCond .ge 9, 3) := by decide +kernel
theorem dX3_told_4 : decode cX3_told 4 = .ok (.ldc2_w 54, 3) := by decide +kernel
theorem dX3_told_7 : decode cX3_told 7 = .ok (.goto 9, 3) := by decide +kernel
theorem dX3_told_10 : decode cX3_told 10 = .ok (.aload_n 0, 1) := by decide +kernel
theorem dX3_told_11 : decode cX3_told 11 = .ok (.getfield 50, 3) := by decide +kernel
theorem dX3_told_14 : decode cX3_told 14 = .ok (.iload_n 1, 1) := by decide +kernel
theorem dX3_told_15 : decode cX3_told 15 = .ok (.laload, 1) := by decide +kernel
theorem dX3_told_16 : decode cX3_told 16 = .ok (.lreturn, 1) := by decide +kernel
set_option maxRecDepth 20000 in
theorem ggX3_count_X2_find : GoodIn wsX3_count wsX2_find := goodIn_r _ [6, 7, 8, 9, 26, 27, 28, 29] (by decide +kernel) (by decide +kernel)
set_option maxRecDepth 20000 in
theorem gX3_count_X2_find : GoodIn wsX3_count (wsV RX3 38 RX2 yX2_find wsX2_find) := goodIn_app (goodIn_of _ (by decide +kernel)) ggX3_count_X2_find
set_option maxRecDepth 20000 in
theorem ggX3_count_X3_told : GoodIn wsX3_count wsX3_told := goodIn_r _ [13, 14, 15, 26, 27, 28, 29] (by decide +kernel) (by decide +kernel)
set_option maxRecDepth 20000 in
theorem gX3_count_X3_told : GoodIn wsX3_count (va_wsS RX3 56 yX3_told wsX3_told) := goodIn_app (goodIn_of _ (by decide +kernel)) ggX3_count_X3_told
theorem dX3_count_0 : decode cX3_count 0 = .ok (.aload_n 0, 1) := by decide +kernel
theorem dX3_count_1 : decode cX3_count 1 = .ok (.getfield 10, 3) := by decide +kernel
theorem dX3_count_4 : decode cX3_count 4 = .ok (.aload_n 0, 1) := by decide +kernel
theorem dX3_count_5 : decode cX3_count 5 = .ok (.getfield 10, 3) := by decide +kernel
theorem dX3_count_8 : decode cX3_count 8 = .ok (.iload_n 1, 1) := by decide +kernel
theorem dX3_count_9 : decode cX3_count 9 = .ok (.iload_n 2, 1) := by decide +kernel
theorem dX3_count_10 : decode cX3_count 10 = .ok (.invokevirtual 38, 3) := by decide +kernel
theorem dX3_count_13 : decode cX3_count 13 = .ok (.invokestatic 56, 3) := by decide +kernel
theorem dX3_count_16 : decode cX3_count 16 = .ok (.lreturn, 1) := by decide +kernel
set_option maxRecDepth 20000 in
theorem ggX3_drop_X2_find : GoodIn wsX3_drop wsX2_find := goodIn_r _ [6, 7, 8, 9, 31, 32, 33, 34] (by decide +kernel) (by decide +kernel)
set_option maxRecDepth 20000 in
theorem gX3_drop_X2_find : GoodIn wsX3_drop (wsV RX3 38 RX2 yX2_find wsX2_find) := goodIn_app (goodIn_of _ (by decide +kernel)) ggX3_drop_X2_find
set_option maxRecDepth 20000 in
theorem ggX3_drop_X3_told : GoodIn wsX3_drop wsX3_told := goodIn_r _ [13, 14, 15, 31, 32, 33, 34] (by decide +kernel) (by decide +kernel)
set_option maxRecDepth 20000 in
theorem gX3_drop_X3_told : GoodIn wsX3_drop (va_wsS RX3 56 yX3_told wsX3_told) := goodIn_app (goodIn_of _ (by decide +kernel)) ggX3_drop_X3_told
set_option maxRecDepth 20000 in
theorem ggX3_drop_X2_remove : GoodIn wsX3_drop wsX2_remove := goodIn_r _ [19, 7, 8, 9, 20, 31, 32, 33, 34] (by decide +kernel) (by decide +kernel)
set_option maxRecDepth 20000 in
theorem gX3_drop_X2_remove : GoodIn wsX3_drop (wsV RX3 60 RX2 yX2_remove wsX2_remove) := goodIn_app (goodIn_of _ (by decide +kernel)) ggX3_drop_X2_remove
theorem dX3_drop_0 : decode cX3_drop 0 = .ok (.aload_n 0, 1) := by decide +kernel
theorem dX3_drop_1 : decode cX3_drop 1 = .ok (.getfield 10, 3) := by decide +kernel
theorem dX3_drop_4 : decode cX3_drop 4 = .ok (.iload_n 1, 1) := by decide +kernel
theorem dX3_drop_5 : decode cX3_drop 5 = .ok (.iload_n 2, 1) := by decide +kernel
theorem dX3_drop_6 : decode cX3_drop 6 = .ok (.invokevirtual 38, 3) := by decide +kernel
theorem dX3_drop_9 : decode cX3_drop 9 = .ok (.istore_n 3, 1) := by decide +kernel
theorem dX3_drop_10 : decode cX3_drop 10 = .ok (.aload_n 0, 1) := by decide +kernel
theorem dX3_drop_11 : decode cX3_drop 11 = .ok (.getfield 10, 3) := by decide +kernel
theorem dX3_drop_14 : decode cX3_drop 14 = .ok (.iload_n 3, 1) := by decide +kernel
theorem dX3_drop_15 : decode cX3_drop 15 = .ok (.invokestatic 56, 3) := by decide +kernel
theorem dX3_drop_18 : decode cX3_drop 18 = .ok (.lstore 4, 2) := by decide +kernel
theorem dX3_drop_20 : decode cX3_drop 20 = .ok (.iload_n 3, 1) := by decide +kernel
theorem dX3_drop_21 : decode cX3_drop 21 = .ok (.ifCond .lt 11, 3) := by decide +kernel
theorem dX3_drop_24 : decode cX3_drop 24 = .ok (.aload_n 0, 1) := by decide +kernel
theorem dX3_drop_25 : decode cX3_drop 25 = .ok (.getfield 10, 3) := by decide +kernel
theorem dX3_drop_28 : decode cX3_drop 28 = .ok (.iload_n 3, 1) := by decide +kernel
theorem dX3_drop_29 : decode cX3_drop 29 = .ok (.invokevirtual 60, 3) := by decide +kernel
theorem dX3_drop_32 : decode cX3_drop 32 = .ok (.lload 4, 2) := by decide +kernel
theorem dX3_drop_34 : decode cX3_drop 34 = .ok (.lreturn, 1) := by decide +kernel
theorem dX3_total_0 : decode cX3_total 0 = .ok (.lconst 0, 1) := by decide +kernel
theorem dX3_total_1 : decode cX3_total 1 = .ok (.lstore_n 1, 1) := by decide +kernel
theorem dX3_total_2 : decode cX3_total 2 = .ok (.iconst 0, 1) := by decide +kernel
theorem dX3_total_3 : decode cX3_total 3 = .ok (.istore_n 3, 1) := by decide +kernel
theorem dX3_total_4 : decode cX3_total 4 = .ok (.iload_n 3, 1) := by decide +kernel
theorem dX3_total_5 : decode cX3_total 5 = .ok (.aload_n 0, 1) := by decide +kernel
theorem dX3_total_6 : decode cX3_total 6 = .ok (.getfield 10, 3) := by decide +kernel
theorem dX3_total_9 : decode cX3_total 9 = .ok (.getfield 46, 3) := by decide +kernel
theorem dX3_total_12 : decode cX3_total 12 = .ok (.if_icmp .ge 47, 3) := by decide +kernel
theorem dX3_total_15 : decode cX3_total 15 = .ok (.lload_n 1, 1) := by decide +kernel
theorem dX3_total_16 : decode cX3_total 16 = .ok (.ldc2_w 64, 3) := by decide +kernel
theorem dX3_total_19 : decode cX3_total 19 = .ok (.aload_n 0, 1) := by decide +kernel
theorem dX3_total_20 : decode cX3_total 20 = .ok (.getfield 10, 3) := by decide +kernel
theorem dX3_total_23 : decode cX3_total 23 = .ok (.getfield 66, 3) := by decide +kernel
theorem dX3_total_26 : decode cX3_total 26 = .ok (.iload_n 3, 1) := by decide +kernel
theorem dX3_total_27 : decode cX3_total 27 = .ok (.iaload, 1) := by decide +kernel
theorem dX3_total_28 : decode cX3_total 28 = .ok (.i2l, 1) := by decide +kernel
theorem dX3_total_29 : decode cX3_total 29 = .ok (.lmul, 1) := by decide +kernel
theorem dX3_total_30 : decode cX3_total 30 = .ok (.aload_n 0, 1) := by decide +kernel
theorem dX3_total_31 : decode cX3_total 31 = .ok (.getfield 10, 3) := by decide +kernel
theorem dX3_total_34 : decode cX3_total 34 = .ok (.getfield 69, 3) := by decide +kernel
theorem dX3_total_37 : decode cX3_total 37 = .ok (.iload_n 3, 1) := by decide +kernel
theorem dX3_total_38 : decode cX3_total 38 = .ok (.iaload, 1) := by decide +kernel
theorem dX3_total_39 : decode cX3_total 39 = .ok (.i2l, 1) := by decide +kernel
theorem dX3_total_40 : decode cX3_total 40 = .ok (.ladd, 1) := by decide +kernel
theorem dX3_total_41 : decode cX3_total 41 = .ok (.aload_n 0, 1) := by decide +kernel
theorem dX3_total_42 : decode cX3_total 42 = .ok (.getfield 10, 3) := by decide +kernel
theorem dX3_total_45 : decode cX3_total 45 = .ok (.getfield 50, 3) := by decide +kernel
theorem dX3_total_48 : decode cX3_total 48 = .ok (.iload_n 3, 1) := by decide +kernel
theorem dX3_total_49 : decode cX3_total 49 = .ok (.laload, 1) := by decide +kernel
theorem dX3_total_50 : decode cX3_total 50 = .ok (.lmul, 1) := by decide +kernel
theorem dX3_total_51 : decode cX3_total 51 = .ok (.ladd, 1) := by decide +kernel
theorem dX3_total_52 : decode cX3_total 52 = .ok (.lstore_n 1, 1) := by decide +kernel
theorem dX3_total_53 : decode cX3_total 53 = .ok (.iinc 3 1, 3) := by decide +kernel
theorem dX3_total_56 : decode cX3_total 56 = .ok (.goto (-52), 3) := by decide +kernel
theorem dX3_total_59 : decode cX3_total 59 = .ok (.lload_n 1, 1) := by decide +kernel
theorem dX3_total_60 : decode cX3_total 60 = .ok (.lreturn, 1) := by decide +kernel
set_option maxRecDepth 20000 in
theorem ggX3_sweep_X2_remove : GoodIn wsX3_sweep wsX2_remove := goodIn_r _ [9, 10, 11, 12, 13, 24, 25, 26, 27] (by decide +kernel) (by decide +kernel)
set_option maxRecDepth 20000 in
theorem gX3_sweep_X2_remove : GoodIn wsX3_sweep (wsV RX3 60 RX2 yX2_remove wsX2_remove) := goodIn_app (goodIn_of _ (by decide +kernel)) ggX3_sweep_X2_remove
theorem dX3_sweep_0 : decode cX3_sweep 0 = .ok (.iconst 0, 1) := by decide +kernel
theorem dX3_sweep_1 : decode cX3_sweep 1 = .ok (.istore_n 1, 1) := by decide +kernel
theorem dX3_sweep_2 : decode cX3_sweep 2 = .ok (.aload_n 0, 1) := by decide +kernel
theorem dX3_sweep_3 : decode cX3_sweep 3 = .ok (.getfield 10, 3) := by decide +kernel
theorem dX3_sweep_6 : decode cX3_sweep 6 = .ok (.getfield 46, 3) := by decide +kernel
theorem dX3_sweep_9 : decode cX3_sweep 9 = .ok (.iconst 1, 1) := by decide +kernel
theorem dX3_sweep_10 : decode cX3_sweep 10 = .ok (.isub, 1) := by decide +kernel
theorem dX3_sweep_11 : decode cX3_sweep 11 = .ok (.istore_n 2, 1) := by decide +kernel
theorem dX3_sweep_12 : decode cX3_sweep 12 = .ok (.iload_n 2, 1) := by decide +kernel
theorem dX3_sweep_13 : decode cX3_sweep 13 = .ok (.ifCond .lt 44, 3) := by decide +kernel
theorem dX3_sweep_16 : decode cX3_sweep 16 = .ok (.aload_n 0, 1) := by decide +kernel
theorem dX3_sweep_17 : decode cX3_sweep 17 = .ok (.getfield 10, 3) := by decide +kernel
theorem dX3_sweep_20 : decode cX3_sweep 20 = .ok (.getfield 66, 3) := by decide +kernel
theorem dX3_sweep_23 : decode cX3_sweep 23 = .ok (.iload_n 2, 1) := by decide +kernel
theorem dX3_sweep_24 : decode cX3_sweep 24 = .ok (.iaload, 1) := by decide +kernel
theorem dX3_sweep_25 : decode cX3_sweep 25 = .ok (.aload_n 0, 1) := by decide +kernel
theorem dX3_sweep_26 : decode cX3_sweep 26 = .ok (.getfield 10, 3) := by decide +kernel
theorem dX3_sweep_29 : decode cX3_sweep 29 = .ok (.getfield 69, 3) := by decide +kernel
theorem dX3_sweep_32 : decode cX3_sweep 32 = .ok (.iload_n 2, 1) := by decide +kernel
theorem dX3_sweep_33 : decode cX3_sweep 33 = .ok (.iaload, 1) := by decide +kernel
theorem dX3_sweep_34 : decode cX3_sweep 34 = .ok (.iadd, 1) := by decide +kernel
theorem dX3_sweep_35 : decode cX3_sweep 35 = .ok (.iconst 2, 1) := by decide +kernel
theorem dX3_sweep_36 : decode cX3_sweep 36 = .ok (.irem, 1) := by decide +kernel
theorem dX3_sweep_37 : decode cX3_sweep 37 = .ok (.ifCond .ne 14, 3) := by decide +kernel
theorem dX3_sweep_40 : decode cX3_sweep 40 = .ok (.aload_n 0, 1) := by decide +kernel
theorem dX3_sweep_41 : decode cX3_sweep 41 = .ok (.getfield 10, 3) := by decide +kernel
theorem dX3_sweep_44 : decode cX3_sweep 44 = .ok (.iload_n 2, 1) := by decide +kernel
theorem dX3_sweep_45 : decode cX3_sweep 45 = .ok (.invokevirtual 60, 3) := by decide +kernel
theorem dX3_sweep_48 : decode cX3_sweep 48 = .ok (.iinc 1 1, 3) := by decide +kernel
theorem dX3_sweep_51 : decode cX3_sweep 51 = .ok (.iinc 2 (-1), 3) := by decide +kernel
theorem dX3_sweep_54 : decode cX3_sweep 54 = .ok (.goto (-42), 3) := by decide +kernel
theorem dX3_sweep_57 : decode cX3_sweep 57 = .ok (.iload_n 1, 1) := by decide +kernel
theorem dX3_sweep_58 : decode cX3_sweep 58 = .ok (.ireturn, 1) := by decide +kernel
set_option maxRecDepth 20000 in
theorem ggX3_come_X2_find : GoodIn wsX3_come wsX2_find := goodIn_r _ [6, 7, 8, 9, 27, 28, 29, 30] (by decide +kernel) (by decide +kernel)
set_option maxRecDepth 20000 in
theorem gX3_come_X2_find : GoodIn wsX3_come (wsV RX3 38 RX2 yX2_find wsX2_find) := goodIn_app (goodIn_of _ (by decide +kernel)) ggX3_come_X2_find
set_option maxRecDepth 20000 in
theorem ggX3_come_X2_add : GoodIn wsX3_come wsX2_add := goodIn_r _ [13, 7, 8, 14, 15, 9, 16, 27, 28, 29, 30] (by decide +kernel) (by decide +kernel)
set_option maxRecDepth 20000 in
theorem gX3_come_X2_add : GoodIn wsX3_come (wsV RX3 42 RX2 yX2_add wsX2_add) := goodIn_app (goodIn_of _ (by decide +kernel)) ggX3_come_X2_add
theorem dX3_come_0 : decode cX3_come 0 = .ok (.aload_n 0, 1) := by decide +kernel
theorem dX3_come_1 : decode cX3_come 1 = .ok (.getfield 16, 3) := by decide +kernel
theorem dX3_come_4 : decode cX3_come 4 = .ok (.iload_n 1, 1) := by decide +kernel
theorem dX3_come_5 : decode cX3_come 5 = .ok (.iload_n 2, 1) := by decide +kernel
theorem dX3_come_6 : decode cX3_come 6 = .ok (.invokevirtual 38, 3) := by decide +kernel
theorem dX3_come_9 : decode cX3_come 9 = .ok (.ifCond .ge 7, 3) := by decide +kernel
theorem dX3_come_12 : decode cX3_come 12 = .ok (.iconst 1, 1) := by decide +kernel
theorem dX3_come_13 : decode cX3_come 13 = .ok (.goto 4, 3) := by decide +kernel
theorem dX3_come_16 : decode cX3_come 16 = .ok (.iconst 0, 1) := by decide +kernel
theorem dX3_come_17 : decode cX3_come 17 = .ok (.istore_n 3, 1) := by decide +kernel
theorem dX3_come_18 : decode cX3_come 18 = .ok (.iload_n 3, 1) := by decide +kernel
theorem dX3_come_19 : decode cX3_come 19 = .ok (.ifCond .eq 13, 3) := by decide +kernel
theorem dX3_come_22 : decode cX3_come 22 = .ok (.aload_n 0, 1) := by decide +kernel
theorem dX3_come_23 : decode cX3_come 23 = .ok (.getfield 16, 3) := by decide +kernel
theorem dX3_come_26 : decode cX3_come 26 = .ok (.iload_n 1, 1) := by decide +kernel
theorem dX3_come_27 : decode cX3_come 27 = .ok (.iload_n 2, 1) := by decide +kernel
theorem dX3_come_28 : decode cX3_come 28 = .ok (.lconst 0, 1) := by decide +kernel
theorem dX3_come_29 : decode cX3_come 29 = .ok (.invokevirtual 42, 3) := by decide +kernel
theorem dX3_come_32 : decode cX3_come 32 = .ok (.iload_n 3, 1) := by decide +kernel
theorem dX3_come_33 : decode cX3_come 33 = .ok (.ireturn, 1) := by decide +kernel
set_option maxRecDepth 20000 in
theorem ggX3_leave_X2_find : GoodIn wsX3_leave wsX2_find := goodIn_r _ [6, 7, 8, 9, 25, 26, 27, 28] (by decide +kernel) (by decide +kernel)
set_option maxRecDepth 20000 in
theorem gX3_leave_X2_find : GoodIn wsX3_leave (wsV RX3 38 RX2 yX2_find wsX2_find) := goodIn_app (goodIn_of _ (by decide +kernel)) ggX3_leave_X2_find
set_option maxRecDepth 20000 in
theorem ggX3_leave_X2_remove : GoodIn wsX3_leave wsX2_remove := goodIn_r _ [13, 7, 8, 9, 14, 25, 26, 27, 28] (by decide +kernel) (by decide +kernel)
set_option maxRecDepth 20000 in
theorem gX3_leave_X2_remove : GoodIn wsX3_leave (wsV RX3 60 RX2 yX2_remove wsX2_remove) := goodIn_app (goodIn_of _ (by decide +kernel)) ggX3_leave_X2_remove
theorem dX3_leave_0 : decode cX3_leave 0 = .ok (.aload_n 0, 1) := by decide +kernel
theorem dX3_leave_1 : decode cX3_leave 1 = .ok (.getfield 16, 3) := by decide +kernel
theorem dX3_leave_4 : decode cX3_leave 4 = .ok (.iload_n 1, 1) := by decide +kernel
theorem dX3_leave_5 : decode cX3_leave 5 = .ok (.iload_n 2, 1) := by decide +kernel
theorem dX3_leave_6 : decode cX3_leave 6 = .ok (.invokevirtual 38, 3) := by decide +kernel
theorem dX3_leave_9 : decode cX3_leave 9 = .ok (.istore_n 3, 1) := by decide +kernel
theorem dX3_leave_10 : decode cX3_leave 10 = .ok (.iload_n 3, 1) := by decide +kernel
theorem dX3_leave_11 : decode cX3_leave 11 = .ok (.ifCond .lt 11, 3) := by decide +kernel
theorem dX3_leave_14 : decode cX3_leave 14 = .ok (.aload_n 0, 1) := by decide +kernel
theorem dX3_leave_15 : decode cX3_leave 15 = .ok (.getfield 16, 3) := by decide +kernel
theorem dX3_leave_18 : decode cX3_leave 18 = .ok (.iload_n 3, 1) := by decide +kernel
theorem dX3_leave_19 : decode cX3_leave 19 = .ok (.invokevirtual 60, 3) := by decide +kernel
theorem dX3_leave_22 : decode cX3_leave 22 = .ok (.iload_n 3, 1) := by decide +kernel
theorem dX3_leave_23 : decode cX3_leave 23 = .ok (.ifCond .lt 7, 3) := by decide +kernel
theorem dX3_leave_26 : decode cX3_leave 26 = .ok (.iconst 1, 1) := by decide +kernel
theorem dX3_leave_27 : decode cX3_leave 27 = .ok (.goto 4, 3) := by decide +kernel
theorem dX3_leave_30 : decode cX3_leave 30 = .ok (.iconst 0, 1) := by decide +kernel
theorem dX3_leave_31 : decode cX3_leave 31 = .ok (.ireturn, 1) := by decide +kernel
theorem dX3_comer_0 : decode cX3_comer 0 = .ok (.iload_n 1, 1) := by decide +kernel
theorem dX3_comer_1 : decode cX3_comer 1 = .ok (.ifCond .lt 14, 3) := by decide +kernel
theorem dX3_comer_4 : decode cX3_comer 4 = .ok (.iload_n 1, 1) := by decide +kernel
theorem dX3_comer_5 : decode cX3_comer 5 = .ok (.aload_n 0, 1) := by decide +kernel
theorem dX3_comer_6 : decode cX3_comer 6 = .ok (.getfield 16, 3) := by decide +kernel
theorem dX3_comer_9 : decode cX3_comer 9 = .ok (.getfield 46, 3) := by decide +kernel
theorem dX3_comer_12 : decode cX3_comer 12 = .ok (.if_icmp .lt 9, 3) := by decide +kernel
theorem dX3_comer_15 : decode cX3_comer 15 = .ok (.ldc2_w 54, 3) := by decide +kernel
theorem dX3_comer_18 : decode cX3_comer 18 = .ok (.goto 30, 3) := by decide +kernel
theorem dX3_comer_21 : decode cX3_comer 21 = .ok (.iload_n 2, 1) := by decide +kernel
theorem dX3_comer_22 : decode cX3_comer 22 = .ok (.ifCond .eq 16, 3) := by decide +kernel
theorem dX3_comer_25 : decode cX3_comer 25 = .ok (.aload_n 0, 1) := by decide +kernel
theorem dX3_comer_26 : decode cX3_comer 26 = .ok (.getfield 16, 3) := by decide +kernel
theorem dX3_comer_29 : decode cX3_comer 29 = .ok (.getfield 69, 3) := by decide +kernel
theorem dX3_comer_32 : decode cX3_comer 32 = .ok (.iload_n 1, 1) := by decide +kernel
theorem dX3_comer_33 : decode cX3_comer 33 = .ok (.iaload, 1) := by decide +kernel
theorem dX3_comer_34 : decode cX3_comer 34 = .ok (.i2l, 1) := by decide +kernel
theorem dX3_comer_35 : decode cX3_comer 35 = .ok (.goto 13, 3) := by decide +kernel
theorem dX3_comer_38 : decode cX3_comer 38 = .ok (.aload_n 0, 1) := by decide +kernel
theorem dX3_comer_39 : decode cX3_comer 39 = .ok (.getfield 16, 3) := by decide +kernel
theorem dX3_comer_42 : decode cX3_comer 42 = .ok (.getfield 66, 3) := by decide +kernel
theorem dX3_comer_45 : decode cX3_comer 45 = .ok (.iload_n 1, 1) := by decide +kernel
theorem dX3_comer_46 : decode cX3_comer 46 = .ok (.iaload, 1) := by decide +kernel
theorem dX3_comer_47 : decode cX3_comer 47 = .ok (.i2l, 1) := by decide +kernel
theorem dX3_comer_48 : decode cX3_comer 48 = .ok (.lreturn, 1) := by decide +kernel
set_option maxRecDepth 20000 in
theorem ggX3_retain_X2_find : GoodIn wsX3_retain wsX2_find := goodIn_r _ [10, 11, 12, 13, 29, 30, 31, 32] (by decide +kernel) (by decide +kernel)
set_option maxRecDepth 20000 in
theorem gX3_retain_X2_find : GoodIn wsX3_retain (wsV RX3 38 RX2 yX2_find wsX2_find) := goodIn_app (goodIn_of _ (by decide +kernel)) ggX3_retain_X2_find
set_option maxRecDepth 20000 in
theorem ggX3_retain_X2_remove : GoodIn wsX3_retain wsX2_remove := goodIn_r _ [17, 11, 12, 13, 18, 29, 30, 31, 32] (by decide +kernel) (by decide +kernel)
set_option maxRecDepth 20000 in
theorem gX3_retain_X2_remove : GoodIn wsX3_retain (wsV RX3 60 RX2 yX2_remove wsX2_remove) := goodIn_app (goodIn_of _ (by decide +kernel)) ggX3_retain_X2_remove
theorem dX3_retain_0 : decode cX3_retain 0 = .ok (.aload_n 0, 1) := by decide +kernel
theorem dX3_retain_1 : decode cX3_retain 1 = .ok (.getfield 16, 3) := by decide +kernel
theorem dX3_retain_4 : decode cX3_retain 4 = .ok (.getfield 46, 3) := by decide +kernel
theorem dX3_retain_7 : decode cX3_retain 7 = .ok (.iconst 1, 1) := by decide +kernel
theorem dX3_retain_8 : decode cX3_retain 8 = .ok (.isub, 1) := by decide +kernel
theorem dX3_retain_9 : decode cX3_retain 9 = .ok (.istore_n 1, 1) := by decide +kernel
theorem dX3_retain_10 : decode cX3_retain 10 = .ok (.iload_n 1, 1) := by decide +kernel
theorem dX3_retain_11 : decode cX3_retain 11 = .ok (.ifCond .lt 45, 3) := by decide +kernel
theorem dX3_retain_14 : decode cX3_retain 14 = .ok (.aload_n 0, 1) := by decide +kernel
theorem dX3_retain_15 : decode cX3_retain 15 = .ok (.getfield 10, 3) := by decide +kernel
theorem dX3_retain_18 : decode cX3_retain 18 = .ok (.aload_n 0, 1) := by decide +kernel
theorem dX3_retain_19 : decode cX3_retain 19 = .ok (.getfield 16, 3) := by decide +kernel
theorem dX3_retain_22 : decode cX3_retain 22 = .ok (.getfield 66, 3) := by decide +kernel
theorem dX3_retain_25 : decode cX3_retain 25 = .ok (.iload_n 1, 1) := by decide +kernel
theorem dX3_retain_26 : decode cX3_retain 26 = .ok (.iaload, 1) := by decide +kernel
theorem dX3_retain_27 : decode cX3_retain 27 = .ok (.aload_n 0, 1) := by decide +kernel
theorem dX3_retain_28 : decode cX3_retain 28 = .ok (.getfield 16, 3) := by decide +kernel
theorem dX3_retain_31 : decode cX3_retain 31 = .ok (.getfield 69, 3) := by decide +kernel
theorem dX3_retain_34 : decode cX3_retain 34 = .ok (.iload_n 1, 1) := by decide +kernel
theorem dX3_retain_35 : decode cX3_retain 35 = .ok (.iaload, 1) := by decide +kernel
theorem dX3_retain_36 : decode cX3_retain 36 = .ok (.invokevirtual 38, 3) := by decide +kernel
theorem dX3_retain_39 : decode cX3_retain 39 = .ok (.ifCond .ge 11, 3) := by decide +kernel
theorem dX3_retain_42 : decode cX3_retain 42 = .ok (.aload_n 0, 1) := by decide +kernel
theorem dX3_retain_43 : decode cX3_retain 43 = .ok (.getfield 16, 3) := by decide +kernel
theorem dX3_retain_46 : decode cX3_retain 46 = .ok (.iload_n 1, 1) := by decide +kernel
theorem dX3_retain_47 : decode cX3_retain 47 = .ok (.invokevirtual 60, 3) := by decide +kernel
theorem dX3_retain_50 : decode cX3_retain 50 = .ok (.iinc 1 (-1), 3) := by decide +kernel
theorem dX3_retain_53 : decode cX3_retain 53 = .ok (.goto (-43), 3) := by decide +kernel
theorem dX3_retain_56 : decode cX3_retain 56 = .ok (.aload_n 0, 1) := by decide +kernel
theorem dX3_retain_57 : decode cX3_retain 57 = .ok (.getfield 16, 3) := by decide +kernel
theorem dX3_retain_60 : decode cX3_retain 60 = .ok (.getfield 46, 3) := by decide +kernel
theorem dX3_retain_63 : decode cX3_retain 63 = .ok (.ireturn, 1) := by decide +kernel
theorem dX3_order_0 : decode cX3_order 0 = .ok (.iload_n 0, 1) := by decide +kernel
theorem dX3_order_1 : decode cX3_order 1 = .ok (.iload_n 2, 1) := by decide +kernel
theorem dX3_order_2 : decode cX3_order 2 = .ok (.if_icmp .eq 16, 3) := by decide +kernel
theorem dX3_order_5 : decode cX3_order 5 = .ok (.iload_n 0, 1) := by decide +kernel
theorem dX3_order_6 : decode cX3_order 6 = .ok (.iload_n 2, 1) := by decide +kernel
theorem dX3_order_7 : decode cX3_order 7 = .ok (.if_icmp .ge 7, 3) := by decide +kernel
theorem dX3_order_10 : decode cX3_order 10 = .ok (.iconst (-1), 1) := by decide +kernel
theorem dX3_order_11 : decode cX3_order 11 = .ok (.goto 26, 3) := by decide +kernel
theorem dX3_order_14 : decode cX3_order 14 = .ok (.iconst 1, 1) := by decide +kernel
theorem dX3_order_15 : decode cX3_order 15 = .ok (.goto 22, 3) := by decide +kernel
theorem dX3_order_18 : decode cX3_order 18 = .ok (.iload_n 1, 1) := by decide +kernel
theorem dX3_order_19 : decode cX3_order 19 = .ok (.iload_n 3, 1) := by decide +kernel
theorem dX3_order_20 : decode cX3_order 20 = .ok (.if_icmp .eq 16, 3) := by decide +kernel
theorem dX3_order_23 : decode cX3_order 23 = .ok (.iload_n 1, 1) := by decide +kernel
theorem dX3_order_24 : decode cX3_order 24 = .ok (.iload_n 3, 1) := by decide +kernel
theorem dX3_order_25 : decode cX3_order 25 = .ok (.if_icmp .ge 7, 3) := by decide +kernel
theorem dX3_order_28 : decode cX3_order 28 = .ok (.iconst (-1), 1) := by decide +kernel
theorem dX3_order_29 : decode cX3_order 29 = .ok (.goto 8, 3) := by decide +kernel
theorem dX3_order_32 : decode cX3_order 32 = .ok (.iconst 1, 1) := by decide +kernel
theorem dX3_order_33 : decode cX3_order 33 = .ok (.goto 4, 3) := by decide +kernel
theorem dX3_order_36 : decode cX3_order 36 = .ok (.iconst 0, 1) := by decide +kernel
theorem dX3_order_37 : decode cX3_order 37 = .ok (.ireturn, 1) := by decide +kernel
set_option maxRecDepth 20000 in
theorem ggX3_rank_X2_find : GoodIn wsX3_rank wsX2_find := goodIn_r _ [7, 8, 9, 10, 33, 34, 35, 36] (by decide +kernel) (by decide +kernel)
set_option maxRecDepth 20000 in
theorem gX3_rank_X2_find : GoodIn wsX3_rank (wsV RX3 38 RX2 yX2_find wsX2_find) := goodIn_app (goodIn_of _ (by decide +kernel)) ggX3_rank_X2_find
set_option maxRecDepth 20000 in
theorem ggX3_rank_X3_told : GoodIn wsX3_rank wsX3_told := goodIn_r _ [14, 15, 2, 33, 34, 35, 36] (by decide +kernel) (by decide +kernel)
set_option maxRecDepth 20000 in
theorem gX3_rank_X3_told : GoodIn wsX3_rank (va_wsS RX3 56 yX3_told wsX3_told) := goodIn_app (goodIn_of _ (by decide +kernel)) ggX3_rank_X3_told
set_option maxRecDepth 20000 in
theorem ggX3_rank_X2_add : GoodIn wsX3_rank wsX2_add := goodIn_r _ [19, 8, 9, 20, 21, 10, 22, 33, 34, 35, 36] (by decide +kernel) (by decide +kernel)
set_option maxRecDepth 20000 in
theorem gX3_rank_X2_add : GoodIn wsX3_rank (wsV RX3 42 RX2 yX2_add wsX2_add) := goodIn_app (goodIn_of _ (by decide +kernel)) ggX3_rank_X2_add
theorem dX3_rank_0 : decode cX3_rank 0 = .ok (.aload_n 0, 1) := by decide +kernel
theorem dX3_rank_1 : decode cX3_rank 1 = .ok (.getfield 19, 3) := by decide +kernel
theorem dX3_rank_4 : decode cX3_rank 4 = .ok (.iload_n 1, 1) := by decide +kernel
theorem dX3_rank_5 : decode cX3_rank 5 = .ok (.iload_n 2, 1) := by decide +kernel
theorem dX3_rank_6 : decode cX3_rank 6 = .ok (.invokevirtual 38, 3) := by decide +kernel
theorem dX3_rank_9 : decode cX3_rank 9 = .ok (.istore 4, 2) := by decide +kernel
theorem dX3_rank_11 : decode cX3_rank 11 = .ok (.aload_n 0, 1) := by decide +kernel
theorem dX3_rank_12 : decode cX3_rank 12 = .ok (.getfield 19, 3) := by decide +kernel
theorem dX3_rank_15 : decode cX3_rank 15 = .ok (.iload 4, 2) := by decide +kernel
theorem dX3_rank_17 : decode cX3_rank 17 = .ok (.invokestatic 56, 3) := by decide +kernel
theorem dX3_rank_20 : decode cX3_rank 20 = .ok (.lstore 5, 2) := by decide +kernel
theorem dX3_rank_22 : decode cX3_rank 22 = .ok (.iload 4, 2) := by decide +kernel
theorem dX3_rank_24 : decode cX3_rank 24 = .ok (.ifCond .ge 17, 3) := by decide +kernel
theorem dX3_rank_27 : decode cX3_rank 27 = .ok (.aload_n 0, 1) := by decide +kernel
theorem dX3_rank_28 : decode cX3_rank 28 = .ok (.getfield 19, 3) := by decide +kernel
theorem dX3_rank_31 : decode cX3_rank 31 = .ok (.iload_n 1, 1) := by decide +kernel
theorem dX3_rank_32 : decode cX3_rank 32 = .ok (.iload_n 2, 1) := by decide +kernel
theorem dX3_rank_33 : decode cX3_rank 33 = .ok (.iload_n 3, 1) := by decide +kernel
theorem dX3_rank_34 : decode cX3_rank 34 = .ok (.i2l, 1) := by decide +kernel
theorem dX3_rank_35 : decode cX3_rank 35 = .ok (.invokevirtual 42, 3) := by decide +kernel
theorem dX3_rank_38 : decode cX3_rank 38 = .ok (.goto 15, 3) := by decide +kernel
theorem dX3_rank_41 : decode cX3_rank 41 = .ok (.aload_n 0, 1) := by decide +kernel
theorem dX3_rank_42 : decode cX3_rank 42 = .ok (.getfield 19, 3) := by decide +kernel
theorem dX3_rank_45 : decode cX3_rank 45 = .ok (.getfield 50, 3) := by decide +kernel
theorem dX3_rank_48 : decode cX3_rank 48 = .ok (.iload 4, 2) := by decide +kernel
theorem dX3_rank_50 : decode cX3_rank 50 = .ok (.iload_n 3, 1) := by decide +kernel
theorem dX3_rank_51 : decode cX3_rank 51 = .ok (.i2l, 1) := by decide +kernel
theorem dX3_rank_52 : decode cX3_rank 52 = .ok (.lastore, 1) := by decide +kernel
theorem dX3_rank_53 : decode cX3_rank 53 = .ok (.lload 5, 2) := by decide +kernel
theorem dX3_rank_55 : decode cX3_rank 55 = .ok (.lreturn, 1) := by decide +kernel
set_option maxRecDepth 20000 in
theorem ggX3_nearest_X3_order : GoodIn wsX3_nearest wsX3_order := goodIn_r _ [8] (by decide +kernel) (by decide +kernel)
set_option maxRecDepth 20000 in
theorem gX3_nearest_X3_order : GoodIn wsX3_nearest (va_wsS RX3 72 yX3_order wsX3_order) := goodIn_app (goodIn_of _ (by decide +kernel)) ggX3_nearest_X3_order
theorem dX3_nearest_0 : decode cX3_nearest 0 = .ok (.iconst (-1), 1) := by decide +kernel
theorem dX3_nearest_1 : decode cX3_nearest 1 = .ok (.istore 6, 2) := by decide +kernel
theorem dX3_nearest_3 : decode cX3_nearest 3 = .ok (.iconst 0, 1) := by decide +kernel
theorem dX3_nearest_4 : decode cX3_nearest 4 = .ok (.istore 7, 2) := by decide +kernel
theorem dX3_nearest_6 : decode cX3_nearest 6 = .ok (.iload 7, 2) := by decide +kernel
theorem dX3_nearest_8 : decode cX3_nearest 8 = .ok (.aload_n 0, 1) := by decide +kernel
theorem dX3_nearest_9 : decode cX3_nearest 9 = .ok (.getfield 19, 3) := by decide +kernel
theorem dX3_nearest_12 : decode cX3_nearest 12 = .ok (.getfield 46, 3) := by decide +kernel
theorem dX3_nearest_15 : decode cX3_nearest 15 = .ok (.if_icmp .ge 135, 3) := by decide +kernel
theorem dX3_nearest_18 : decode cX3_nearest 18 = .ok (.aload_n 0, 1) := by decide +kernel
theorem dX3_nearest_19 : decode cX3_nearest 19 = .ok (.getfield 19, 3) := by decide +kernel
theorem dX3_nearest_22 : decode cX3_nearest 22 = .ok (.getfield 66, 3) := by decide +kernel
theorem dX3_nearest_25 : decode cX3_nearest 25 = .ok (.iload 7, 2) := by decide +kernel
theorem dX3_nearest_27 : decode cX3_nearest 27 = .ok (.iaload, 1) := by decide +kernel
theorem dX3_nearest_28 : decode cX3_nearest 28 = .ok (.aload_n 0, 1) := by decide +kernel
theorem dX3_nearest_29 : decode cX3_nearest 29 = .ok (.getfield 19, 3) := by decide +kernel
theorem dX3_nearest_32 : decode cX3_nearest 32 = .ok (.getfield 69, 3) := by decide +kernel
theorem dX3_nearest_35 : decode cX3_nearest 35 = .ok (.iload 7, 2) := by decide +kernel
theorem dX3_nearest_37 : decode cX3_nearest 37 = .ok (.iaload, 1) := by decide +kernel
theorem dX3_nearest_38 : decode cX3_nearest 38 = .ok (.iload_n 1, 1) := by decide +kernel
theorem dX3_nearest_39 : decode cX3_nearest 39 = .ok (.iload_n 2, 1) := by decide +kernel
theorem dX3_nearest_40 : decode cX3_nearest 40 = .ok (.invokestatic 72, 3) := by decide +kernel
theorem dX3_nearest_43 : decode cX3_nearest 43 = .ok (.istore 8, 2) := by decide +kernel
theorem dX3_nearest_45 : decode cX3_nearest 45 = .ok (.iload 5, 2) := by decide +kernel
theorem dX3_nearest_47 : decode cX3_nearest 47 = .ok (.ifCond .ne 33, 3) := by decide +kernel
theorem dX3_nearest_50 : decode cX3_nearest 50 = .ok (.iload 8, 2) := by decide +kernel
theorem dX3_nearest_52 : decode cX3_nearest 52 = .ok (.ifCond .ne 11, 3) := by decide +kernel
theorem dX3_nearest_55 : decode cX3_nearest 55 = .ok (.iload 4, 2) := by decide +kernel
theorem dX3_nearest_57 : decode cX3_nearest 57 = .ok (.ifCond .ne 23, 3) := by decide +kernel
theorem dX3_nearest_60 : decode cX3_nearest 60 = .ok (.goto 84, 3) := by decide +kernel
theorem dX3_nearest_63 : decode cX3_nearest 63 = .ok (.iload_n 3, 1) := by decide +kernel
theorem dX3_nearest_64 : decode cX3_nearest 64 = .ok (.iload 8, 2) := by decide +kernel
theorem dX3_nearest_66 : decode cX3_nearest 66 = .ok (.ifCond .ge 7, 3) := by decide +kernel
theorem dX3_nearest_69 : decode cX3_nearest 69 = .ok (.iconst 1, 1) := by decide +kernel
theorem dX3_nearest_70 : decode cX3_nearest 70 = .ok (.goto 4, 3) := by decide +kernel
theorem dX3_nearest_73 : decode cX3_nearest 73 = .ok (.iconst 0, 1) := by decide +kernel
theorem dX3_nearest_74 : decode cX3_nearest 74 = .ok (.if_icmp .eq 6, 3) := by decide +kernel
theorem dX3_nearest_77 : decode cX3_nearest 77 = .ok (.goto 67, 3) := by decide +kernel
theorem dX3_nearest_80 : decode cX3_nearest 80 = .ok (.iload 6, 2) := by decide +kernel
theorem dX3_nearest_82 : decode cX3_nearest 82 = .ok (.ifCond .lt 58, 3) := by decide +kernel
theorem dX3_nearest_85 : decode cX3_nearest 85 = .ok (.iload_n 3, 1) := by decide +kernel
theorem dX3_nearest_86 : decode cX3_nearest 86 = .ok (.aload_n 0, 1) := by decide +kernel
theorem dX3_nearest_87 : decode cX3_nearest 87 = .ok (.getfield 19, 3) := by decide +kernel
theorem dX3_nearest_90 : decode cX3_nearest 90 = .ok (.getfield 66, 3) := by decide +kernel
theorem dX3_nearest_93 : decode cX3_nearest 93 = .ok (.iload 7, 2) := by decide +kernel
theorem dX3_nearest_95 : decode cX3_nearest 95 = .ok (.iaload, 1) := by decide +kernel
theorem dX3_nearest_96 : decode cX3_nearest 96 = .ok (.aload_n 0, 1) := by decide +kernel
theorem dX3_nearest_97 : decode cX3_nearest 97 = .ok (.getfield 19, 3) := by decide +kernel
theorem dX3_nearest_100 : decode cX3_nearest 100 = .ok (.getfield 69, 3) := by decide +kernel
theorem dX3_nearest_103 : decode cX3_nearest 103 = .ok (.iload 7, 2) := by decide +kernel
theorem dX3_nearest_105 : decode cX3_nearest 105 = .ok (.iaload, 1) := by decide +kernel
theorem dX3_nearest_106 : decode cX3_nearest 106 = .ok (.aload_n 0, 1) := by decide +kernel
theorem dX3_nearest_107 : decode cX3_nearest 107 = .ok (.getfield 19, 3) := by decide +kernel
theorem dX3_nearest_110 : decode cX3_nearest 110 = .ok (.getfield 66, 3) := by decide +kernel
theorem dX3_nearest_113 : decode cX3_nearest 113 = .ok (.iload 6, 2) := by decide +kernel
theorem dX3_nearest_115 : decode cX3_nearest 115 = .ok (.iaload, 1) := by decide +kernel
theorem dX3_nearest_116 : decode cX3_nearest 116 = .ok (.aload_n 0, 1) := by decide +kernel
theorem dX3_nearest_117 : decode cX3_nearest 117 = .ok (.getfield 19, 3) := by decide +kernel
theorem dX3_nearest_120 : decode cX3_nearest 120 = .ok (.getfield 69, 3) := by decide +kernel
theorem dX3_nearest_123 : decode cX3_nearest 123 = .ok (.iload 6, 2) := by decide +kernel
theorem dX3_nearest_125 : decode cX3_nearest 125 = .ok (.iaload, 1) := by decide +kernel
theorem dX3_nearest_126 : decode cX3_nearest 126 = .ok (.invokestatic 72, 3) := by decide +kernel
theorem dX3_nearest_129 : decode cX3_nearest 129 = .ok (.ifCond .le 7, 3) := by decide +kernel
theorem dX3_nearest_132 : decode cX3_nearest 132 = .ok (.iconst 1, 1) := by decide +kernel
theorem dX3_nearest_133 : decode cX3_nearest 133 = .ok (.goto 4, 3) := by decide +kernel
theorem dX3_nearest_136 : decode cX3_nearest 136 = .ok (.iconst 0, 1) := by decide +kernel
theorem dX3_nearest_137 : decode cX3_nearest 137 = .ok (.if_icmp .ne 7, 3) := by decide +kernel
theorem dX3_nearest_140 : decode cX3_nearest 140 = .ok (.iload 7, 2) := by decide +kernel
theorem dX3_nearest_142 : decode cX3_nearest 142 = .ok (.istore 6, 2) := by decide +kernel
theorem dX3_nearest_144 : decode cX3_nearest 144 = .ok (.iinc 7 1, 3) := by decide +kernel
theorem dX3_nearest_147 : decode cX3_nearest 147 = .ok (.goto (-141), 3) := by decide +kernel
theorem dX3_nearest_150 : decode cX3_nearest 150 = .ok (.iload 6, 2) := by decide +kernel
theorem dX3_nearest_152 : decode cX3_nearest 152 = .ok (.ireturn, 1) := by decide +kernel
set_option maxRecDepth 20000 in
theorem ggX3_near_X3_nearest : GoodIn wsX3_near wsX3_nearest := goodIn_r _ [10, 2, 11, 3, 5, 12, 13, 9, 14, 15, 16, 17, 18, 19, 20, 21, 22, 23, 24, 25, 26, 27, 28] (by decide +kernel) (by decide +kernel)
set_option maxRecDepth 20000 in
theorem gX3_near_X3_nearest : GoodIn wsX3_near (wsV RX3 76 RX3 yX3_nearest wsX3_nearest) := goodIn_app (goodIn_of _ (by decide +kernel)) ggX3_near_X3_nearest
theorem dX3_near_0 : decode cX3_near 0 = .ok (.aload_n 0, 1) := by decide +kernel
theorem dX3_near_1 : decode cX3_near 1 = .ok (.iload_n 1, 1) := by decide +kernel
theorem dX3_near_2 : decode cX3_near 2 = .ok (.iload_n 2, 1) := by decide +kernel
theorem dX3_near_3 : decode cX3_near 3 = .ok (.iload_n 3, 1) := by decide +kernel
theorem dX3_near_4 : decode cX3_near 4 = .ok (.iload 4, 2) := by decide +kernel
theorem dX3_near_6 : decode cX3_near 6 = .ok (.iconst 0, 1) := by decide +kernel
theorem dX3_near_7 : decode cX3_near 7 = .ok (.invokevirtual 76, 3) := by decide +kernel
theorem dX3_near_10 : decode cX3_near 10 = .ok (.istore 5, 2) := by decide +kernel
theorem dX3_near_12 : decode cX3_near 12 = .ok (.iload 5, 2) := by decide +kernel
theorem dX3_near_14 : decode cX3_near 14 = .ok (.ifCond .ge 9, 3) := by decide +kernel
theorem dX3_near_17 : decode cX3_near 17 = .ok (.ldc2_w 54, 3) := by decide +kernel
theorem dX3_near_20 : decode cX3_near 20 = .ok (.goto 30, 3) := by decide +kernel
theorem dX3_near_23 : decode cX3_near 23 = .ok (.aload_n 0, 1) := by decide +kernel
theorem dX3_near_24 : decode cX3_near 24 = .ok (.getfield 19, 3) := by decide +kernel
theorem dX3_near_27 : decode cX3_near 27 = .ok (.getfield 66, 3) := by decide +kernel
theorem dX3_near_30 : decode cX3_near 30 = .ok (.iload 5, 2) := by decide +kernel
theorem dX3_near_32 : decode cX3_near 32 = .ok (.iaload, 1) := by decide +kernel
theorem dX3_near_33 : decode cX3_near 33 = .ok (.i2l, 1) := by decide +kernel
theorem dX3_near_34 : decode cX3_near 34 = .ok (.ldc2_w 80, 3) := by decide +kernel
theorem dX3_near_37 : decode cX3_near 37 = .ok (.lmul, 1) := by decide +kernel
theorem dX3_near_38 : decode cX3_near 38 = .ok (.aload_n 0, 1) := by decide +kernel
theorem dX3_near_39 : decode cX3_near 39 = .ok (.getfield 19, 3) := by decide +kernel
theorem dX3_near_42 : decode cX3_near 42 = .ok (.getfield 69, 3) := by decide +kernel
theorem dX3_near_45 : decode cX3_near 45 = .ok (.iload 5, 2) := by decide +kernel
theorem dX3_near_47 : decode cX3_near 47 = .ok (.iaload, 1) := by decide +kernel
theorem dX3_near_48 : decode cX3_near 48 = .ok (.i2l, 1) := by decide +kernel
theorem dX3_near_49 : decode cX3_near 49 = .ok (.ladd, 1) := by decide +kernel
theorem dX3_near_50 : decode cX3_near 50 = .ok (.lreturn, 1) := by decide +kernel
set_option maxRecDepth 20000 in
theorem ggX3_poll_X3_nearest : GoodIn wsX3_poll wsX3_nearest := goodIn_r _ [6, 1, 7, 8, 9, 10, 11, 5, 12, 27, 28, 29, 30, 31, 32, 33, 34, 35, 36, 37, 38, 39, 40] (by decide +kernel) (by decide +kernel)
set_option maxRecDepth 20000 in
theorem gX3_poll_X3_nearest : GoodIn wsX3_poll (wsV RX3 76 RX3 yX3_nearest wsX3_nearest) := goodIn_app (goodIn_of _ (by decide +kernel)) ggX3_poll_X3_nearest
set_option maxRecDepth 20000 in
theorem ggX3_poll_X3_told : GoodIn wsX3_poll wsX3_told := goodIn_r _ [15, 16, 17, 37, 38, 39, 40] (by decide +kernel) (by decide +kernel)
set_option maxRecDepth 20000 in
theorem gX3_poll_X3_told : GoodIn wsX3_poll (va_wsS RX3 56 yX3_told wsX3_told) := goodIn_app (goodIn_of _ (by decide +kernel)) ggX3_poll_X3_told
set_option maxRecDepth 20000 in
theorem ggX3_poll_X2_remove : GoodIn wsX3_poll wsX2_remove := goodIn_r _ [22, 23, 24, 25, 26, 37, 38, 39, 40] (by decide +kernel) (by decide +kernel)
set_option maxRecDepth 20000 in
theorem gX3_poll_X2_remove : GoodIn wsX3_poll (wsV RX3 60 RX2 yX2_remove wsX2_remove) := goodIn_app (goodIn_of _ (by decide +kernel)) ggX3_poll_X2_remove
theorem dX3_poll_0 : decode cX3_poll 0 = .ok (.aload_n 0, 1) := by decide +kernel
theorem dX3_poll_1 : decode cX3_poll 1 = .ok (.iconst 0, 1) := by decide +kernel
theorem dX3_poll_2 : decode cX3_poll 2 = .ok (.iconst 0, 1) := by decide +kernel
theorem dX3_poll_3 : decode cX3_poll 3 = .ok (.iload_n 1, 1) := by decide +kernel
theorem dX3_poll_4 : decode cX3_poll 4 = .ok (.iconst 1, 1) := by decide +kernel
theorem dX3_poll_5 : decode cX3_poll 5 = .ok (.iconst 1, 1) := by decide +kernel
theorem dX3_poll_6 : decode cX3_poll 6 = .ok (.invokevirtual 76, 3) := by decide +kernel
theorem dX3_poll_9 : decode cX3_poll 9 = .ok (.istore_n 2, 1) := by decide +kernel
theorem dX3_poll_10 : decode cX3_poll 10 = .ok (.aload_n 0, 1) := by decide +kernel
theorem dX3_poll_11 : decode cX3_poll 11 = .ok (.getfield 19, 3) := by decide +kernel
theorem dX3_poll_14 : decode cX3_poll 14 = .ok (.iload_n 2, 1) := by decide +kernel
theorem dX3_poll_15 : decode cX3_poll 15 = .ok (.invokestatic 56, 3) := by decide +kernel
theorem dX3_poll_18 : decode cX3_poll 18 = .ok (.lstore_n 3, 1) := by decide +kernel
theorem dX3_poll_19 : decode cX3_poll 19 = .ok (.iload_n 2, 1) := by decide +kernel
theorem dX3_poll_20 : decode cX3_poll 20 = .ok (.ifCond .lt 11, 3) := by decide +kernel
theorem dX3_poll_23 : decode cX3_poll 23 = .ok (.aload_n 0, 1) := by decide +kernel
theorem dX3_poll_24 : decode cX3_poll 24 = .ok (.getfield 19, 3) := by decide +kernel
theorem dX3_poll_27 : decode cX3_poll 27 = .ok (.iload_n 2, 1) := by decide +kernel
theorem dX3_poll_28 : decode cX3_poll 28 = .ok (.invokevirtual 60, 3) := by decide +kernel
theorem dX3_poll_31 : decode cX3_poll 31 = .ok (.lload_n 3, 1) := by decide +kernel
theorem dX3_poll_32 : decode cX3_poll 32 = .ok (.lreturn, 1) := by decide +kernel
set_option maxRecDepth 20000 in
theorem ggX3_between_X3_order : GoodIn wsX3_between wsX3_order := goodIn_r _ [8] (by decide +kernel) (by decide +kernel)
set_option maxRecDepth 20000 in
theorem gX3_between_X3_order : GoodIn wsX3_between (va_wsS RX3 72 yX3_order wsX3_order) := goodIn_app (goodIn_of _ (by decide +kernel)) ggX3_between_X3_order
theorem dX3_between_0 : decode cX3_between 0 = .ok (.iload_n 3, 1) := by decide +kernel
theorem dX3_between_1 : decode cX3_between 1 = .ok (.iload 4, 2) := by decide +kernel
theorem dX3_between_3 : decode cX3_between 3 = .ok (.iload_n 1, 1) := by decide +kernel
theorem dX3_between_4 : decode cX3_between 4 = .ok (.iload_n 2, 1) := by decide +kernel
theorem dX3_between_5 : decode cX3_between 5 = .ok (.invokestatic 72, 3) := by decide +kernel
theorem dX3_between_8 : decode cX3_between 8 = .ok (.ifCond .ge 5, 3) := by decide +kernel
theorem dX3_between_11 : decode cX3_between 11 = .ok (.iconst (-1), 1) := by decide +kernel
theorem dX3_between_12 : decode cX3_between 12 = .ok (.ireturn, 1) := by decide +kernel
theorem dX3_between_13 : decode cX3_between 13 = .ok (.iconst 0, 1) := by decide +kernel
theorem dX3_between_14 : decode cX3_between 14 = .ok (.istore 5, 2) := by decide +kernel
theorem dX3_between_16 : decode cX3_between 16 = .ok (.iconst 0, 1) := by decide +kernel
theorem dX3_between_17 : decode cX3_between 17 = .ok (.istore 6, 2) := by decide +kernel
theorem dX3_between_19 : decode cX3_between 19 = .ok (.iload 6, 2) := by decide +kernel
theorem dX3_between_21 : decode cX3_between 21 = .ok (.aload_n 0, 1) := by decide +kernel
theorem dX3_between_22 : decode cX3_between 22 = .ok (.getfield 19, 3) := by decide +kernel
theorem dX3_between_25 : decode cX3_between 25 = .ok (.getfield 46, 3) := by decide +kernel
theorem dX3_between_28 : decode cX3_between 28 = .ok (.if_icmp .ge 69, 3) := by decide +kernel
theorem dX3_between_31 : decode cX3_between 31 = .ok (.aload_n 0, 1) := by decide +kernel
theorem dX3_between_32 : decode cX3_between 32 = .ok (.getfield 19, 3) := by decide +kernel
theorem dX3_between_35 : decode cX3_between 35 = .ok (.getfield 66, 3) := by decide +kernel
theorem dX3_between_38 : decode cX3_between 38 = .ok (.iload 6, 2) := by decide +kernel
theorem dX3_between_40 : decode cX3_between 40 = .ok (.iaload, 1) := by decide +kernel
theorem dX3_between_41 : decode cX3_between 41 = .ok (.aload_n 0, 1) := by decide +kernel
theorem dX3_between_42 : decode cX3_between 42 = .ok (.getfield 19, 3) := by decide +kernel
theorem dX3_between_45 : decode cX3_between 45 = .ok (.getfield 69, 3) := by decide +kernel
theorem dX3_between_48 : decode cX3_between 48 = .ok (.iload 6, 2) := by decide +kernel
theorem dX3_between_50 : decode cX3_between 50 = .ok (.iaload, 1) := by decide +kernel
theorem dX3_between_51 : decode cX3_between 51 = .ok (.iload_n 1, 1) := by decide +kernel
theorem dX3_between_52 : decode cX3_between 52 = .ok (.iload_n 2, 1) := by decide +kernel
theorem dX3_between_53 : decode cX3_between 53 = .ok (.invokestatic 72, 3) := by decide +kernel
theorem dX3_between_56 : decode cX3_between 56 = .ok (.ifCond .lt 35, 3) := by decide +kernel
theorem dX3_between_59 : decode cX3_between 59 = .ok (.aload_n 0, 1) := by decide +kernel
theorem dX3_between_60 : decode cX3_between 60 = .ok (.getfield 19, 3) := by decide +kernel
theorem dX3_between_63 : decode cX3_between 63 = .ok (.getfield 66, 3) := by decide +kernel
theorem dX3_between_66 : decode cX3_between 66 = .ok (.iload 6, 2) := by decide +kernel
theorem dX3_between_68 : decode cX3_between 68 = .ok (.iaload, 1) := by decide +kernel
theorem dX3_between_69 : decode cX3_between 69 = .ok (.aload_n 0, 1) := by decide +kernel
theorem dX3_between_70 : decode cX3_between 70 = .ok (.getfield 19, 3) := by decide +kernel
theorem dX3_between_73 : decode cX3_between 73 = .ok (.getfield 69, 3) := by decide +kernel
theorem dX3_between_76 : decode cX3_between 76 = .ok (.iload 6, 2) := by decide +kernel
theorem dX3_between_78 : decode cX3_between 78 = .ok (.iaload, 1) := by decide +kernel
theorem dX3_between_79 : decode cX3_between 79 = .ok (.iload_n 3, 1) := by decide +kernel
theorem dX3_between_80 : decode cX3_between 80 = .ok (.iload 4, 2) := by decide +kernel
theorem dX3_between_82 : decode cX3_between 82 = .ok (.invokestatic 72, 3) := by decide +kernel
theorem dX3_between_85 : decode cX3_between 85 = .ok (.ifCond .ge 6, 3) := by decide +kernel
theorem dX3_between_88 : decode cX3_between 88 = .ok (.iinc 5 1, 3) := by decide +kernel
theorem dX3_between_91 : decode cX3_between 91 = .ok (.iinc 6 1, 3) := by decide +kernel
theorem dX3_between_94 : decode cX3_between 94 = .ok (.goto (-75), 3) := by decide +kernel
theorem dX3_between_97 : decode cX3_between 97 = .ok (.iload 5, 2) := by decide +kernel
theorem dX3_between_99 : decode cX3_between 99 = .ok (.ireturn, 1) := by decide +kernel
theorem dX3_sign_0 : decode cX3_sign 0 = .ok (.iload_n 1, 1) := by decide +kernel
theorem dX3_sign_1 : decode cX3_sign 1 = .ok (.bipush 97, 2) := by decide +kernel
theorem dX3_sign_3 : decode cX3_sign 3 = .ok (.if_icmp .lt 9, 3) := by decide +kernel
theorem dX3_sign_6 : decode cX3_sign 6 = .ok (.iload_n 1, 1) := by decide +kernel
theorem dX3_sign_7 : decode cX3_sign 7 = .ok (.bipush 122, 2) := by decide +kernel
theorem dX3_sign_9 : decode cX3_sign 9 = .ok (.if_icmp .le 5, 3) := by decide +kernel
theorem dX3_sign_12 : decode cX3_sign 12 = .ok (.iconst (-1), 1) := by decide +kernel
theorem dX3_sign_13 : decode cX3_sign 13 = .ok (.ireturn, 1) := by decide +kernel
theorem dX3_sign_14 : decode cX3_sign 14 = .ok (.aload_n 0, 1) := by decide +kernel
theorem dX3_sign_15 : decode cX3_sign 15 = .ok (.getfield 82, 3) := by decide +kernel
theorem dX3_sign_18 : decode cX3_sign 18 = .ok (.bipush 12, 2) := by decide +kernel
theorem dX3_sign_20 : decode cX3_sign 20 = .ok (.if_icmp .ne 6, 3) := by decide +kernel
theorem dX3_sign_23 : decode cX3_sign 23 = .ok (.bipush (-3), 2) := by decide +kernel
theorem dX3_sign_25 : decode cX3_sign 25 = .ok (.ireturn, 1) := by decide +kernel
theorem dX3_sign_26 : decode cX3_sign 26 = .ok (.aload_n 0, 1) := by decide +kernel
theorem dX3_sign_27 : decode cX3_sign 27 = .ok (.getfield 35, 3) := by decide +kernel
theorem dX3_sign_30 : decode cX3_sign 30 = .ok (.aload_n 0, 1) := by decide +kernel
theorem dX3_sign_31 : decode cX3_sign 31 = .ok (.getfield 82, 3) := by decide +kernel
theorem dX3_sign_34 : decode cX3_sign 34 = .ok (.iload_n 1, 1) := by decide +kernel
theorem dX3_sign_35 : decode cX3_sign 35 = .ok (.iastore, 1) := by decide +kernel
theorem dX3_sign_36 : decode cX3_sign 36 = .ok (.aload_n 0, 1) := by decide +kernel
theorem dX3_sign_37 : decode cX3_sign 37 = .ok (.dup, 1) := by decide +kernel
theorem dX3_sign_38 : decode cX3_sign 38 = .ok (.getfield 82, 3) := by decide +kernel
theorem dX3_sign_41 : decode cX3_sign 41 = .ok (.iconst 1, 1) := by decide +kernel
theorem dX3_sign_42 : decode cX3_sign 42 = .ok (.iadd, 1) := by decide +kernel
theorem dX3_sign_43 : decode cX3_sign 43 = .ok (.dup_x1, 1) := by decide +kernel
theorem dX3_sign_44 : decode cX3_sign 44 = .ok (.putfield 82, 3) := by decide +kernel
theorem dX3_sign_47 : decode cX3_sign 47 = .ok (.ireturn, 1) := by decide +kernel
theorem dX3_erase_0 : decode cX3_erase 0 = .ok (.aload_n 0, 1) := by decide +kernel
theorem dX3_erase_1 : decode cX3_erase 1 = .ok (.getfield 82, 3) := by decide +kernel
theorem dX3_erase_4 : decode cX3_erase 4 = .ok (.istore_n 1, 1) := by decide +kernel
theorem dX3_erase_5 : decode cX3_erase 5 = .ok (.aload_n 0, 1) := by decide +kernel
theorem dX3_erase_6 : decode cX3_erase 6 = .ok (.iconst 0, 1) := by decide +kernel
theorem dX3_erase_7 : decode cX3_erase 7 = .ok (.putfield 82, 3) := by decide +kernel
theorem dX3_erase_10 : decode cX3_erase 10 = .ok (.iload_n 1, 1) := by decide +kernel
theorem dX3_erase_11 : decode cX3_erase 11 = .ok (.ireturn, 1) := by decide +kernel
theorem dX3_signOf_0 : decode cX3_signOf 0 = .ok (.aload_n 0, 1) := by decide +kernel
theorem dX3_signOf_1 : decode cX3_signOf 1 = .ok (.getfield 31, 3) := by decide +kernel
theorem dX3_signOf_4 : decode cX3_signOf 4 = .ok (.bipush 12, 2) := by decide +kernel
theorem dX3_signOf_6 : decode cX3_signOf 6 = .ok (.iload_n 1, 1) := by decide +kernel
theorem dX3_signOf_7 : decode cX3_signOf 7 = .ok (.imul, 1) := by decide +kernel
theorem dX3_signOf_8 : decode cX3_signOf 8 = .ok (.iload_n 2, 1) := by decide +kernel
theorem dX3_signOf_9 : decode cX3_signOf 9 = .ok (.iadd, 1) := by decide +kernel
theorem dX3_signOf_10 : decode cX3_signOf 10 = .ok (.iaload, 1) := by decide +kernel
theorem dX3_signOf_11 : decode cX3_signOf 11 = .ok (.ireturn, 1) := by decide +kernel
theorem dX3_tapeSign_0 : decode cX3_tapeSign 0 = .ok (.iload_n 1, 1) := by decide +kernel
theorem dX3_tapeSign_1 : decode cX3_tapeSign 1 = .ok (.aload_n 0, 1) := by decide +kernel
theorem dX3_tapeSign_2 : decode cX3_tapeSign 2 = .ok (.getfield 82, 3) := by decide +kernel
theorem dX3_tapeSign_5 : decode cX3_tapeSign 5 = .ok (.if_icmp .ge 12, 3) := by decide +kernel
theorem dX3_tapeSign_8 : decode cX3_tapeSign 8 = .ok (.aload_n 0, 1) := by decide +kernel
theorem dX3_tapeSign_9 : decode cX3_tapeSign 9 = .ok (.getfield 35, 3) := by decide +kernel
theorem dX3_tapeSign_12 : decode cX3_tapeSign 12 = .ok (.iload_n 1, 1) := by decide +kernel
theorem dX3_tapeSign_13 : decode cX3_tapeSign 13 = .ok (.iaload, 1) := by decide +kernel
theorem dX3_tapeSign_14 : decode cX3_tapeSign 14 = .ok (.goto 4, 3) := by decide +kernel
theorem dX3_tapeSign_17 : decode cX3_tapeSign 17 = .ok (.iconst 0, 1) := by decide +kernel
theorem dX3_tapeSign_18 : decode cX3_tapeSign 18 = .ok (.ireturn, 1) := by decide +kernel
set_option maxRecDepth 20000 in
theorem ggX3_against_X3_signOf : GoodIn wsX3_against wsX3_signOf := goodIn_r _ [5, 6, 13, 14, 15, 16, 17, 18, 19, 20, 21, 22] (by decide +kernel) (by decide +kernel)
set_option maxRecDepth 20000 in
theorem gX3_against_X3_signOf : GoodIn wsX3_against (wsV RX3 85 RX3 yX3_signOf wsX3_signOf) := goodIn_app (goodIn_of _ (by decide +kernel)) ggX3_against_X3_signOf
set_option maxRecDepth 20000 in
theorem ggX3_against_X3_tapeSign : GoodIn wsX3_against wsX3_tapeSign := goodIn_r _ [10, 11, 12, 13, 14, 15, 16, 17, 18, 19, 20, 21, 22] (by decide +kernel) (by decide +kernel)
set_option maxRecDepth 20000 in
theorem gX3_against_X3_tapeSign : GoodIn wsX3_against (wsV RX3 88 RX3 yX3_tapeSign wsX3_tapeSign) := goodIn_app (goodIn_of _ (by decide +kernel)) ggX3_against_X3_tapeSign
theorem dX3_against_0 : decode cX3_against 0 = .ok (.iconst 0, 1) := by decide +kernel
theorem dX3_against_1 : decode cX3_against 1 = .ok (.istore_n 2, 1) := by decide +kernel
theorem dX3_against_2 : decode cX3_against 2 = .ok (.iload_n 2, 1) := by decide +kernel
theorem dX3_against_3 : decode cX3_against 3 = .ok (.bipush 12, 2) := by decide +kernel
theorem dX3_against_5 : decode cX3_against 5 = .ok (.if_icmp .ge 43, 3) := by decide +kernel
theorem dX3_against_8 : decode cX3_against 8 = .ok (.aload_n 0, 1) := by decide +kernel
theorem dX3_against_9 : decode cX3_against 9 = .ok (.iload_n 1, 1) := by decide +kernel
theorem dX3_against_10 : decode cX3_against 10 = .ok (.iload_n 2, 1) := by decide +kernel
theorem dX3_against_11 : decode cX3_against 11 = .ok (.invokevirtual 85, 3) := by decide +kernel
theorem dX3_against_14 : decode cX3_against 14 = .ok (.aload_n 0, 1) := by decide +kernel
theorem dX3_against_15 : decode cX3_against 15 = .ok (.iload_n 2, 1) := by decide +kernel
theorem dX3_against_16 : decode cX3_against 16 = .ok (.invokevirtual 88, 3) := by decide +kernel
theorem dX3_against_19 : decode cX3_against 19 = .ok (.if_icmp .eq 23, 3) := by decide +kernel
theorem dX3_against_22 : decode cX3_against 22 = .ok (.aload_n 0, 1) := by decide +kernel
theorem dX3_against_23 : decode cX3_against 23 = .ok (.iload_n 1, 1) := by decide +kernel
theorem dX3_against_24 : decode cX3_against 24 = .ok (.iload_n 2, 1) := by decide +kernel
theorem dX3_against_25 : decode cX3_against 25 = .ok (.invokevirtual 85, 3) := by decide +kernel
theorem dX3_against_28 : decode cX3_against 28 = .ok (.aload_n 0, 1) := by decide +kernel
theorem dX3_against_29 : decode cX3_against 29 = .ok (.iload_n 2, 1) := by decide +kernel
theorem dX3_against_30 : decode cX3_against 30 = .ok (.invokevirtual 88, 3) := by decide +kernel
theorem dX3_against_33 : decode cX3_against 33 = .ok (.if_icmp .ge 7, 3) := by decide +kernel
theorem dX3_against_36 : decode cX3_against 36 = .ok (.iconst (-1), 1) := by decide +kernel
theorem dX3_against_37 : decode cX3_against 37 = .ok (.goto 4, 3) := by decide +kernel
theorem dX3_against_40 : decode cX3_against 40 = .ok (.iconst 1, 1) := by decide +kernel
theorem dX3_against_41 : decode cX3_against 41 = .ok (.ireturn, 1) := by decide +kernel
theorem dX3_against_42 : decode cX3_against 42 = .ok (.iinc 2 1, 3) := by decide +kernel
theorem dX3_against_45 : decode cX3_against 45 = .ok (.goto (-43), 3) := by decide +kernel
theorem dX3_against_48 : decode cX3_against 48 = .ok (.iconst 0, 1) := by decide +kernel
theorem dX3_against_49 : decode cX3_against 49 = .ok (.ireturn, 1) := by decide +kernel
set_option maxRecDepth 20000 in
theorem ggX3_wordOfTape_X3_against : GoodIn wsX3_wordOfTape wsX3_against := goodIn_r _ [6, 7, 8, 9, 5, 10, 11, 12, 13, 14, 15, 16, 17, 18, 19, 20, 21, 22, 23, 24, 25, 26, 27] (by decide +kernel) (by decide +kernel)
set_option maxRecDepth 20000 in
theorem gX3_wordOfTape_X3_against : GoodIn wsX3_wordOfTape (wsV RX3 95 RX3 yX3_against wsX3_against) := goodIn_app (goodIn_of _ (by decide +kernel)) ggX3_wordOfTape_X3_against
theorem dX3_wordOfTape_0 : decode cX3_wordOfTape 0 = .ok (.iconst 0, 1) := by decide +kernel
theorem dX3_wordOfTape_1 : decode cX3_wordOfTape 1 = .ok (.istore_n 1, 1) := by decide +kernel
theorem dX3_wordOfTape_2 : decode cX3_wordOfTape 2 = .ok (.iload_n 1, 1) := by decide +kernel
theorem dX3_wordOfTape_3 : decode cX3_wordOfTape 3 = .ok (.aload_n 0, 1) := by decide +kernel
theorem dX3_wordOfTape_4 : decode cX3_wordOfTape 4 = .ok (.getfield 92, 3) := by decide +kernel
theorem dX3_wordOfTape_7 : decode cX3_wordOfTape 7 = .ok (.if_icmp .ge 19, 3) := by decide +kernel
theorem dX3_wordOfTape_10 : decode cX3_wordOfTape 10 = .ok (.aload_n 0, 1) := by decide +kernel
theorem dX3_wordOfTape_11 : decode cX3_wordOfTape 11 = .ok (.iload_n 1, 1) := by decide +kernel
theorem dX3_wordOfTape_12 : decode cX3_wordOfTape 12 = .ok (.invokevirtual 95, 3) := by decide +kernel
theorem dX3_wordOfTape_15 : decode cX3_wordOfTape 15 = .ok (.ifCond .ne 5, 3) := by decide +kernel
theorem dX3_wordOfTape_18 : decode cX3_wordOfTape 18 = .ok (.iload_n 1, 1) := by decide +kernel
theorem dX3_wordOfTape_19 : decode cX3_wordOfTape 19 = .ok (.ireturn, 1) := by decide +kernel
theorem dX3_wordOfTape_20 : decode cX3_wordOfTape 20 = .ok (.iinc 1 1, 3) := by decide +kernel
theorem dX3_wordOfTape_23 : decode cX3_wordOfTape 23 = .ok (.goto (-21), 3) := by decide +kernel
theorem dX3_wordOfTape_26 : decode cX3_wordOfTape 26 = .ok (.iconst (-1), 1) := by decide +kernel
theorem dX3_wordOfTape_27 : decode cX3_wordOfTape 27 = .ok (.ireturn, 1) := by decide +kernel
theorem dX3_numbers_0 : decode cX3_numbers 0 = .ok (.iconst 0, 1) := by decide +kernel
theorem dX3_numbers_1 : decode cX3_numbers 1 = .ok (.istore_n 2, 1) := by decide +kernel
theorem dX3_numbers_2 : decode cX3_numbers 2 = .ok (.iconst 0, 1) := by decide +kernel
theorem dX3_numbers_3 : decode cX3_numbers 3 = .ok (.istore_n 3, 1) := by decide +kernel
theorem dX3_numbers_4 : decode cX3_numbers 4 = .ok (.iload_n 3, 1) := by decide +kernel
theorem dX3_numbers_5 : decode cX3_numbers 5 = .ok (.aload_n 0, 1) := by decide +kernel
theorem dX3_numbers_6 : decode cX3_numbers 6 = .ok (.getfield 28, 3) := by decide +kernel
theorem dX3_numbers_9 : decode cX3_numbers 9 = .ok (.getfield 46, 3) := by decide +kernel
theorem dX3_numbers_12 : decode cX3_numbers 12 = .ok (.if_icmp .ge 25, 3) := by decide +kernel
theorem dX3_numbers_15 : decode cX3_numbers 15 = .ok (.aload_n 0, 1) := by decide +kernel
theorem dX3_numbers_16 : decode cX3_numbers 16 = .ok (.getfield 28, 3) := by decide +kernel
theorem dX3_numbers_19 : decode cX3_numbers 19 = .ok (.getfield 66, 3) := by decide +kernel
theorem dX3_numbers_22 : decode cX3_numbers 22 = .ok (.iload_n 3, 1) := by decide +kernel
end
section
theorem dX3_numbers_23 : decode cX3_numbers 23 = .ok (.iaload, 1) := by decide +kernel
theorem dX3_numbers_24 : decode cX3_numbers 24 = .ok (.iload_n 1, 1) := by decide +kernel
theorem dX3_numbers_25 : decode cX3_numbers 25 = .ok (.if_icmp .ne 6, 3) := by decide +kernel
theorem dX3_numbers_28 : decode cX3_numbers 28 = .ok (.iinc 2 1, 3) := by decide +kernel
theorem dX3_numbers_31 : decode cX3_numbers 31 = .ok (.iinc 3 1, 3) := by decide +kernel
theorem dX3_numbers_34 : decode cX3_numbers 34 = .ok (.goto (-30), 3) := by decide +kernel
theorem dX3_numbers_37 : decode cX3_numbers 37 = .ok (.iload_n 2, 1) := by decide +kernel
theorem dX3_numbers_38 : decode cX3_numbers 38 = .ok (.ireturn, 1) := by decide +kernel
set_option maxRecDepth 20000 in
theorem ggX3_line_X3_wordOfTape : GoodIn wsX3_line wsX3_wordOfTape := goodIn_r _ [10, 2, 11, 12, 13, 9, 14, 15, 16, 17, 18, 3, 19, 20, 21, 22, 1, 23, 40, 41, 42, 43, 44, 45, 46, 47, 48, 49] (by decide +kernel) (by decide +kernel)
set_option maxRecDepth 20000 in
theorem gX3_line_X3_wordOfTape : GoodIn wsX3_line (wsV RX3 98 RX3 yX3_wordOfTape wsX3_wordOfTape) := goodIn_app (goodIn_of _ (by decide +kernel)) ggX3_line_X3_wordOfTape
set_option maxRecDepth 20000 in
theorem ggX3_line_X3_tapeSign : GoodIn wsX3_line wsX3_tapeSign := goodIn_r _ [22, 1, 23, 40, 41, 42, 43, 44, 45, 46, 47, 48, 49] (by decide +kernel) (by decide +kernel)
set_option maxRecDepth 20000 in
theorem gX3_line_X3_tapeSign : GoodIn wsX3_line (wsV RX3 88 RX3 yX3_tapeSign wsX3_tapeSign) := goodIn_app (goodIn_of _ (by decide +kernel)) ggX3_line_X3_tapeSign
set_option maxRecDepth 20000 in
theorem ggX3_line_X2_add : GoodIn wsX3_line wsX2_add := goodIn_r _ [28, 29, 30, 4, 31, 32, 33, 50, 51, 52, 53] (by decide +kernel) (by decide +kernel)
set_option maxRecDepth 20000 in
theorem gX3_line_X2_add : GoodIn wsX3_line (wsV RX3 42 RX2 yX2_add wsX2_add) := goodIn_app (goodIn_of _ (by decide +kernel)) ggX3_line_X2_add
set_option maxRecDepth 20000 in
theorem ggX3_line_X3_numbers : GoodIn wsX3_line wsX3_numbers := goodIn_r _ [37, 5, 38, 39, 40, 41, 42, 43, 44, 45, 46, 47, 48, 49, 50, 51, 52, 53] (by decide +kernel) (by decide +kernel)
set_option maxRecDepth 20000 in
theorem gX3_line_X3_numbers : GoodIn wsX3_line (wsV RX3 102 RX3 yX3_numbers wsX3_numbers) := goodIn_app (goodIn_of _ (by decide +kernel)) ggX3_line_X3_numbers
theorem dX3_line_0 : decode cX3_line 0 = .ok (.aload_n 0, 1) := by decide +kernel
theorem dX3_line_1 : decode cX3_line 1 = .ok (.getfield 82, 3) := by decide +kernel
theorem dX3_line_4 : decode cX3_line 4 = .ok (.ifCond .ne 5, 3) := by decide +kernel
theorem dX3_line_7 : decode cX3_line 7 = .ok (.iconst (-1), 1) := by decide +kernel
theorem dX3_line_8 : decode cX3_line 8 = .ok (.ireturn, 1) := by decide +kernel
theorem dX3_line_9 : decode cX3_line 9 = .ok (.aload_n 0, 1) := by decide +kernel
theorem dX3_line_10 : decode cX3_line 10 = .ok (.invokevirtual 98, 3) := by decide +kernel
theorem dX3_line_13 : decode cX3_line 13 = .ok (.istore_n 2, 1) := by decide +kernel
theorem dX3_line_14 : decode cX3_line 14 = .ok (.iload_n 2, 1) := by decide +kernel
theorem dX3_line_15 : decode cX3_line 15 = .ok (.ifCond .ge 107, 3) := by decide +kernel
theorem dX3_line_18 : decode cX3_line 18 = .ok (.bipush 12, 2) := by decide +kernel
theorem dX3_line_20 : decode cX3_line 20 = .ok (.aload_n 0, 1) := by decide +kernel
theorem dX3_line_21 : decode cX3_line 21 = .ok (.getfield 92, 3) := by decide +kernel
theorem dX3_line_24 : decode cX3_line 24 = .ok (.iconst 1, 1) := by decide +kernel
theorem dX3_line_25 : decode cX3_line 25 = .ok (.iadd, 1) := by decide +kernel
theorem dX3_line_26 : decode cX3_line 26 = .ok (.imul, 1) := by decide +kernel
theorem dX3_line_27 : decode cX3_line 27 = .ok (.aload_n 0, 1) := by decide +kernel
theorem dX3_line_28 : decode cX3_line 28 = .ok (.getfield 31, 3) := by decide +kernel
theorem dX3_line_31 : decode cX3_line 31 = .ok (.arraylength, 1) := by decide +kernel
theorem dX3_line_32 : decode cX3_line 32 = .ok (.if_icmp .le 48, 3) := by decide +kernel
theorem dX3_line_35 : decode cX3_line 35 = .ok (.iconst 2, 1) := by decide +kernel
theorem dX3_line_36 : decode cX3_line 36 = .ok (.aload_n 0, 1) := by decide +kernel
theorem dX3_line_37 : decode cX3_line 37 = .ok (.getfield 31, 3) := by decide +kernel
theorem dX3_line_40 : decode cX3_line 40 = .ok (.arraylength, 1) := by decide +kernel
theorem dX3_line_41 : decode cX3_line 41 = .ok (.imul, 1) := by decide +kernel
theorem dX3_line_42 : decode cX3_line 42 = .ok (.newarray .int, 2) := by decide +kernel
theorem dX3_line_44 : decode cX3_line 44 = .ok (.astore_n 3, 1) := by decide +kernel
theorem dX3_line_45 : decode cX3_line 45 = .ok (.iconst 0, 1) := by decide +kernel
theorem dX3_line_46 : decode cX3_line 46 = .ok (.istore 4, 2) := by decide +kernel
theorem dX3_line_48 : decode cX3_line 48 = .ok (.iload 4, 2) := by decide +kernel
theorem dX3_line_50 : decode cX3_line 50 = .ok (.aload_n 0, 1) := by decide +kernel
theorem dX3_line_51 : decode cX3_line 51 = .ok (.getfield 31, 3) := by decide +kernel
theorem dX3_line_54 : decode cX3_line 54 = .ok (.arraylength, 1) := by decide +kernel
theorem dX3_line_55 : decode cX3_line 55 = .ok (.if_icmp .ge 20, 3) := by decide +kernel
theorem dX3_line_58 : decode cX3_line 58 = .ok (.aload_n 3, 1) := by decide +kernel
theorem dX3_line_59 : decode cX3_line 59 = .ok (.iload 4, 2) := by decide +kernel
theorem dX3_line_61 : decode cX3_line 61 = .ok (.aload_n 0, 1) := by decide +kernel
theorem dX3_line_62 : decode cX3_line 62 = .ok (.getfield 31, 3) := by decide +kernel
theorem dX3_line_65 : decode cX3_line 65 = .ok (.iload 4, 2) := by decide +kernel
theorem dX3_line_67 : decode cX3_line 67 = .ok (.iaload, 1) := by decide +kernel
theorem dX3_line_68 : decode cX3_line 68 = .ok (.iastore, 1) := by decide +kernel
theorem dX3_line_69 : decode cX3_line 69 = .ok (.iinc 4 1, 3) := by decide +kernel
theorem dX3_line_72 : decode cX3_line 72 = .ok (.goto (-24), 3) := by decide +kernel
theorem dX3_line_75 : decode cX3_line 75 = .ok (.aload_n 0, 1) := by decide +kernel
theorem dX3_line_76 : decode cX3_line 76 = .ok (.aload_n 3, 1) := by decide +kernel
theorem dX3_line_77 : decode cX3_line 77 = .ok (.putfield 31, 3) := by decide +kernel
theorem dX3_line_80 : decode cX3_line 80 = .ok (.aload_n 0, 1) := by decide +kernel
theorem dX3_line_81 : decode cX3_line 81 = .ok (.dup, 1) := by decide +kernel
theorem dX3_line_82 : decode cX3_line 82 = .ok (.getfield 92, 3) := by decide +kernel
theorem dX3_line_85 : decode cX3_line 85 = .ok (.dup_x1, 1) := by decide +kernel
theorem dX3_line_86 : decode cX3_line 86 = .ok (.iconst 1, 1) := by decide +kernel
theorem dX3_line_87 : decode cX3_line 87 = .ok (.iadd, 1) := by decide +kernel
theorem dX3_line_88 : decode cX3_line 88 = .ok (.putfield 92, 3) := by decide +kernel
theorem dX3_line_91 : decode cX3_line 91 = .ok (.istore_n 2, 1) := by decide +kernel
theorem dX3_line_92 : decode cX3_line 92 = .ok (.iconst 0, 1) := by decide +kernel
theorem dX3_line_93 : decode cX3_line 93 = .ok (.istore_n 3, 1) := by decide +kernel
theorem dX3_line_94 : decode cX3_line 94 = .ok (.iload_n 3, 1) := by decide +kernel
theorem dX3_line_95 : decode cX3_line 95 = .ok (.bipush 12, 2) := by decide +kernel
theorem dX3_line_97 : decode cX3_line 97 = .ok (.if_icmp .ge 25, 3) := by decide +kernel
theorem dX3_line_100 : decode cX3_line 100 = .ok (.aload_n 0, 1) := by decide +kernel
theorem dX3_line_101 : decode cX3_line 101 = .ok (.getfield 31, 3) := by decide +kernel
theorem dX3_line_104 : decode cX3_line 104 = .ok (.bipush 12, 2) := by decide +kernel
theorem dX3_line_106 : decode cX3_line 106 = .ok (.iload_n 2, 1) := by decide +kernel
theorem dX3_line_107 : decode cX3_line 107 = .ok (.imul, 1) := by decide +kernel
theorem dX3_line_108 : decode cX3_line 108 = .ok (.iload_n 3, 1) := by decide +kernel
theorem dX3_line_109 : decode cX3_line 109 = .ok (.iadd, 1) := by decide +kernel
theorem dX3_line_110 : decode cX3_line 110 = .ok (.aload_n 0, 1) := by decide +kernel
theorem dX3_line_111 : decode cX3_line 111 = .ok (.iload_n 3, 1) := by decide +kernel
theorem dX3_line_112 : decode cX3_line 112 = .ok (.invokevirtual 88, 3) := by decide +kernel
theorem dX3_line_115 : decode cX3_line 115 = .ok (.iastore, 1) := by decide +kernel
theorem dX3_line_116 : decode cX3_line 116 = .ok (.iinc 3 1, 3) := by decide +kernel
theorem dX3_line_119 : decode cX3_line 119 = .ok (.goto (-25), 3) := by decide +kernel
theorem dX3_line_122 : decode cX3_line 122 = .ok (.aload_n 0, 1) := by decide +kernel
theorem dX3_line_123 : decode cX3_line 123 = .ok (.getfield 28, 3) := by decide +kernel
theorem dX3_line_126 : decode cX3_line 126 = .ok (.iload_n 2, 1) := by decide +kernel
theorem dX3_line_127 : decode cX3_line 127 = .ok (.iconst 0, 1) := by decide +kernel
theorem dX3_line_128 : decode cX3_line 128 = .ok (.iload_n 1, 1) := by decide +kernel
theorem dX3_line_129 : decode cX3_line 129 = .ok (.i2l, 1) := by decide +kernel
theorem dX3_line_130 : decode cX3_line 130 = .ok (.invokevirtual 42, 3) := by decide +kernel
theorem dX3_line_133 : decode cX3_line 133 = .ok (.aload_n 0, 1) := by decide +kernel
theorem dX3_line_134 : decode cX3_line 134 = .ok (.iconst 0, 1) := by decide +kernel
theorem dX3_line_135 : decode cX3_line 135 = .ok (.putfield 82, 3) := by decide +kernel
theorem dX3_line_138 : decode cX3_line 138 = .ok (.aload_n 0, 1) := by decide +kernel
theorem dX3_line_139 : decode cX3_line 139 = .ok (.iload_n 2, 1) := by decide +kernel
theorem dX3_line_140 : decode cX3_line 140 = .ok (.invokevirtual 102, 3) := by decide +kernel
theorem dX3_line_143 : decode cX3_line 143 = .ok (.ireturn, 1) := by decide +kernel
set_option maxRecDepth 20000 in
theorem ggX3_read_X3_wordOfTape : GoodIn wsX3_read wsX3_wordOfTape := goodIn_r _ [11, 12, 13, 14, 15, 10, 16, 17, 18, 19, 20, 21, 22, 23, 24, 25, 1, 26, 27, 28, 29, 30, 31, 32, 33, 34, 35, 36] (by decide +kernel) (by decide +kernel)
set_option maxRecDepth 20000 in
theorem gX3_read_X3_wordOfTape : GoodIn wsX3_read (wsV RX3 98 RX3 yX3_wordOfTape wsX3_wordOfTape) := goodIn_app (goodIn_of _ (by decide +kernel)) ggX3_read_X3_wordOfTape
theorem dX3_read_0 : decode cX3_read 0 = .ok (.aload_n 0, 1) := by decide +kernel
theorem dX3_read_1 : decode cX3_read 1 = .ok (.invokevirtual 98, 3) := by decide +kernel
theorem dX3_read_4 : decode cX3_read 4 = .ok (.istore_n 2, 1) := by decide +kernel
theorem dX3_read_5 : decode cX3_read 5 = .ok (.iload_n 1, 1) := by decide +kernel
theorem dX3_read_6 : decode cX3_read 6 = .ok (.istore_n 3, 1) := by decide +kernel
theorem dX3_read_7 : decode cX3_read 7 = .ok (.aload_n 0, 1) := by decide +kernel
theorem dX3_read_8 : decode cX3_read 8 = .ok (.iconst 0, 1) := by decide +kernel
theorem dX3_read_9 : decode cX3_read 9 = .ok (.putfield 82, 3) := by decide +kernel
theorem dX3_read_12 : decode cX3_read 12 = .ok (.iload_n 2, 1) := by decide +kernel
theorem dX3_read_13 : decode cX3_read 13 = .ok (.ifCond .lt 7, 3) := by decide +kernel
theorem dX3_read_16 : decode cX3_read 16 = .ok (.iload_n 1, 1) := by decide +kernel
theorem dX3_read_17 : decode cX3_read 17 = .ok (.ifCond .ge 7, 3) := by decide +kernel
theorem dX3_read_20 : decode cX3_read 20 = .ok (.ldc2_w 54, 3) := by decide +kernel
theorem dX3_read_23 : decode cX3_read 23 = .ok (.lreturn, 1) := by decide +kernel
theorem dX3_read_24 : decode cX3_read 24 = .ok (.iconst 0, 1) := by decide +kernel
theorem dX3_read_25 : decode cX3_read 25 = .ok (.istore 4, 2) := by decide +kernel
theorem dX3_read_27 : decode cX3_read 27 = .ok (.iload 4, 2) := by decide +kernel
theorem dX3_read_29 : decode cX3_read 29 = .ok (.aload_n 0, 1) := by decide +kernel
theorem dX3_read_30 : decode cX3_read 30 = .ok (.getfield 28, 3) := by decide +kernel
theorem dX3_read_33 : decode cX3_read 33 = .ok (.getfield 46, 3) := by decide +kernel
theorem dX3_read_36 : decode cX3_read 36 = .ok (.if_icmp .ge 41, 3) := by decide +kernel
theorem dX3_read_39 : decode cX3_read 39 = .ok (.aload_n 0, 1) := by decide +kernel
theorem dX3_read_40 : decode cX3_read 40 = .ok (.getfield 28, 3) := by decide +kernel
theorem dX3_read_43 : decode cX3_read 43 = .ok (.getfield 66, 3) := by decide +kernel
theorem dX3_read_46 : decode cX3_read 46 = .ok (.iload 4, 2) := by decide +kernel
theorem dX3_read_48 : decode cX3_read 48 = .ok (.iaload, 1) := by decide +kernel
theorem dX3_read_49 : decode cX3_read 49 = .ok (.iload_n 2, 1) := by decide +kernel
theorem dX3_read_50 : decode cX3_read 50 = .ok (.if_icmp .ne 21, 3) := by decide +kernel
theorem dX3_read_53 : decode cX3_read 53 = .ok (.iload_n 3, 1) := by decide +kernel
theorem dX3_read_54 : decode cX3_read 54 = .ok (.iinc 3 (-1), 3) := by decide +kernel
theorem dX3_read_57 : decode cX3_read 57 = .ok (.ifCond .ne 14, 3) := by decide +kernel
theorem dX3_read_60 : decode cX3_read 60 = .ok (.aload_n 0, 1) := by decide +kernel
theorem dX3_read_61 : decode cX3_read 61 = .ok (.getfield 28, 3) := by decide +kernel
theorem dX3_read_64 : decode cX3_read 64 = .ok (.getfield 50, 3) := by decide +kernel
theorem dX3_read_67 : decode cX3_read 67 = .ok (.iload 4, 2) := by decide +kernel
theorem dX3_read_69 : decode cX3_read 69 = .ok (.laload, 1) := by decide +kernel
theorem dX3_read_70 : decode cX3_read 70 = .ok (.lreturn, 1) := by decide +kernel
theorem dX3_read_71 : decode cX3_read 71 = .ok (.iinc 4 1, 3) := by decide +kernel
theorem dX3_read_74 : decode cX3_read 74 = .ok (.goto (-47), 3) := by decide +kernel
theorem dX3_read_77 : decode cX3_read 77 = .ok (.ldc2_w 54, 3) := by decide +kernel
theorem dX3_read_80 : decode cX3_read 80 = .ok (.lreturn, 1) := by decide +kernel
set_option maxRecDepth 20000 in
theorem ggX3_next_X3_numbers : GoodIn wsX3_next wsX3_numbers := goodIn_r _ [8, 9, 10, 11, 29, 30, 31, 32, 33, 34, 35, 36, 37, 38, 39, 40, 41, 42] (by decide +kernel) (by decide +kernel)
set_option maxRecDepth 20000 in
theorem gX3_next_X3_numbers : GoodIn wsX3_next (wsV RX3 102 RX3 yX3_numbers wsX3_numbers) := goodIn_app (goodIn_of _ (by decide +kernel)) ggX3_next_X3_numbers
set_option maxRecDepth 20000 in
theorem ggX3_next_X3_against : GoodIn wsX3_next wsX3_against := goodIn_r _ [15, 16, 17, 18, 7, 19, 20, 21, 22, 23, 24, 2, 3, 29, 30, 31, 32, 33, 34, 35, 36, 37, 38] (by decide +kernel) (by decide +kernel)
set_option maxRecDepth 20000 in
theorem gX3_next_X3_against : GoodIn wsX3_next (wsV RX3 95 RX3 yX3_against wsX3_against) := goodIn_app (goodIn_of _ (by decide +kernel)) ggX3_next_X3_against
set_option maxRecDepth 20000 in
theorem ggX3_next_X3_before : GoodIn wsX3_next wsX3_before := goodIn_r _ [28, 16, 17, 18, 7, 19, 20, 29, 30, 31, 32, 33, 34, 35, 36, 37, 38] (by decide +kernel) (by decide +kernel)
set_option maxRecDepth 20000 in
theorem gX3_next_X3_before : GoodIn wsX3_next (wsV RX3 105 RX3 yX3_before wsX3_before) := goodIn_app (goodIn_of _ (by decide +kernel)) ggX3_next_X3_before
set_option maxRecDepth 20000 in
theorem ggX3_next_X3_signOf : GoodIn wsX3_next wsX3_signOf := goodIn_r _ [19, 20, 29, 30, 31, 32, 33, 34, 35, 36, 37, 38] (by decide +kernel) (by decide +kernel)
set_option maxRecDepth 20000 in
theorem gX3_next_X3_signOf : GoodIn wsX3_next (wsV RX3 85 RX3 yX3_signOf wsX3_signOf) := goodIn_app (goodIn_of _ (by decide +kernel)) ggX3_next_X3_signOf
theorem dX3_next_0 : decode cX3_next 0 = .ok (.iconst (-1), 1) := by decide +kernel
theorem dX3_next_1 : decode cX3_next 1 = .ok (.istore_n 1, 1) := by decide +kernel
theorem dX3_next_2 : decode cX3_next 2 = .ok (.iconst 0, 1) := by decide +kernel
theorem dX3_next_3 : decode cX3_next 3 = .ok (.istore_n 2, 1) := by decide +kernel
theorem dX3_next_4 : decode cX3_next 4 = .ok (.iload_n 2, 1) := by decide +kernel
theorem dX3_next_5 : decode cX3_next 5 = .ok (.aload_n 0, 1) := by decide +kernel
theorem dX3_next_6 : decode cX3_next 6 = .ok (.getfield 92, 3) := by decide +kernel
theorem dX3_next_9 : decode cX3_next 9 = .ok (.if_icmp .ge 40, 3) := by decide +kernel
theorem dX3_next_12 : decode cX3_next 12 = .ok (.aload_n 0, 1) := by decide +kernel
theorem dX3_next_13 : decode cX3_next 13 = .ok (.iload_n 2, 1) := by decide +kernel
theorem dX3_next_14 : decode cX3_next 14 = .ok (.invokevirtual 102, 3) := by decide +kernel
theorem dX3_next_17 : decode cX3_next 17 = .ok (.ifCond .le 26, 3) := by decide +kernel
theorem dX3_next_20 : decode cX3_next 20 = .ok (.aload_n 0, 1) := by decide +kernel
theorem dX3_next_21 : decode cX3_next 21 = .ok (.iload_n 2, 1) := by decide +kernel
theorem dX3_next_22 : decode cX3_next 22 = .ok (.invokevirtual 95, 3) := by decide +kernel
theorem dX3_next_25 : decode cX3_next 25 = .ok (.ifCond .le 18, 3) := by decide +kernel
theorem dX3_next_28 : decode cX3_next 28 = .ok (.iload_n 1, 1) := by decide +kernel
theorem dX3_next_29 : decode cX3_next 29 = .ok (.ifCond .lt 12, 3) := by decide +kernel
theorem dX3_next_32 : decode cX3_next 32 = .ok (.aload_n 0, 1) := by decide +kernel
theorem dX3_next_33 : decode cX3_next 33 = .ok (.iload_n 2, 1) := by decide +kernel
theorem dX3_next_34 : decode cX3_next 34 = .ok (.iload_n 1, 1) := by decide +kernel
theorem dX3_next_35 : decode cX3_next 35 = .ok (.invokevirtual 105, 3) := by decide +kernel
theorem dX3_next_38 : decode cX3_next 38 = .ok (.ifCond .eq 5, 3) := by decide +kernel
theorem dX3_next_41 : decode cX3_next 41 = .ok (.iload_n 2, 1) := by decide +kernel
theorem dX3_next_42 : decode cX3_next 42 = .ok (.istore_n 1, 1) := by decide +kernel
theorem dX3_next_43 : decode cX3_next 43 = .ok (.iinc 2 1, 3) := by decide +kernel
theorem dX3_next_46 : decode cX3_next 46 = .ok (.goto (-42), 3) := by decide +kernel
theorem dX3_next_49 : decode cX3_next 49 = .ok (.aload_n 0, 1) := by decide +kernel
theorem dX3_next_50 : decode cX3_next 50 = .ok (.iconst 0, 1) := by decide +kernel
theorem dX3_next_51 : decode cX3_next 51 = .ok (.putfield 82, 3) := by decide +kernel
theorem dX3_next_54 : decode cX3_next 54 = .ok (.iload_n 1, 1) := by decide +kernel
theorem dX3_next_55 : decode cX3_next 55 = .ok (.ifCond .lt 55, 3) := by decide +kernel
theorem dX3_next_58 : decode cX3_next 58 = .ok (.aload_n 0, 1) := by decide +kernel
theorem dX3_next_59 : decode cX3_next 59 = .ok (.getfield 82, 3) := by decide +kernel
theorem dX3_next_62 : decode cX3_next 62 = .ok (.bipush 12, 2) := by decide +kernel
theorem dX3_next_64 : decode cX3_next 64 = .ok (.if_icmp .ge 46, 3) := by decide +kernel
theorem dX3_next_67 : decode cX3_next 67 = .ok (.aload_n 0, 1) := by decide +kernel
theorem dX3_next_68 : decode cX3_next 68 = .ok (.iload_n 1, 1) := by decide +kernel
theorem dX3_next_69 : decode cX3_next 69 = .ok (.aload_n 0, 1) := by decide +kernel
theorem dX3_next_70 : decode cX3_next 70 = .ok (.getfield 82, 3) := by decide +kernel
theorem dX3_next_73 : decode cX3_next 73 = .ok (.invokevirtual 85, 3) := by decide +kernel
theorem dX3_next_76 : decode cX3_next 76 = .ok (.ifCond .eq 34, 3) := by decide +kernel
theorem dX3_next_79 : decode cX3_next 79 = .ok (.aload_n 0, 1) := by decide +kernel
theorem dX3_next_80 : decode cX3_next 80 = .ok (.getfield 35, 3) := by decide +kernel
theorem dX3_next_83 : decode cX3_next 83 = .ok (.aload_n 0, 1) := by decide +kernel
theorem dX3_next_84 : decode cX3_next 84 = .ok (.getfield 82, 3) := by decide +kernel
theorem dX3_next_87 : decode cX3_next 87 = .ok (.aload_n 0, 1) := by decide +kernel
theorem dX3_next_88 : decode cX3_next 88 = .ok (.iload_n 1, 1) := by decide +kernel
theorem dX3_next_89 : decode cX3_next 89 = .ok (.aload_n 0, 1) := by decide +kernel
theorem dX3_next_90 : decode cX3_next 90 = .ok (.getfield 82, 3) := by decide +kernel
theorem dX3_next_93 : decode cX3_next 93 = .ok (.invokevirtual 85, 3) := by decide +kernel
theorem dX3_next_96 : decode cX3_next 96 = .ok (.iastore, 1) := by decide +kernel
theorem dX3_next_97 : decode cX3_next 97 = .ok (.aload_n 0, 1) := by decide +kernel
theorem dX3_next_98 : decode cX3_next 98 = .ok (.dup, 1) := by decide +kernel
theorem dX3_next_99 : decode cX3_next 99 = .ok (.getfield 82, 3) := by decide +kernel
theorem dX3_next_102 : decode cX3_next 102 = .ok (.iconst 1, 1) := by decide +kernel
theorem dX3_next_103 : decode cX3_next 103 = .ok (.iadd, 1) := by decide +kernel
theorem dX3_next_104 : decode cX3_next 104 = .ok (.putfield 82, 3) := by decide +kernel
theorem dX3_next_107 : decode cX3_next 107 = .ok (.goto (-53), 3) := by decide +kernel
theorem dX3_next_110 : decode cX3_next 110 = .ok (.aload_n 0, 1) := by decide +kernel
theorem dX3_next_111 : decode cX3_next 111 = .ok (.getfield 82, 3) := by decide +kernel
theorem dX3_next_114 : decode cX3_next 114 = .ok (.ireturn, 1) := by decide +kernel
set_option maxRecDepth 20000 in
theorem ggX3_before_X3_signOf : GoodIn wsX3_before wsX3_signOf := goodIn_r _ [5, 6, 7, 8, 9, 10, 11, 12, 13, 14, 15, 16] (by decide +kernel) (by decide +kernel)
set_option maxRecDepth 20000 in
theorem gX3_before_X3_signOf : GoodIn wsX3_before (wsV RX3 85 RX3 yX3_signOf wsX3_signOf) := goodIn_app (goodIn_of _ (by decide +kernel)) ggX3_before_X3_signOf
theorem dX3_before_0 : decode cX3_before 0 = .ok (.iconst 0, 1) := by decide +kernel
theorem dX3_before_1 : decode cX3_before 1 = .ok (.istore_n 3, 1) := by decide +kernel
theorem dX3_before_2 : decode cX3_before 2 = .ok (.iload_n 3, 1) := by decide +kernel
theorem dX3_before_3 : decode cX3_before 3 = .ok (.bipush 12, 2) := by decide +kernel
theorem dX3_before_5 : decode cX3_before 5 = .ok (.if_icmp .ge 45, 3) := by decide +kernel
theorem dX3_before_8 : decode cX3_before 8 = .ok (.aload_n 0, 1) := by decide +kernel
theorem dX3_before_9 : decode cX3_before 9 = .ok (.iload_n 1, 1) := by decide +kernel
theorem dX3_before_10 : decode cX3_before 10 = .ok (.iload_n 3, 1) := by decide +kernel
theorem dX3_before_11 : decode cX3_before 11 = .ok (.invokevirtual 85, 3) := by decide +kernel
theorem dX3_before_14 : decode cX3_before 14 = .ok (.aload_n 0, 1) := by decide +kernel
theorem dX3_before_15 : decode cX3_before 15 = .ok (.iload_n 2, 1) := by decide +kernel
theorem dX3_before_16 : decode cX3_before 16 = .ok (.iload_n 3, 1) := by decide +kernel
theorem dX3_before_17 : decode cX3_before 17 = .ok (.invokevirtual 85, 3) := by decide +kernel
theorem dX3_before_20 : decode cX3_before 20 = .ok (.if_icmp .eq 24, 3) := by decide +kernel
theorem dX3_before_23 : decode cX3_before 23 = .ok (.aload_n 0, 1) := by decide +kernel
theorem dX3_before_24 : decode cX3_before 24 = .ok (.iload_n 1, 1) := by decide +kernel
theorem dX3_before_25 : decode cX3_before 25 = .ok (.iload_n 3, 1) := by decide +kernel
theorem dX3_before_26 : decode cX3_before 26 = .ok (.invokevirtual 85, 3) := by decide +kernel
theorem dX3_before_29 : decode cX3_before 29 = .ok (.aload_n 0, 1) := by decide +kernel
theorem dX3_before_30 : decode cX3_before 30 = .ok (.iload_n 2, 1) := by decide +kernel
theorem dX3_before_31 : decode cX3_before 31 = .ok (.iload_n 3, 1) := by decide +kernel
theorem dX3_before_32 : decode cX3_before 32 = .ok (.invokevirtual 85, 3) := by decide +kernel
theorem dX3_before_35 : decode cX3_before 35 = .ok (.if_icmp .ge 7, 3) := by decide +kernel
theorem dX3_before_38 : decode cX3_before 38 = .ok (.iconst 1, 1) := by decide +kernel
theorem dX3_before_39 : decode cX3_before 39 = .ok (.goto 4, 3) := by decide +kernel
theorem dX3_before_42 : decode cX3_before 42 = .ok (.iconst 0, 1) := by decide +kernel
theorem dX3_before_43 : decode cX3_before 43 = .ok (.ireturn, 1) := by decide +kernel
theorem dX3_before_44 : decode cX3_before 44 = .ok (.iinc 3 1, 3) := by decide +kernel
theorem dX3_before_47 : decode cX3_before 47 = .ok (.goto (-45), 3) := by decide +kernel
theorem dX3_before_50 : decode cX3_before 50 = .ok (.iconst 0, 1) := by decide +kernel
theorem dX3_before_51 : decode cX3_before 51 = .ok (.ireturn, 1) := by decide +kernel
theorem dX3_letter_0 : decode cX3_letter 0 = .ok (.iload_n 1, 1) := by decide +kernel
theorem dX3_letter_1 : decode cX3_letter 1 = .ok (.ifCond .lt 11, 3) := by decide +kernel
theorem dX3_letter_4 : decode cX3_letter 4 = .ok (.iload_n 1, 1) := by decide +kernel
theorem dX3_letter_5 : decode cX3_letter 5 = .ok (.aload_n 0, 1) := by decide +kernel
theorem dX3_letter_6 : decode cX3_letter 6 = .ok (.getfield 82, 3) := by decide +kernel
theorem dX3_letter_9 : decode cX3_letter 9 = .ok (.if_icmp .lt 7, 3) := by decide +kernel
theorem dX3_letter_12 : decode cX3_letter 12 = .ok (.iconst (-1), 1) := by decide +kernel
theorem dX3_letter_13 : decode cX3_letter 13 = .ok (.goto 9, 3) := by decide +kernel
theorem dX3_letter_16 : decode cX3_letter 16 = .ok (.aload_n 0, 1) := by decide +kernel
theorem dX3_letter_17 : decode cX3_letter 17 = .ok (.getfield 35, 3) := by decide +kernel
theorem dX3_letter_20 : decode cX3_letter 20 = .ok (.iload_n 1, 1) := by decide +kernel
theorem dX3_letter_21 : decode cX3_letter 21 = .ok (.iaload, 1) := by decide +kernel
theorem dX3_letter_22 : decode cX3_letter 22 = .ok (.ireturn, 1) := by decide +kernel
set_option maxRecDepth 20000 in
theorem ggX3_forget_X3_wordOfTape : GoodIn wsX3_forget wsX3_wordOfTape := goodIn_r _ [9, 10, 11, 12, 13, 8, 14, 15, 16, 17, 18, 19, 20, 21, 22, 23, 1, 24, 38, 39, 40, 41, 42, 43, 44, 45, 46, 47] (by decide +kernel) (by decide +kernel)
set_option maxRecDepth 20000 in
theorem gX3_forget_X3_wordOfTape : GoodIn wsX3_forget (wsV RX3 98 RX3 yX3_wordOfTape wsX3_wordOfTape) := goodIn_app (goodIn_of _ (by decide +kernel)) ggX3_forget_X3_wordOfTape
set_option maxRecDepth 20000 in
theorem ggX3_forget_X3_numbers : GoodIn wsX3_forget wsX3_numbers := goodIn_r _ [28, 2, 3, 4, 38, 39, 40, 41, 42, 43, 44, 45, 46, 47, 48, 49, 50, 51] (by decide +kernel) (by decide +kernel)
set_option maxRecDepth 20000 in
theorem gX3_forget_X3_numbers : GoodIn wsX3_forget (wsV RX3 102 RX3 yX3_numbers wsX3_numbers) := goodIn_app (goodIn_of _ (by decide +kernel)) ggX3_forget_X3_numbers
set_option maxRecDepth 20000 in
theorem ggX3_forget_X2_remove : GoodIn wsX3_forget wsX2_remove := goodIn_r _ [33, 34, 35, 36, 37, 48, 49, 50, 51] (by decide +kernel) (by decide +kernel)
set_option maxRecDepth 20000 in
theorem gX3_forget_X2_remove : GoodIn wsX3_forget (wsV RX3 60 RX2 yX2_remove wsX2_remove) := goodIn_app (goodIn_of _ (by decide +kernel)) ggX3_forget_X2_remove
theorem dX3_forget_0 : decode cX3_forget 0 = .ok (.aload_n 0, 1) := by decide +kernel
theorem dX3_forget_1 : decode cX3_forget 1 = .ok (.invokevirtual 98, 3) := by decide +kernel
theorem dX3_forget_4 : decode cX3_forget 4 = .ok (.istore_n 1, 1) := by decide +kernel
theorem dX3_forget_5 : decode cX3_forget 5 = .ok (.iload_n 1, 1) := by decide +kernel
theorem dX3_forget_6 : decode cX3_forget 6 = .ok (.ifCond .ge 7, 3) := by decide +kernel
theorem dX3_forget_9 : decode cX3_forget 9 = .ok (.iconst 0, 1) := by decide +kernel
theorem dX3_forget_10 : decode cX3_forget 10 = .ok (.goto 8, 3) := by decide +kernel
theorem dX3_forget_13 : decode cX3_forget 13 = .ok (.aload_n 0, 1) := by decide +kernel
theorem dX3_forget_14 : decode cX3_forget 14 = .ok (.iload_n 1, 1) := by decide +kernel
theorem dX3_forget_15 : decode cX3_forget 15 = .ok (.invokevirtual 102, 3) := by decide +kernel
theorem dX3_forget_18 : decode cX3_forget 18 = .ok (.istore_n 2, 1) := by decide +kernel
theorem dX3_forget_19 : decode cX3_forget 19 = .ok (.aload_n 0, 1) := by decide +kernel
theorem dX3_forget_20 : decode cX3_forget 20 = .ok (.iconst 0, 1) := by decide +kernel
theorem dX3_forget_21 : decode cX3_forget 21 = .ok (.putfield 82, 3) := by decide +kernel
theorem dX3_forget_24 : decode cX3_forget 24 = .ok (.aload_n 0, 1) := by decide +kernel
theorem dX3_forget_25 : decode cX3_forget 25 = .ok (.getfield 28, 3) := by decide +kernel
theorem dX3_forget_28 : decode cX3_forget 28 = .ok (.getfield 46, 3) := by decide +kernel
theorem dX3_forget_31 : decode cX3_forget 31 = .ok (.iconst 1, 1) := by decide +kernel
theorem dX3_forget_32 : decode cX3_forget 32 = .ok (.isub, 1) := by decide +kernel
theorem dX3_forget_33 : decode cX3_forget 33 = .ok (.istore_n 3, 1) := by decide +kernel
theorem dX3_forget_34 : decode cX3_forget 34 = .ok (.iload_n 3, 1) := by decide +kernel
theorem dX3_forget_35 : decode cX3_forget 35 = .ok (.ifCond .lt 34, 3) := by decide +kernel
theorem dX3_forget_38 : decode cX3_forget 38 = .ok (.iload_n 1, 1) := by decide +kernel
theorem dX3_forget_39 : decode cX3_forget 39 = .ok (.ifCond .lt 24, 3) := by decide +kernel
theorem dX3_forget_42 : decode cX3_forget 42 = .ok (.aload_n 0, 1) := by decide +kernel
theorem dX3_forget_43 : decode cX3_forget 43 = .ok (.getfield 28, 3) := by decide +kernel
theorem dX3_forget_46 : decode cX3_forget 46 = .ok (.getfield 66, 3) := by decide +kernel
theorem dX3_forget_49 : decode cX3_forget 49 = .ok (.iload_n 3, 1) := by decide +kernel
theorem dX3_forget_50 : decode cX3_forget 50 = .ok (.iaload, 1) := by decide +kernel
theorem dX3_forget_51 : decode cX3_forget 51 = .ok (.iload_n 1, 1) := by decide +kernel
theorem dX3_forget_52 : decode cX3_forget 52 = .ok (.if_icmp .ne 11, 3) := by decide +kernel
theorem dX3_forget_55 : decode cX3_forget 55 = .ok (.aload_n 0, 1) := by decide +kernel
theorem dX3_forget_56 : decode cX3_forget 56 = .ok (.getfield 28, 3) := by decide +kernel
theorem dX3_forget_59 : decode cX3_forget 59 = .ok (.iload_n 3, 1) := by decide +kernel
theorem dX3_forget_60 : decode cX3_forget 60 = .ok (.invokevirtual 60, 3) := by decide +kernel
theorem dX3_forget_63 : decode cX3_forget 63 = .ok (.iinc 3 (-1), 3) := by decide +kernel
theorem dX3_forget_66 : decode cX3_forget 66 = .ok (.goto (-32), 3) := by decide +kernel
theorem dX3_forget_69 : decode cX3_forget 69 = .ok (.iload_n 2, 1) := by decide +kernel
theorem dX3_forget_70 : decode cX3_forget 70 = .ok (.ifCond .ne 7, 3) := by decide +kernel
theorem dX3_forget_73 : decode cX3_forget 73 = .ok (.iconst (-1), 1) := by decide +kernel
theorem dX3_forget_74 : decode cX3_forget 74 = .ok (.goto 4, 3) := by decide +kernel
theorem dX3_forget_77 : decode cX3_forget 77 = .ok (.iload_n 2, 1) := by decide +kernel
theorem dX3_forget_78 : decode cX3_forget 78 = .ok (.ireturn, 1) := by decide +kernel
set_option maxRecDepth 20000 in
theorem ggX3_mark_X2_find : GoodIn wsX3_mark wsX2_find := goodIn_r _ [7, 8, 9, 10, 32, 33, 34, 35] (by decide +kernel) (by decide +kernel)
set_option maxRecDepth 20000 in
theorem gX3_mark_X2_find : GoodIn wsX3_mark (wsV RX3 38 RX2 yX2_find wsX2_find) := goodIn_app (goodIn_of _ (by decide +kernel)) ggX3_mark_X2_find
set_option maxRecDepth 20000 in
theorem ggX3_mark_X2_add : GoodIn wsX3_mark wsX2_add := goodIn_r _ [14, 8, 9, 15, 16, 10, 17, 32, 33, 34, 35] (by decide +kernel) (by decide +kernel)
set_option maxRecDepth 20000 in
theorem gX3_mark_X2_add : GoodIn wsX3_mark (wsV RX3 42 RX2 yX2_add wsX2_add) := goodIn_app (goodIn_of _ (by decide +kernel)) ggX3_mark_X2_add
set_option maxRecDepth 20000 in
theorem ggX3_mark_X2_remove : GoodIn wsX3_mark wsX2_remove := goodIn_r _ [21, 8, 9, 10, 17, 32, 33, 34, 35] (by decide +kernel) (by decide +kernel)
set_option maxRecDepth 20000 in
theorem gX3_mark_X2_remove : GoodIn wsX3_mark (wsV RX3 60 RX2 yX2_remove wsX2_remove) := goodIn_app (goodIn_of _ (by decide +kernel)) ggX3_mark_X2_remove
theorem dX3_mark_0 : decode cX3_mark 0 = .ok (.aload_n 0, 1) := by decide +kernel
theorem dX3_mark_1 : decode cX3_mark 1 = .ok (.getfield 22, 3) := by decide +kernel
theorem dX3_mark_4 : decode cX3_mark 4 = .ok (.iload_n 1, 1) := by decide +kernel
theorem dX3_mark_5 : decode cX3_mark 5 = .ok (.iload_n 2, 1) := by decide +kernel
theorem dX3_mark_6 : decode cX3_mark 6 = .ok (.invokevirtual 38, 3) := by decide +kernel
theorem dX3_mark_9 : decode cX3_mark 9 = .ok (.istore_n 3, 1) := by decide +kernel
theorem dX3_mark_10 : decode cX3_mark 10 = .ok (.iload_n 3, 1) := by decide +kernel
theorem dX3_mark_11 : decode cX3_mark 11 = .ok (.ifCond .ge 16, 3) := by decide +kernel
theorem dX3_mark_14 : decode cX3_mark 14 = .ok (.aload_n 0, 1) := by decide +kernel
theorem dX3_mark_15 : decode cX3_mark 15 = .ok (.getfield 22, 3) := by decide +kernel
theorem dX3_mark_18 : decode cX3_mark 18 = .ok (.iload_n 1, 1) := by decide +kernel
theorem dX3_mark_19 : decode cX3_mark 19 = .ok (.iload_n 2, 1) := by decide +kernel
theorem dX3_mark_20 : decode cX3_mark 20 = .ok (.lconst 0, 1) := by decide +kernel
theorem dX3_mark_21 : decode cX3_mark 21 = .ok (.invokevirtual 42, 3) := by decide +kernel
theorem dX3_mark_24 : decode cX3_mark 24 = .ok (.goto 11, 3) := by decide +kernel
theorem dX3_mark_27 : decode cX3_mark 27 = .ok (.aload_n 0, 1) := by decide +kernel
theorem dX3_mark_28 : decode cX3_mark 28 = .ok (.getfield 22, 3) := by decide +kernel
theorem dX3_mark_31 : decode cX3_mark 31 = .ok (.iload_n 3, 1) := by decide +kernel
theorem dX3_mark_32 : decode cX3_mark 32 = .ok (.invokevirtual 60, 3) := by decide +kernel
theorem dX3_mark_35 : decode cX3_mark 35 = .ok (.aload_n 0, 1) := by decide +kernel
theorem dX3_mark_36 : decode cX3_mark 36 = .ok (.getfield 22, 3) := by decide +kernel
theorem dX3_mark_39 : decode cX3_mark 39 = .ok (.getfield 46, 3) := by decide +kernel
theorem dX3_mark_42 : decode cX3_mark 42 = .ok (.ireturn, 1) := by decide +kernel
set_option maxRecDepth 20000 in
theorem ggX3_around_X2_find : GoodIn wsX3_around wsX2_find := goodIn_r _ [6, 7, 8, 9, 20, 21, 22, 23] (by decide +kernel) (by decide +kernel)
set_option maxRecDepth 20000 in
theorem gX3_around_X2_find : GoodIn wsX3_around (wsV RX3 38 RX2 yX2_find wsX2_find) := goodIn_app (goodIn_of _ (by decide +kernel)) ggX3_around_X2_find
theorem dX3_around_0 : decode cX3_around 0 = .ok (.iconst 0, 1) := by decide +kernel
theorem dX3_around_1 : decode cX3_around 1 = .ok (.istore_n 3, 1) := by decide +kernel
theorem dX3_around_2 : decode cX3_around 2 = .ok (.iconst (-1), 1) := by decide +kernel
theorem dX3_around_3 : decode cX3_around 3 = .ok (.istore 4, 2) := by decide +kernel
theorem dX3_around_5 : decode cX3_around 5 = .ok (.iload 4, 2) := by decide +kernel
theorem dX3_around_7 : decode cX3_around 7 = .ok (.iconst 2, 1) := by decide +kernel
theorem dX3_around_8 : decode cX3_around 8 = .ok (.if_icmp .ge 55, 3) := by decide +kernel
theorem dX3_around_11 : decode cX3_around 11 = .ok (.iconst (-1), 1) := by decide +kernel
theorem dX3_around_12 : decode cX3_around 12 = .ok (.istore 5, 2) := by decide +kernel
theorem dX3_around_14 : decode cX3_around 14 = .ok (.iload 5, 2) := by decide +kernel
theorem dX3_around_16 : decode cX3_around 16 = .ok (.iconst 2, 1) := by decide +kernel
theorem dX3_around_17 : decode cX3_around 17 = .ok (.if_icmp .ge 40, 3) := by decide +kernel
theorem dX3_around_20 : decode cX3_around 20 = .ok (.iload 4, 2) := by decide +kernel
theorem dX3_around_22 : decode cX3_around 22 = .ok (.ifCond .ne 8, 3) := by decide +kernel
theorem dX3_around_25 : decode cX3_around 25 = .ok (.iload 5, 2) := by decide +kernel
theorem dX3_around_27 : decode cX3_around 27 = .ok (.ifCond .eq 24, 3) := by decide +kernel
theorem dX3_around_30 : decode cX3_around 30 = .ok (.aload_n 0, 1) := by decide +kernel
theorem dX3_around_31 : decode cX3_around 31 = .ok (.getfield 22, 3) := by decide +kernel
theorem dX3_around_34 : decode cX3_around 34 = .ok (.iload_n 1, 1) := by decide +kernel
theorem dX3_around_35 : decode cX3_around 35 = .ok (.iload 4, 2) := by decide +kernel
theorem dX3_around_37 : decode cX3_around 37 = .ok (.iadd, 1) := by decide +kernel
theorem dX3_around_38 : decode cX3_around 38 = .ok (.iload_n 2, 1) := by decide +kernel
theorem dX3_around_39 : decode cX3_around 39 = .ok (.iload 5, 2) := by decide +kernel
theorem dX3_around_41 : decode cX3_around 41 = .ok (.iadd, 1) := by decide +kernel
theorem dX3_around_42 : decode cX3_around 42 = .ok (.invokevirtual 38, 3) := by decide +kernel
theorem dX3_around_45 : decode cX3_around 45 = .ok (.ifCond .lt 6, 3) := by decide +kernel
theorem dX3_around_48 : decode cX3_around 48 = .ok (.iinc 3 1, 3) := by decide +kernel
theorem dX3_around_51 : decode cX3_around 51 = .ok (.iinc 5 1, 3) := by decide +kernel
theorem dX3_around_54 : decode cX3_around 54 = .ok (.goto (-40), 3) := by decide +kernel
theorem dX3_around_57 : decode cX3_around 57 = .ok (.iinc 4 1, 3) := by decide +kernel
theorem dX3_around_60 : decode cX3_around 60 = .ok (.goto (-55), 3) := by decide +kernel
theorem dX3_around_63 : decode cX3_around 63 = .ok (.iload_n 3, 1) := by decide +kernel
theorem dX3_around_64 : decode cX3_around 64 = .ok (.ireturn, 1) := by decide +kernel
set_option maxRecDepth 20000 in
theorem ggX3_step_X2_init : GoodIn wsX3_step wsX2_init := goodIn_r _ [9, 10, 11, 12, 13, 14, 15, 16, 17, 42, 43, 44, 45] (by decide +kernel) (by decide +kernel)
set_option maxRecDepth 20000 in
theorem gX3_step_X2_init_n9 : GoodIn wsX3_step (wsX2_init) := ggX3_step_X2_init
set_option maxRecDepth 20000 in
theorem ggX3_step_X3_around : GoodIn wsX3_step wsX3_around := goodIn_r _ [22, 1, 23, 24, 25, 5, 26, 27, 14, 15, 32, 33, 34, 35, 36, 37, 38, 39, 40, 41, 42, 43, 44, 45] (by decide +kernel) (by decide +kernel)
set_option maxRecDepth 20000 in
theorem gX3_step_X3_around : GoodIn wsX3_step (wsV RX3 109 RX3 yX3_around wsX3_around) := goodIn_app (goodIn_of _ (by decide +kernel)) ggX3_step_X3_around
set_option maxRecDepth 20000 in
theorem ggX3_step_X2_find : GoodIn wsX3_step wsX2_find := goodIn_r _ [26, 27, 14, 15, 42, 43, 44, 45] (by decide +kernel) (by decide +kernel)
set_option maxRecDepth 20000 in
theorem gX3_step_X2_find : GoodIn wsX3_step (wsV RX3 38 RX2 yX2_find wsX2_find) := goodIn_app (goodIn_of _ (by decide +kernel)) ggX3_step_X2_find
set_option maxRecDepth 20000 in
theorem ggX3_step_X2_add : GoodIn wsX3_step wsX2_add := goodIn_r _ [31, 27, 14, 13, 16, 15, 17, 42, 43, 44, 45] (by decide +kernel) (by decide +kernel)
set_option maxRecDepth 20000 in
theorem gX3_step_X2_add : GoodIn wsX3_step (wsV RX3 42 RX2 yX2_add wsX2_add) := goodIn_app (goodIn_of _ (by decide +kernel)) ggX3_step_X2_add
theorem dX3_step_0 : decode cX3_step 0 = .ok (.aload_n 0, 1) := by decide +kernel
theorem dX3_step_1 : decode cX3_step 1 = .ok (.getfield 22, 3) := by decide +kernel
theorem dX3_step_4 : decode cX3_step 4 = .ok (.getfield 46, 3) := by decide +kernel
theorem dX3_step_7 : decode cX3_step 7 = .ok (.bipush 60, 2) := by decide +kernel
theorem dX3_step_9 : decode cX3_step 9 = .ok (.if_icmp .le 5, 3) := by decide +kernel
theorem dX3_step_12 : decode cX3_step 12 = .ok (.iconst (-1), 1) := by decide +kernel
theorem dX3_step_13 : decode cX3_step 13 = .ok (.ireturn, 1) := by decide +kernel
theorem dX3_step_14 : decode cX3_step 14 = .ok (.new 7, 3) := by decide +kernel
theorem dX3_step_17 : decode cX3_step 17 = .ok (.dup, 1) := by decide +kernel
theorem dX3_step_18 : decode cX3_step 18 = .ok (.invokespecial 9, 3) := by decide +kernel
theorem dX3_step_21 : decode cX3_step 21 = .ok (.astore_n 1, 1) := by decide +kernel
theorem dX3_step_22 : decode cX3_step 22 = .ok (.iconst 0, 1) := by decide +kernel
theorem dX3_step_23 : decode cX3_step 23 = .ok (.istore_n 2, 1) := by decide +kernel
theorem dX3_step_24 : decode cX3_step 24 = .ok (.iload_n 2, 1) := by decide +kernel
theorem dX3_step_25 : decode cX3_step 25 = .ok (.aload_n 0, 1) := by decide +kernel
theorem dX3_step_26 : decode cX3_step 26 = .ok (.getfield 22, 3) := by decide +kernel
theorem dX3_step_29 : decode cX3_step 29 = .ok (.getfield 46, 3) := by decide +kernel
theorem dX3_step_32 : decode cX3_step 32 = .ok (.if_icmp .ge 120, 3) := by decide +kernel
theorem dX3_step_35 : decode cX3_step 35 = .ok (.iconst (-1), 1) := by decide +kernel
theorem dX3_step_36 : decode cX3_step 36 = .ok (.istore_n 3, 1) := by decide +kernel
theorem dX3_step_37 : decode cX3_step 37 = .ok (.iload_n 3, 1) := by decide +kernel
theorem dX3_step_38 : decode cX3_step 38 = .ok (.iconst 2, 1) := by decide +kernel
theorem dX3_step_39 : decode cX3_step 39 = .ok (.if_icmp .ge 107, 3) := by decide +kernel
theorem dX3_step_42 : decode cX3_step 42 = .ok (.iconst (-1), 1) := by decide +kernel
theorem dX3_step_43 : decode cX3_step 43 = .ok (.istore 4, 2) := by decide +kernel
theorem dX3_step_45 : decode cX3_step 45 = .ok (.iload 4, 2) := by decide +kernel
theorem dX3_step_47 : decode cX3_step 47 = .ok (.iconst 2, 1) := by decide +kernel
theorem dX3_step_48 : decode cX3_step 48 = .ok (.if_icmp .ge 92, 3) := by decide +kernel
theorem dX3_step_51 : decode cX3_step 51 = .ok (.aload_n 0, 1) := by decide +kernel
theorem dX3_step_52 : decode cX3_step 52 = .ok (.getfield 22, 3) := by decide +kernel
theorem dX3_step_55 : decode cX3_step 55 = .ok (.getfield 66, 3) := by decide +kernel
theorem dX3_step_58 : decode cX3_step 58 = .ok (.iload_n 2, 1) := by decide +kernel
theorem dX3_step_59 : decode cX3_step 59 = .ok (.iaload, 1) := by decide +kernel
theorem dX3_step_60 : decode cX3_step 60 = .ok (.iload_n 3, 1) := by decide +kernel
theorem dX3_step_61 : decode cX3_step 61 = .ok (.iadd, 1) := by decide +kernel
theorem dX3_step_62 : decode cX3_step 62 = .ok (.istore 5, 2) := by decide +kernel
theorem dX3_step_64 : decode cX3_step 64 = .ok (.aload_n 0, 1) := by decide +kernel
theorem dX3_step_65 : decode cX3_step 65 = .ok (.getfield 22, 3) := by decide +kernel
theorem dX3_step_68 : decode cX3_step 68 = .ok (.getfield 69, 3) := by decide +kernel
theorem dX3_step_71 : decode cX3_step 71 = .ok (.iload_n 2, 1) := by decide +kernel
theorem dX3_step_72 : decode cX3_step 72 = .ok (.iaload, 1) := by decide +kernel
theorem dX3_step_73 : decode cX3_step 73 = .ok (.iload 4, 2) := by decide +kernel
theorem dX3_step_75 : decode cX3_step 75 = .ok (.iadd, 1) := by decide +kernel
theorem dX3_step_76 : decode cX3_step 76 = .ok (.istore 6, 2) := by decide +kernel
theorem dX3_step_78 : decode cX3_step 78 = .ok (.aload_n 0, 1) := by decide +kernel
theorem dX3_step_79 : decode cX3_step 79 = .ok (.iload 5, 2) := by decide +kernel
theorem dX3_step_81 : decode cX3_step 81 = .ok (.iload 6, 2) := by decide +kernel
theorem dX3_step_83 : decode cX3_step 83 = .ok (.invokevirtual 109, 3) := by decide +kernel
theorem dX3_step_86 : decode cX3_step 86 = .ok (.istore 7, 2) := by decide +kernel
theorem dX3_step_88 : decode cX3_step 88 = .ok (.iload 7, 2) := by decide +kernel
theorem dX3_step_90 : decode cX3_step 90 = .ok (.iconst 3, 1) := by decide +kernel
theorem dX3_step_91 : decode cX3_step 91 = .ok (.if_icmp .eq 23, 3) := by decide +kernel
theorem dX3_step_94 : decode cX3_step 94 = .ok (.iload 7, 2) := by decide +kernel
theorem dX3_step_96 : decode cX3_step 96 = .ok (.iconst 2, 1) := by decide +kernel
theorem dX3_step_97 : decode cX3_step 97 = .ok (.if_icmp .ne 37, 3) := by decide +kernel
theorem dX3_step_100 : decode cX3_step 100 = .ok (.aload_n 0, 1) := by decide +kernel
theorem dX3_step_101 : decode cX3_step 101 = .ok (.getfield 22, 3) := by decide +kernel
theorem dX3_step_104 : decode cX3_step 104 = .ok (.iload 5, 2) := by decide +kernel
theorem dX3_step_106 : decode cX3_step 106 = .ok (.iload 6, 2) := by decide +kernel
theorem dX3_step_108 : decode cX3_step 108 = .ok (.invokevirtual 38, 3) := by decide +kernel
theorem dX3_step_111 : decode cX3_step 111 = .ok (.ifCond .lt 23, 3) := by decide +kernel
theorem dX3_step_114 : decode cX3_step 114 = .ok (.aload_n 1, 1) := by decide +kernel
theorem dX3_step_115 : decode cX3_step 115 = .ok (.iload 5, 2) := by decide +kernel
theorem dX3_step_117 : decode cX3_step 117 = .ok (.iload 6, 2) := by decide +kernel
theorem dX3_step_119 : decode cX3_step 119 = .ok (.invokevirtual 38, 3) := by decide +kernel
theorem dX3_step_122 : decode cX3_step 122 = .ok (.ifCond .ge 12, 3) := by decide +kernel
theorem dX3_step_125 : decode cX3_step 125 = .ok (.aload_n 1, 1) := by decide +kernel
theorem dX3_step_126 : decode cX3_step 126 = .ok (.iload 5, 2) := by decide +kernel
theorem dX3_step_128 : decode cX3_step 128 = .ok (.iload 6, 2) := by decide +kernel
theorem dX3_step_130 : decode cX3_step 130 = .ok (.lconst 0, 1) := by decide +kernel
theorem dX3_step_131 : decode cX3_step 131 = .ok (.invokevirtual 42, 3) := by decide +kernel
theorem dX3_step_134 : decode cX3_step 134 = .ok (.iinc 4 1, 3) := by decide +kernel
theorem dX3_step_137 : decode cX3_step 137 = .ok (.goto (-92), 3) := by decide +kernel
theorem dX3_step_140 : decode cX3_step 140 = .ok (.iinc 3 1, 3) := by decide +kernel
theorem dX3_step_143 : decode cX3_step 143 = .ok (.goto (-106), 3) := by decide +kernel
theorem dX3_step_146 : decode cX3_step 146 = .ok (.iinc 2 1, 3) := by decide +kernel
theorem dX3_step_149 : decode cX3_step 149 = .ok (.goto (-125), 3) := by decide +kernel
theorem dX3_step_152 : decode cX3_step 152 = .ok (.aload_n 0, 1) := by decide +kernel
theorem dX3_step_153 : decode cX3_step 153 = .ok (.getfield 22, 3) := by decide +kernel
theorem dX3_step_156 : decode cX3_step 156 = .ok (.iconst 0, 1) := by decide +kernel
theorem dX3_step_157 : decode cX3_step 157 = .ok (.putfield 46, 3) := by decide +kernel
theorem dX3_step_160 : decode cX3_step 160 = .ok (.iconst 0, 1) := by decide +kernel
theorem dX3_step_161 : decode cX3_step 161 = .ok (.istore_n 2, 1) := by decide +kernel
theorem dX3_step_162 : decode cX3_step 162 = .ok (.iload_n 2, 1) := by decide +kernel
theorem dX3_step_163 : decode cX3_step 163 = .ok (.aload_n 1, 1) := by decide +kernel
theorem dX3_step_164 : decode cX3_step 164 = .ok (.getfield 46, 3) := by decide +kernel
theorem dX3_step_167 : decode cX3_step 167 = .ok (.if_icmp .ge 29, 3) := by decide +kernel
theorem dX3_step_170 : decode cX3_step 170 = .ok (.aload_n 0, 1) := by decide +kernel
theorem dX3_step_171 : decode cX3_step 171 = .ok (.getfield 22, 3) := by decide +kernel
theorem dX3_step_174 : decode cX3_step 174 = .ok (.aload_n 1, 1) := by decide +kernel
theorem dX3_step_175 : decode cX3_step 175 = .ok (.getfield 66, 3) := by decide +kernel
theorem dX3_step_178 : decode cX3_step 178 = .ok (.iload_n 2, 1) := by decide +kernel
theorem dX3_step_179 : decode cX3_step 179 = .ok (.iaload, 1) := by decide +kernel
theorem dX3_step_180 : decode cX3_step 180 = .ok (.aload_n 1, 1) := by decide +kernel
theorem dX3_step_181 : decode cX3_step 181 = .ok (.getfield 69, 3) := by decide +kernel
theorem dX3_step_184 : decode cX3_step 184 = .ok (.iload_n 2, 1) := by decide +kernel
theorem dX3_step_185 : decode cX3_step 185 = .ok (.iaload, 1) := by decide +kernel
theorem dX3_step_186 : decode cX3_step 186 = .ok (.lconst 0, 1) := by decide +kernel
theorem dX3_step_187 : decode cX3_step 187 = .ok (.invokevirtual 42, 3) := by decide +kernel
theorem dX3_step_190 : decode cX3_step 190 = .ok (.iinc 2 1, 3) := by decide +kernel
theorem dX3_step_193 : decode cX3_step 193 = .ok (.goto (-31), 3) := by decide +kernel
theorem dX3_step_196 : decode cX3_step 196 = .ok (.aload_n 0, 1) := by decide +kernel
theorem dX3_step_197 : decode cX3_step 197 = .ok (.getfield 22, 3) := by decide +kernel
theorem dX3_step_200 : decode cX3_step 200 = .ok (.getfield 46, 3) := by decide +kernel
theorem dX3_step_203 : decode cX3_step 203 = .ok (.ireturn, 1) := by decide +kernel
set_option maxRecDepth 20000 in
theorem ggX3_put_X2_find : GoodIn wsX3_put wsX2_find := goodIn_r _ [7, 8, 9, 10, 33, 34, 35, 36] (by decide +kernel) (by decide +kernel)
set_option maxRecDepth 20000 in
theorem gX3_put_X2_find : GoodIn wsX3_put (wsV RX3 38 RX2 yX2_find wsX2_find) := goodIn_app (goodIn_of _ (by decide +kernel)) ggX3_put_X2_find
set_option maxRecDepth 20000 in
theorem ggX3_put_X3_told : GoodIn wsX3_put wsX3_told := goodIn_r _ [14, 15, 2, 33, 34, 35, 36] (by decide +kernel) (by decide +kernel)
set_option maxRecDepth 20000 in
theorem gX3_put_X3_told : GoodIn wsX3_put (va_wsS RX3 56 yX3_told wsX3_told) := goodIn_app (goodIn_of _ (by decide +kernel)) ggX3_put_X3_told
set_option maxRecDepth 20000 in
theorem ggX3_put_X2_add : GoodIn wsX3_put wsX2_add := goodIn_r _ [19, 8, 9, 20, 21, 10, 22, 33, 34, 35, 36] (by decide +kernel) (by decide +kernel)
set_option maxRecDepth 20000 in
theorem gX3_put_X2_add : GoodIn wsX3_put (wsV RX3 42 RX2 yX2_add wsX2_add) := goodIn_app (goodIn_of _ (by decide +kernel)) ggX3_put_X2_add
theorem dX3_put_0 : decode cX3_put 0 = .ok (.aload_n 0, 1) := by decide +kernel
theorem dX3_put_1 : decode cX3_put 1 = .ok (.getfield 25, 3) := by decide +kernel
theorem dX3_put_4 : decode cX3_put 4 = .ok (.iload_n 1, 1) := by decide +kernel
theorem dX3_put_5 : decode cX3_put 5 = .ok (.iload_n 2, 1) := by decide +kernel
theorem dX3_put_6 : decode cX3_put 6 = .ok (.invokevirtual 38, 3) := by decide +kernel
theorem dX3_put_9 : decode cX3_put 9 = .ok (.istore 4, 2) := by decide +kernel
theorem dX3_put_11 : decode cX3_put 11 = .ok (.aload_n 0, 1) := by decide +kernel
theorem dX3_put_12 : decode cX3_put 12 = .ok (.getfield 25, 3) := by decide +kernel
theorem dX3_put_15 : decode cX3_put 15 = .ok (.iload 4, 2) := by decide +kernel
theorem dX3_put_17 : decode cX3_put 17 = .ok (.invokestatic 56, 3) := by decide +kernel
theorem dX3_put_20 : decode cX3_put 20 = .ok (.lstore 5, 2) := by decide +kernel
theorem dX3_put_22 : decode cX3_put 22 = .ok (.iload 4, 2) := by decide +kernel
theorem dX3_put_24 : decode cX3_put 24 = .ok (.ifCond .ge 17, 3) := by decide +kernel
theorem dX3_put_27 : decode cX3_put 27 = .ok (.aload_n 0, 1) := by decide +kernel
theorem dX3_put_28 : decode cX3_put 28 = .ok (.getfield 25, 3) := by decide +kernel
theorem dX3_put_31 : decode cX3_put 31 = .ok (.iload_n 1, 1) := by decide +kernel
theorem dX3_put_32 : decode cX3_put 32 = .ok (.iload_n 2, 1) := by decide +kernel
theorem dX3_put_33 : decode cX3_put 33 = .ok (.iload_n 3, 1) := by decide +kernel
theorem dX3_put_34 : decode cX3_put 34 = .ok (.i2l, 1) := by decide +kernel
theorem dX3_put_35 : decode cX3_put 35 = .ok (.invokevirtual 42, 3) := by decide +kernel
theorem dX3_put_38 : decode cX3_put 38 = .ok (.goto 15, 3) := by decide +kernel
theorem dX3_put_41 : decode cX3_put 41 = .ok (.aload_n 0, 1) := by decide +kernel
theorem dX3_put_42 : decode cX3_put 42 = .ok (.getfield 25, 3) := by decide +kernel
theorem dX3_put_45 : decode cX3_put 45 = .ok (.getfield 50, 3) := by decide +kernel
theorem dX3_put_48 : decode cX3_put 48 = .ok (.iload 4, 2) := by decide +kernel
theorem dX3_put_50 : decode cX3_put 50 = .ok (.iload_n 3, 1) := by decide +kernel
theorem dX3_put_51 : decode cX3_put 51 = .ok (.i2l, 1) := by decide +kernel
theorem dX3_put_52 : decode cX3_put 52 = .ok (.lastore, 1) := by decide +kernel
theorem dX3_put_53 : decode cX3_put 53 = .ok (.lload 5, 2) := by decide +kernel
theorem dX3_put_55 : decode cX3_put 55 = .ok (.lreturn, 1) := by decide +kernel
set_option maxRecDepth 20000 in
theorem ggX3_get_X2_find : GoodIn wsX3_get wsX2_find := goodIn_r _ [6, 7, 8, 9, 26, 27, 28, 29] (by decide +kernel) (by decide +kernel)
set_option maxRecDepth 20000 in
theorem gX3_get_X2_find : GoodIn wsX3_get (wsV RX3 38 RX2 yX2_find wsX2_find) := goodIn_app (goodIn_of _ (by decide +kernel)) ggX3_get_X2_find
set_option maxRecDepth 20000 in
theorem ggX3_get_X3_told : GoodIn wsX3_get wsX3_told := goodIn_r _ [13, 14, 15, 26, 27, 28, 29] (by decide +kernel) (by decide +kernel)
set_option maxRecDepth 20000 in
theorem gX3_get_X3_told : GoodIn wsX3_get (va_wsS RX3 56 yX3_told wsX3_told) := goodIn_app (goodIn_of _ (by decide +kernel)) ggX3_get_X3_told
theorem dX3_get_0 : decode cX3_get 0 = .ok (.aload_n 0, 1) := by decide +kernel
theorem dX3_get_1 : decode cX3_get 1 = .ok (.getfield 25, 3) := by decide +kernel
theorem dX3_get_4 : decode cX3_get 4 = .ok (.aload_n 0, 1) := by decide +kernel
theorem dX3_get_5 : decode cX3_get 5 = .ok (.getfield 25, 3) := by decide +kernel
theorem dX3_get_8 : decode cX3_get 8 = .ok (.iload_n 1, 1) := by decide +kernel
theorem dX3_get_9 : decode cX3_get 9 = .ok (.iload_n 2, 1) := by decide +kernel
theorem dX3_get_10 : decode cX3_get 10 = .ok (.invokevirtual 38, 3) := by decide +kernel
theorem dX3_get_13 : decode cX3_get 13 = .ok (.invokestatic 56, 3) := by decide +kernel
theorem dX3_get_16 : decode cX3_get 16 = .ok (.lreturn, 1) := by decide +kernel
theorem dX3_end_0 : decode cX3_end 0 = .ok (.ldc2_w 54, 3) := by decide +kernel
theorem dX3_end_3 : decode cX3_end 3 = .ok (.lstore_n 2, 1) := by decide +kernel
theorem dX3_end_4 : decode cX3_end 4 = .ok (.iconst 0, 1) := by decide +kernel
theorem dX3_end_5 : decode cX3_end 5 = .ok (.istore 4, 2) := by decide +kernel
theorem dX3_end_7 : decode cX3_end 7 = .ok (.iload 4, 2) := by decide +kernel
theorem dX3_end_9 : decode cX3_end 9 = .ok (.aload_n 0, 1) := by decide +kernel
theorem dX3_end_10 : decode cX3_end 10 = .ok (.getfield 25, 3) := by decide +kernel
theorem dX3_end_13 : decode cX3_end 13 = .ok (.getfield 46, 3) := by decide +kernel
theorem dX3_end_16 : decode cX3_end 16 = .ok (.if_icmp .ge 59, 3) := by decide +kernel
theorem dX3_end_19 : decode cX3_end 19 = .ok (.aload_n 0, 1) := by decide +kernel
theorem dX3_end_20 : decode cX3_end 20 = .ok (.getfield 25, 3) := by decide +kernel
theorem dX3_end_23 : decode cX3_end 23 = .ok (.getfield 66, 3) := by decide +kernel
theorem dX3_end_26 : decode cX3_end 26 = .ok (.iload 4, 2) := by decide +kernel
theorem dX3_end_28 : decode cX3_end 28 = .ok (.iaload, 1) := by decide +kernel
theorem dX3_end_29 : decode cX3_end 29 = .ok (.iload_n 1, 1) := by decide +kernel
theorem dX3_end_30 : decode cX3_end 30 = .ok (.if_icmp .ne 39, 3) := by decide +kernel
theorem dX3_end_33 : decode cX3_end 33 = .ok (.lload_n 2, 1) := by decide +kernel
theorem dX3_end_34 : decode cX3_end 34 = .ok (.ldc2_w 54, 3) := by decide +kernel
theorem dX3_end_37 : decode cX3_end 37 = .ok (.lcmp, 1) := by decide +kernel
theorem dX3_end_38 : decode cX3_end 38 = .ok (.ifCond .eq 19, 3) := by decide +kernel
theorem dX3_end_41 : decode cX3_end 41 = .ok (.aload_n 0, 1) := by decide +kernel
theorem dX3_end_42 : decode cX3_end 42 = .ok (.getfield 25, 3) := by decide +kernel
theorem dX3_end_45 : decode cX3_end 45 = .ok (.getfield 69, 3) := by decide +kernel
theorem dX3_end_48 : decode cX3_end 48 = .ok (.iload 4, 2) := by decide +kernel
theorem dX3_end_50 : decode cX3_end 50 = .ok (.iaload, 1) := by decide +kernel
theorem dX3_end_51 : decode cX3_end 51 = .ok (.i2l, 1) := by decide +kernel
theorem dX3_end_52 : decode cX3_end 52 = .ok (.lload_n 2, 1) := by decide +kernel
theorem dX3_end_53 : decode cX3_end 53 = .ok (.lcmp, 1) := by decide +kernel
theorem dX3_end_54 : decode cX3_end 54 = .ok (.ifCond .le 15, 3) := by decide +kernel
theorem dX3_end_57 : decode cX3_end 57 = .ok (.aload_n 0, 1) := by decide +kernel
theorem dX3_end_58 : decode cX3_end 58 = .ok (.getfield 25, 3) := by decide +kernel
theorem dX3_end_61 : decode cX3_end 61 = .ok (.getfield 69, 3) := by decide +kernel
theorem dX3_end_64 : decode cX3_end 64 = .ok (.iload 4, 2) := by decide +kernel
theorem dX3_end_66 : decode cX3_end 66 = .ok (.iaload, 1) := by decide +kernel
theorem dX3_end_67 : decode cX3_end 67 = .ok (.i2l, 1) := by decide +kernel
theorem dX3_end_68 : decode cX3_end 68 = .ok (.lstore_n 2, 1) := by decide +kernel
theorem dX3_end_69 : decode cX3_end 69 = .ok (.iinc 4 1, 3) := by decide +kernel
theorem dX3_end_72 : decode cX3_end 72 = .ok (.goto (-65), 3) := by decide +kernel
theorem dX3_end_75 : decode cX3_end 75 = .ok (.lload_n 2, 1) := by decide +kernel
theorem dX3_end_76 : decode cX3_end 76 = .ok (.lreturn, 1) := by decide +kernel
theorem dX3_rows_0 : decode cX3_rows 0 = .ok (.iconst 0, 1) := by decide +kernel
theorem dX3_rows_1 : decode cX3_rows 1 = .ok (.istore_n 1, 1) := by decide +kernel
theorem dX3_rows_2 : decode cX3_rows 2 = .ok (.iconst 0, 1) := by decide +kernel
theorem dX3_rows_3 : decode cX3_rows 3 = .ok (.istore_n 2, 1) := by decide +kernel
theorem dX3_rows_4 : decode cX3_rows 4 = .ok (.iload_n 2, 1) := by decide +kernel
theorem dX3_rows_5 : decode cX3_rows 5 = .ok (.aload_n 0, 1) := by decide +kernel
theorem dX3_rows_6 : decode cX3_rows 6 = .ok (.getfield 25, 3) := by decide +kernel
theorem dX3_rows_9 : decode cX3_rows 9 = .ok (.getfield 46, 3) := by decide +kernel
theorem dX3_rows_12 : decode cX3_rows 12 = .ok (.if_icmp .ge 57, 3) := by decide +kernel
theorem dX3_rows_15 : decode cX3_rows 15 = .ok (.iconst 1, 1) := by decide +kernel
theorem dX3_rows_16 : decode cX3_rows 16 = .ok (.istore_n 3, 1) := by decide +kernel
theorem dX3_rows_17 : decode cX3_rows 17 = .ok (.iconst 0, 1) := by decide +kernel
theorem dX3_rows_18 : decode cX3_rows 18 = .ok (.istore 4, 2) := by decide +kernel
theorem dX3_rows_20 : decode cX3_rows 20 = .ok (.iload 4, 2) := by decide +kernel
theorem dX3_rows_22 : decode cX3_rows 22 = .ok (.iload_n 2, 1) := by decide +kernel
theorem dX3_rows_23 : decode cX3_rows 23 = .ok (.if_icmp .ge 33, 3) := by decide +kernel
theorem dX3_rows_26 : decode cX3_rows 26 = .ok (.aload_n 0, 1) := by decide +kernel
theorem dX3_rows_27 : decode cX3_rows 27 = .ok (.getfield 25, 3) := by decide +kernel
theorem dX3_rows_30 : decode cX3_rows 30 = .ok (.getfield 66, 3) := by decide +kernel
theorem dX3_rows_33 : decode cX3_rows 33 = .ok (.iload 4, 2) := by decide +kernel
theorem dX3_rows_35 : decode cX3_rows 35 = .ok (.iaload, 1) := by decide +kernel
theorem dX3_rows_36 : decode cX3_rows 36 = .ok (.aload_n 0, 1) := by decide +kernel
theorem dX3_rows_37 : decode cX3_rows 37 = .ok (.getfield 25, 3) := by decide +kernel
theorem dX3_rows_40 : decode cX3_rows 40 = .ok (.getfield 66, 3) := by decide +kernel
theorem dX3_rows_43 : decode cX3_rows 43 = .ok (.iload_n 2, 1) := by decide +kernel
theorem dX3_rows_44 : decode cX3_rows 44 = .ok (.iaload, 1) := by decide +kernel
theorem dX3_rows_45 : decode cX3_rows 45 = .ok (.if_icmp .ne 5, 3) := by decide +kernel
theorem dX3_rows_48 : decode cX3_rows 48 = .ok (.iconst 0, 1) := by decide +kernel
theorem dX3_rows_49 : decode cX3_rows 49 = .ok (.istore_n 3, 1) := by decide +kernel
theorem dX3_rows_50 : decode cX3_rows 50 = .ok (.iinc 4 1, 3) := by decide +kernel
theorem dX3_rows_53 : decode cX3_rows 53 = .ok (.goto (-33), 3) := by decide +kernel
theorem dX3_rows_56 : decode cX3_rows 56 = .ok (.iload_n 3, 1) := by decide +kernel
theorem dX3_rows_57 : decode cX3_rows 57 = .ok (.ifCond .eq 6, 3) := by decide +kernel
theorem dX3_rows_60 : decode cX3_rows 60 = .ok (.iinc 1 1, 3) := by decide +kernel
theorem dX3_rows_63 : decode cX3_rows 63 = .ok (.iinc 2 1, 3) := by decide +kernel
theorem dX3_rows_66 : decode cX3_rows 66 = .ok (.goto (-62), 3) := by decide +kernel
theorem dX3_rows_69 : decode cX3_rows 69 = .ok (.iload_n 1, 1) := by decide +kernel
theorem dX3_rows_70 : decode cX3_rows 70 = .ok (.ireturn, 1) := by decide +kernel
set_option maxRecDepth 20000 in
theorem ggX3_cut_X2_find : GoodIn wsX3_cut wsX2_find := goodIn_r _ [6, 7, 8, 9, 32, 33, 34, 35] (by decide +kernel) (by decide +kernel)
set_option maxRecDepth 20000 in
theorem gX3_cut_X2_find : GoodIn wsX3_cut (wsV RX3 38 RX2 yX2_find wsX2_find) := goodIn_app (goodIn_of _ (by decide +kernel)) ggX3_cut_X2_find
set_option maxRecDepth 20000 in
theorem ggX3_cut_X2_remove : GoodIn wsX3_cut wsX2_remove := goodIn_r _ [13, 7, 8, 9, 14, 32, 33, 34, 35] (by decide +kernel) (by decide +kernel)
set_option maxRecDepth 20000 in
theorem gX3_cut_X2_remove : GoodIn wsX3_cut (wsV RX3 60 RX2 yX2_remove wsX2_remove) := goodIn_app (goodIn_of _ (by decide +kernel)) ggX3_cut_X2_remove
set_option maxRecDepth 20000 in
theorem ggX3_cut_X3_rows : GoodIn wsX3_cut wsX3_rows := goodIn_r _ [19, 1, 20, 21, 22, 23, 24, 25, 26, 27, 28, 29, 30, 31, 32, 33, 34, 35] (by decide +kernel) (by decide +kernel)
set_option maxRecDepth 20000 in
theorem gX3_cut_X3_rows : GoodIn wsX3_cut (wsV RX3 112 RX3 yX3_rows wsX3_rows) := goodIn_app (goodIn_of _ (by decide +kernel)) ggX3_cut_X3_rows
theorem dX3_cut_0 : decode cX3_cut 0 = .ok (.aload_n 0, 1) := by decide +kernel
theorem dX3_cut_1 : decode cX3_cut 1 = .ok (.getfield 25, 3) := by decide +kernel
theorem dX3_cut_4 : decode cX3_cut 4 = .ok (.iload_n 1, 1) := by decide +kernel
theorem dX3_cut_5 : decode cX3_cut 5 = .ok (.iload_n 2, 1) := by decide +kernel
theorem dX3_cut_6 : decode cX3_cut 6 = .ok (.invokevirtual 38, 3) := by decide +kernel
theorem dX3_cut_9 : decode cX3_cut 9 = .ok (.istore_n 3, 1) := by decide +kernel
theorem dX3_cut_10 : decode cX3_cut 10 = .ok (.iload_n 3, 1) := by decide +kernel
theorem dX3_cut_11 : decode cX3_cut 11 = .ok (.ifCond .lt 11, 3) := by decide +kernel
theorem dX3_cut_14 : decode cX3_cut 14 = .ok (.aload_n 0, 1) := by decide +kernel
theorem dX3_cut_15 : decode cX3_cut 15 = .ok (.getfield 25, 3) := by decide +kernel
theorem dX3_cut_18 : decode cX3_cut 18 = .ok (.iload_n 3, 1) := by decide +kernel
theorem dX3_cut_19 : decode cX3_cut 19 = .ok (.invokevirtual 60, 3) := by decide +kernel
theorem dX3_cut_22 : decode cX3_cut 22 = .ok (.aload_n 0, 1) := by decide +kernel
theorem dX3_cut_23 : decode cX3_cut 23 = .ok (.invokevirtual 112, 3) := by decide +kernel
theorem dX3_cut_26 : decode cX3_cut 26 = .ok (.ireturn, 1) := by decide +kernel
set_option maxRecDepth 20000 in
theorem ggX3_size_X3_numbers : GoodIn wsX3_size wsX3_numbers := goodIn_r _ [12, 13, 2, 14, 19, 20, 21, 22, 23, 24, 25, 26, 27, 28, 29, 30, 31, 32] (by decide +kernel) (by decide +kernel)
set_option maxRecDepth 20000 in
theorem gX3_size_X3_numbers : GoodIn wsX3_size (wsV RX3 102 RX3 yX3_numbers wsX3_numbers) := goodIn_app (goodIn_of _ (by decide +kernel)) ggX3_size_X3_numbers
set_option maxRecDepth 20000 in
theorem ggX3_size_X3_rows : GoodIn wsX3_size wsX3_rows := goodIn_r _ [18, 7, 2, 14, 19, 20, 21, 22, 23, 24, 25, 26, 27, 28, 29, 30, 31, 32] (by decide +kernel) (by decide +kernel)
set_option maxRecDepth 20000 in
theorem gX3_size_X3_rows : GoodIn wsX3_size (wsV RX3 112 RX3 yX3_rows wsX3_rows) := goodIn_app (goodIn_of _ (by decide +kernel)) ggX3_size_X3_rows
theorem dX3_size_0 : decode cX3_size 0 = .ok (.iconst 0, 1) := by decide +kernel
theorem dX3_size_1 : decode cX3_size 1 = .ok (.istore_n 2, 1) := by decide +kernel
theorem dX3_size_2 : decode cX3_size 2 = .ok (.iload_n 1, 1) := by decide +kernel
theorem dX3_size_3 : decode cX3_size 3 = .ok (.tableswitch 115 0 6 #[41, 49, 57, 65, 94, 102, 107], 41) := by decide +kernel
theorem dX3_size_44 : decode cX3_size 44 = .ok (.aload_n 0, 1) := by decide +kernel
theorem dX3_size_45 : decode cX3_size 45 = .ok (.getfield 10, 3) := by decide +kernel
theorem dX3_size_48 : decode cX3_size 48 = .ok (.getfield 46, 3) := by decide +kernel
theorem dX3_size_51 : decode cX3_size 51 = .ok (.ireturn, 1) := by decide +kernel
theorem dX3_size_52 : decode cX3_size 52 = .ok (.aload_n 0, 1) := by decide +kernel
theorem dX3_size_53 : decode cX3_size 53 = .ok (.getfield 16, 3) := by decide +kernel
theorem dX3_size_56 : decode cX3_size 56 = .ok (.getfield 46, 3) := by decide +kernel
theorem dX3_size_59 : decode cX3_size 59 = .ok (.ireturn, 1) := by decide +kernel
theorem dX3_size_60 : decode cX3_size 60 = .ok (.aload_n 0, 1) := by decide +kernel
theorem dX3_size_61 : decode cX3_size 61 = .ok (.getfield 19, 3) := by decide +kernel
theorem dX3_size_64 : decode cX3_size 64 = .ok (.getfield 46, 3) := by decide +kernel
theorem dX3_size_67 : decode cX3_size 67 = .ok (.ireturn, 1) := by decide +kernel
theorem dX3_size_68 : decode cX3_size 68 = .ok (.iconst 0, 1) := by decide +kernel
theorem dX3_size_69 : decode cX3_size 69 = .ok (.istore_n 3, 1) := by decide +kernel
theorem dX3_size_70 : decode cX3_size 70 = .ok (.iload_n 3, 1) := by decide +kernel
theorem dX3_size_71 : decode cX3_size 71 = .ok (.aload_n 0, 1) := by decide +kernel
theorem dX3_size_72 : decode cX3_size 72 = .ok (.getfield 92, 3) := by decide +kernel
theorem dX3_size_75 : decode cX3_size 75 = .ok (.if_icmp .ge 20, 3) := by decide +kernel
theorem dX3_size_78 : decode cX3_size 78 = .ok (.aload_n 0, 1) := by decide +kernel
theorem dX3_size_79 : decode cX3_size 79 = .ok (.iload_n 3, 1) := by decide +kernel
theorem dX3_size_80 : decode cX3_size 80 = .ok (.invokevirtual 102, 3) := by decide +kernel
theorem dX3_size_83 : decode cX3_size 83 = .ok (.ifCond .le 6, 3) := by decide +kernel
theorem dX3_size_86 : decode cX3_size 86 = .ok (.iinc 2 1, 3) := by decide +kernel
theorem dX3_size_89 : decode cX3_size 89 = .ok (.iinc 3 1, 3) := by decide +kernel
theorem dX3_size_92 : decode cX3_size 92 = .ok (.goto (-22), 3) := by decide +kernel
theorem dX3_size_95 : decode cX3_size 95 = .ok (.iload_n 2, 1) := by decide +kernel
theorem dX3_size_96 : decode cX3_size 96 = .ok (.ireturn, 1) := by decide +kernel
theorem dX3_size_97 : decode cX3_size 97 = .ok (.aload_n 0, 1) := by decide +kernel
theorem dX3_size_98 : decode cX3_size 98 = .ok (.getfield 22, 3) := by decide +kernel
theorem dX3_size_101 : decode cX3_size 101 = .ok (.getfield 46, 3) := by decide +kernel
theorem dX3_size_104 : decode cX3_size 104 = .ok (.ireturn, 1) := by decide +kernel
theorem dX3_size_105 : decode cX3_size 105 = .ok (.aload_n 0, 1) := by decide +kernel
theorem dX3_size_106 : decode cX3_size 106 = .ok (.invokevirtual 112, 3) := by decide +kernel
theorem dX3_size_109 : decode cX3_size 109 = .ok (.ireturn, 1) := by decide +kernel
theorem dX3_size_110 : decode cX3_size 110 = .ok (.aload_n 0, 1) := by decide +kernel
theorem dX3_size_111 : decode cX3_size 111 = .ok (.getfield 25, 3) := by decide +kernel
theorem dX3_size_114 : decode cX3_size 114 = .ok (.getfield 46, 3) := by decide +kernel
theorem dX3_size_117 : decode cX3_size 117 = .ok (.ireturn, 1) := by decide +kernel
theorem dX3_size_118 : decode cX3_size 118 = .ok (.iconst (-1), 1) := by decide +kernel
theorem dX3_size_119 : decode cX3_size 119 = .ok (.ireturn, 1) := by decide +kernel
end
section
theorem dJ9_max_7cf53_0 : decode cJ9_max_7cf53 0 = .ok (.iload_n 0, 1) := by decide +kernel
theorem dJ9_max_7cf53_1 : decode cJ9_max_7cf53 1 = .ok (.iload_n 1, 1) := by decide +kernel
theorem dJ9_max_7cf53_2 : decode cJ9_max_7cf53 2 = .ok (.if_icmp .lt 7, 3) := by decide +kernel
theorem dJ9_max_7cf53_5 : decode cJ9_max_7cf53 5 = .ok (.iload_n 0, 1) := by decide +kernel
theorem dJ9_max_7cf53_6 : decode cJ9_max_7cf53 6 = .ok (.goto 4, 3) := by decide +kernel
theorem dJ9_max_7cf53_9 : decode cJ9_max_7cf53 9 = .ok (.iload_n 1, 1) := by decide +kernel
theorem dJ9_max_7cf53_10 : decode cJ9_max_7cf53 10 = .ok (.ireturn, 1) := by decide +kernel
theorem dJ9_min_7cf53_0 : decode cJ9_min_7cf53 0 = .ok (.iload_n 0, 1) := by decide +kernel
theorem dJ9_min_7cf53_1 : decode cJ9_min_7cf53 1 = .ok (.iload_n 1, 1) := by decide +kernel
theorem dJ9_min_7cf53_2 : decode cJ9_min_7cf53 2 = .ok (.if_icmp .gt 7, 3) := by decide +kernel
theorem dJ9_min_7cf53_5 : decode cJ9_min_7cf53 5 = .ok (.iload_n 0, 1) := by decide +kernel
theorem dJ9_min_7cf53_6 : decode cJ9_min_7cf53 6 = .ok (.goto 4, 3) := by decide +kernel
theorem dJ9_min_7cf53_9 : decode cJ9_min_7cf53 9 = .ok (.iload_n 1, 1) := by decide +kernel
theorem dJ9_min_7cf53_10 : decode cJ9_min_7cf53 10 = .ok (.ireturn, 1) := by decide +kernel
theorem dL_cell_0 : decode cL_cell 0 = .ok (.iload_n 1, 1) := by decide +kernel
theorem dL_cell_1 : decode cL_cell 1 = .ok (.aload_n 0, 1) := by decide +kernel
theorem dL_cell_2 : decode cL_cell 2 = .ok (.arraylength, 1) := by decide +kernel
theorem dL_cell_3 : decode cL_cell 3 = .ok (.if_icmp .ge 9, 3) := by decide +kernel
theorem dL_cell_6 : decode cL_cell 6 = .ok (.aload_n 0, 1) := by decide +kernel
theorem dL_cell_7 : decode cL_cell 7 = .ok (.iload_n 1, 1) := by decide +kernel
theorem dL_cell_8 : decode cL_cell 8 = .ok (.iaload, 1) := by decide +kernel
theorem dL_cell_9 : decode cL_cell 9 = .ok (.goto 4, 3) := by decide +kernel
theorem dL_cell_12 : decode cL_cell 12 = .ok (.iconst 0, 1) := by decide +kernel
theorem dL_cell_13 : decode cL_cell 13 = .ok (.ireturn, 1) := by decide +kernel
set_option maxRecDepth 20000 in
theorem ggL_law_L_cell : GoodIn wsL_law wsL_cell := goodIn_r _ [9] (by decide +kernel) (by decide +kernel)
set_option maxRecDepth 20000 in
theorem gL_law_L_cell : GoodIn wsL_law (va_wsS RL 9 yL_cell wsL_cell) := goodIn_app (goodIn_of _ (by decide +kernel)) ggL_law_L_cell
set_option maxRecDepth 20000 in
theorem ggL_law_X1_init : GoodIn wsL_law wsX1_init := goodIn_r _ [12, 13, 14, 15, 16, 17, 18, 19, 20, 21, 22, 23, 24, 25, 26, 27, 28, 29, 30, 31, 32, 33, 34, 35, 36, 37, 38, 39, 40, 41, 42, 497, 498, 499, 478, 479, 480, 481, 482, 483, 484, 485, 486] (by decide +kernel) (by decide +kernel)
set_option maxRecDepth 20000 in
theorem gL_law_X1_init : GoodIn wsL_law (wsX1_init) := ggL_law_X1_init
set_option maxRecDepth 20000 in
theorem ggL_law_X3_init : GoodIn wsL_law wsX3_init := goodIn_r _ [45, 46, 14, 15, 47, 48, 49, 50, 51, 52, 53, 54, 55, 56, 57, 58, 59, 60, 61, 62, 63, 40, 64, 500, 501, 502, 503, 487, 488, 489, 490, 491, 492, 493, 494, 495, 496] (by decide +kernel) (by decide +kernel)
set_option maxRecDepth 20000 in
theorem gL_law_X3_init : GoodIn wsL_law (wsX3_init) := ggL_law_X3_init
set_option maxRecDepth 20000 in
theorem ggL_law_X1_add : GoodIn wsL_law wsX1_add := goodIn_r _ [68, 19, 69, 70, 2, 71, 72, 73, 74, 75, 18, 76, 42, 77, 78, 79, 80, 32, 41, 81, 82, 83, 84, 85, 86, 87, 88, 89, 90, 91, 92, 93, 94, 95, 96, 478, 479, 480, 481, 482, 483, 484, 485, 486, 497, 498, 499] (by decide +kernel) (by decide +kernel)
set_option maxRecDepth 20000 in
theorem gL_law_X1_add : GoodIn wsL_law (wsV RL 21 RX1 yX1_add wsX1_add) := goodIn_app (goodIn_of _ (by decide +kernel)) ggL_law_X1_add
set_option maxRecDepth 20000 in
theorem ggL_law_X3_add : GoodIn wsL_law wsX3_add := goodIn_r _ [100, 50, 101, 102, 103, 104, 105, 49, 106, 107, 62, 63, 108, 109, 110, 111, 56, 40, 64, 487, 488, 489, 490, 491, 492, 493, 494, 495, 496, 500, 501, 502, 503] (by decide +kernel) (by decide +kernel)
set_option maxRecDepth 20000 in
theorem gL_law_X3_add : GoodIn wsL_law (wsV RL 25 RX3 yX3_add wsX3_add) := goodIn_app (goodIn_of _ (by decide +kernel)) ggL_law_X3_add
set_option maxRecDepth 20000 in
theorem ggL_law_X1_count : GoodIn wsL_law wsX1_count := goodIn_r _ [115, 19, 69, 70, 2, 71, 72, 116, 117, 118, 18, 119, 77, 78, 79, 80, 32, 41, 81, 82, 83, 84, 85, 86, 87, 88, 120, 121, 122, 123, 42, 124, 478, 479, 480, 481, 482, 483, 484, 485, 486, 497, 498, 499] (by decide +kernel) (by decide +kernel)
set_option maxRecDepth 20000 in
theorem gL_law_X1_count : GoodIn wsL_law (wsV RL 26 RX1 yX1_count wsX1_count) := goodIn_app (goodIn_of _ (by decide +kernel)) ggL_law_X1_count
set_option maxRecDepth 20000 in
theorem ggL_law_X3_count : GoodIn wsL_law wsX3_count := goodIn_r _ [128, 50, 103, 104, 105, 49, 106, 107, 62, 63, 129, 130, 5, 131, 132, 102, 487, 488, 489, 490, 491, 492, 493, 494, 495, 496, 500, 501, 502, 503] (by decide +kernel) (by decide +kernel)
set_option maxRecDepth 20000 in
theorem gL_law_X3_count : GoodIn wsL_law (wsV RL 30 RX3 yX3_count wsX3_count) := goodIn_app (goodIn_of _ (by decide +kernel)) ggL_law_X3_count
set_option maxRecDepth 20000 in
theorem ggL_law_X1_drop : GoodIn wsL_law wsX1_drop := goodIn_r _ [136, 19, 69, 70, 2, 71, 72, 116, 117, 118, 18, 119, 77, 78, 79, 80, 32, 41, 81, 82, 83, 84, 85, 86, 87, 88, 137, 138, 139, 140, 141, 121, 122, 123, 42, 124, 142, 143, 144, 145, 93, 94, 95, 96, 478, 479, 480, 481, 482, 483, 484, 485, 486, 497, 498, 499] (by decide +kernel) (by decide +kernel)
set_option maxRecDepth 20000 in
theorem gL_law_X1_drop : GoodIn wsL_law (wsV RL 31 RX1 yX1_drop wsX1_drop) := goodIn_app (goodIn_of _ (by decide +kernel)) ggL_law_X1_drop
set_option maxRecDepth 20000 in
theorem ggL_law_X3_drop : GoodIn wsL_law wsX3_drop := goodIn_r _ [149, 50, 103, 104, 105, 49, 106, 107, 62, 63, 129, 130, 5, 131, 132, 102, 150, 151, 152, 153, 64, 487, 488, 489, 490, 491, 492, 493, 494, 495, 496, 500, 501, 502, 503] (by decide +kernel) (by decide +kernel)
set_option maxRecDepth 20000 in
theorem gL_law_X3_drop : GoodIn wsL_law (wsV RL 34 RX3 yX3_drop wsX3_drop) := goodIn_app (goodIn_of _ (by decide +kernel)) ggL_law_X3_drop
set_option maxRecDepth 20000 in
theorem ggL_law_X1_total : GoodIn wsL_law wsX1_total := goodIn_r _ [157, 19, 158, 159, 160, 161, 18, 162, 32, 163, 164, 165, 166, 41, 124, 85, 86, 87, 88, 167, 168, 2, 169, 170, 171, 172, 173, 120, 121, 122, 123, 42, 478, 479, 480, 481, 482, 483, 484, 485, 486, 497, 498, 499] (by decide +kernel) (by decide +kernel)
set_option maxRecDepth 20000 in
theorem gL_law_X1_total : GoodIn wsL_law (wsV RL 35 RX1 yX1_total wsX1_total) := goodIn_app (goodIn_of _ (by decide +kernel)) ggL_law_X1_total
set_option maxRecDepth 20000 in
theorem ggL_law_X3_total : GoodIn wsL_law wsX3_total := goodIn_r _ [177, 50, 101, 178, 179, 180, 102, 487, 488, 489, 490, 491, 492, 493, 494, 495, 496, 500, 501, 502, 503] (by decide +kernel) (by decide +kernel)
set_option maxRecDepth 20000 in
theorem gL_law_X3_total : GoodIn wsL_law (wsV RL 39 RX3 yX3_total wsX3_total) := goodIn_app (goodIn_of _ (by decide +kernel)) ggL_law_X3_total
set_option maxRecDepth 20000 in
theorem ggL_law_X1_sweep : GoodIn wsL_law wsX1_sweep := goodIn_r _ [184, 19, 159, 160, 161, 18, 162, 32, 163, 164, 165, 166, 41, 124, 85, 86, 87, 88, 185, 186, 2, 187, 167, 168, 169, 170, 171, 172, 173, 188, 189, 190, 191, 42, 192, 193, 194, 195, 478, 479, 480, 481, 482, 483, 484, 485, 486, 497, 498, 499] (by decide +kernel) (by decide +kernel)
set_option maxRecDepth 20000 in
theorem gL_law_X1_sweep : GoodIn wsL_law (wsV RL 40 RX1 yX1_sweep wsX1_sweep) := goodIn_app (goodIn_of _ (by decide +kernel)) ggL_law_X1_sweep
set_option maxRecDepth 20000 in
theorem ggL_law_X3_sweep : GoodIn wsL_law wsX3_sweep := goodIn_r _ [199, 50, 101, 179, 180, 150, 151, 152, 49, 153, 107, 62, 63, 64, 487, 488, 489, 490, 491, 492, 493, 494, 495, 496, 500, 501, 502, 503] (by decide +kernel) (by decide +kernel)
set_option maxRecDepth 20000 in
theorem gL_law_X3_sweep : GoodIn wsL_law (wsV RL 44 RX3 yX3_sweep wsX3_sweep) := goodIn_app (goodIn_of _ (by decide +kernel)) ggL_law_X3_sweep
set_option maxRecDepth 20000 in
theorem ggL_law_X1_come : GoodIn wsL_law wsX1_come := goodIn_r _ [203, 20, 27, 69, 70, 2, 71, 72, 204, 205, 206, 18, 207, 32, 42, 208, 209, 210, 211, 124, 77, 78, 79, 80, 41, 81, 82, 83, 84, 85, 86, 87, 88, 89, 90, 91, 92, 93, 94, 95, 96, 478, 479, 480, 481, 482, 483, 484, 485, 486, 497, 498, 499] (by decide +kernel) (by decide +kernel)
set_option maxRecDepth 20000 in
theorem gL_law_X1_come : GoodIn wsL_law (wsV RL 45 RX1 yX1_come wsX1_come) := goodIn_app (goodIn_of _ (by decide +kernel)) ggL_law_X1_come
set_option maxRecDepth 20000 in
theorem ggL_law_X3_come : GoodIn wsL_law wsX3_come := goodIn_r _ [215, 51, 103, 104, 105, 49, 106, 107, 62, 63, 108, 109, 110, 111, 56, 40, 64, 487, 488, 489, 490, 491, 492, 493, 494, 495, 496, 500, 501, 502, 503] (by decide +kernel) (by decide +kernel)
set_option maxRecDepth 20000 in
theorem gL_law_X3_come : GoodIn wsL_law (wsV RL 49 RX3 yX3_come wsX3_come) := goodIn_app (goodIn_of _ (by decide +kernel)) ggL_law_X3_come
set_option maxRecDepth 20000 in
theorem ggL_law_X1_leave : GoodIn wsL_law wsX1_leave := goodIn_r _ [219, 20, 69, 70, 2, 71, 72, 204, 205, 206, 18, 207, 32, 42, 137, 138, 139, 140, 141, 121, 122, 123, 124, 85, 86, 87, 88, 142, 143, 144, 145, 41, 93, 94, 95, 96, 478, 479, 480, 481, 482, 483, 484, 485, 486, 497, 498, 499] (by decide +kernel) (by decide +kernel)
set_option maxRecDepth 20000 in
theorem gL_law_X1_leave : GoodIn wsL_law (wsV RL 50 RX1 yX1_leave wsX1_leave) := goodIn_app (goodIn_of _ (by decide +kernel)) ggL_law_X1_leave
set_option maxRecDepth 20000 in
theorem ggL_law_X3_leave : GoodIn wsL_law wsX3_leave := goodIn_r _ [223, 51, 103, 104, 105, 49, 106, 107, 62, 63, 150, 151, 152, 153, 64, 487, 488, 489, 490, 491, 492, 493, 494, 495, 496, 500, 501, 502, 503] (by decide +kernel) (by decide +kernel)
set_option maxRecDepth 20000 in
theorem gL_law_X3_leave : GoodIn wsL_law (wsV RL 53 RX3 yX3_leave wsX3_leave) := goodIn_app (goodIn_of _ (by decide +kernel)) ggL_law_X3_leave
set_option maxRecDepth 20000 in
theorem ggL_law_X1_comer : GoodIn wsL_law wsX1_comer := goodIn_r _ [227, 20, 228, 159, 160, 161, 18, 162, 32, 120, 121, 122, 123, 42, 124, 85, 86, 87, 88, 170, 171, 2, 172, 173, 167, 168, 169, 478, 479, 480, 481, 482, 483, 484, 485, 486, 497, 498, 499] (by decide +kernel) (by decide +kernel)
set_option maxRecDepth 20000 in
theorem gL_law_X1_comer : GoodIn wsL_law (wsV RL 54 RX1 yX1_comer wsX1_comer) := goodIn_app (goodIn_of _ (by decide +kernel)) ggL_law_X1_comer
set_option maxRecDepth 20000 in
theorem ggL_law_X3_comer : GoodIn wsL_law wsX3_comer := goodIn_r _ [232, 51, 101, 132, 180, 179, 487, 488, 489, 490, 491, 492, 493, 494, 495, 496, 500, 501, 502, 503] (by decide +kernel) (by decide +kernel)
set_option maxRecDepth 20000 in
theorem gL_law_X3_comer : GoodIn wsL_law (wsV RL 58 RX3 yX3_comer wsX3_comer) := goodIn_app (goodIn_of _ (by decide +kernel)) ggL_law_X3_comer
set_option maxRecDepth 20000 in
theorem ggL_law_X1_retain : GoodIn wsL_law wsX1_retain := goodIn_r _ [236, 20, 19, 159, 160, 161, 18, 162, 32, 120, 121, 122, 123, 42, 124, 85, 86, 87, 88, 237, 238, 239, 240, 241, 117, 118, 119, 77, 78, 79, 80, 41, 81, 82, 83, 84, 188, 189, 190, 191, 192, 193, 194, 195, 478, 479, 480, 481, 482, 483, 484, 485, 486, 497, 498, 499] (by decide +kernel) (by decide +kernel)
set_option maxRecDepth 20000 in
theorem gL_law_X1_retain : GoodIn wsL_law (wsV RL 59 RX1 yX1_retain wsX1_retain) := goodIn_app (goodIn_of _ (by decide +kernel)) ggL_law_X1_retain
set_option maxRecDepth 20000 in
theorem ggL_law_X3_retain : GoodIn wsL_law wsX3_retain := goodIn_r _ [245, 51, 101, 50, 179, 180, 103, 104, 105, 49, 106, 107, 62, 63, 150, 151, 152, 153, 64, 487, 488, 489, 490, 491, 492, 493, 494, 495, 496, 500, 501, 502, 503] (by decide +kernel) (by decide +kernel)
set_option maxRecDepth 20000 in
theorem gL_law_X3_retain : GoodIn wsL_law (wsV RL 62 RX3 yX3_retain wsX3_retain) := goodIn_app (goodIn_of _ (by decide +kernel)) ggL_law_X3_retain
set_option maxRecDepth 20000 in
theorem ggL_law_X1_rank : GoodIn wsL_law wsX1_rank := goodIn_r _ [249, 21, 69, 70, 2, 71, 72, 208, 209, 210, 18, 211, 124, 42, 77, 78, 79, 80, 32, 41, 81, 82, 83, 84, 85, 86, 87, 88, 89, 90, 91, 92, 93, 94, 95, 96, 478, 479, 480, 481, 482, 483, 484, 485, 486, 497, 498, 499] (by decide +kernel) (by decide +kernel)
set_option maxRecDepth 20000 in
theorem gL_law_X1_rank : GoodIn wsL_law (wsV RL 63 RX1 yX1_rank wsX1_rank) := goodIn_app (goodIn_of _ (by decide +kernel)) ggL_law_X1_rank
set_option maxRecDepth 20000 in
theorem ggL_law_X3_rank : GoodIn wsL_law wsX3_rank := goodIn_r _ [253, 52, 102, 103, 104, 105, 49, 106, 107, 62, 63, 129, 130, 5, 131, 132, 108, 109, 110, 111, 56, 40, 64, 487, 488, 489, 490, 491, 492, 493, 494, 495, 496, 500, 501, 502, 503] (by decide +kernel) (by decide +kernel)
set_option maxRecDepth 20000 in
theorem gL_law_X3_rank : GoodIn wsL_law (wsV RL 66 RX3 yX3_rank wsX3_rank) := goodIn_app (goodIn_of _ (by decide +kernel)) ggL_law_X3_rank
set_option maxRecDepth 20000 in
theorem ggL_law_X1_near : GoodIn wsL_law wsX1_near := goodIn_r _ [257, 21, 228, 258, 69, 70, 2, 71, 72, 259, 260, 261, 18, 262, 263, 32, 77, 78, 79, 80, 41, 264, 159, 160, 161, 162, 163, 164, 165, 166, 124, 85, 86, 87, 88, 167, 168, 169, 170, 171, 172, 173, 478, 479, 480, 481, 482, 483, 484, 485, 486, 497, 498, 499] (by decide +kernel) (by decide +kernel)
set_option maxRecDepth 20000 in
theorem gL_law_X1_near : GoodIn wsL_law (wsV RL 67 RX1 yX1_near wsX1_near) := goodIn_app (goodIn_of _ (by decide +kernel)) ggL_law_X1_near
set_option maxRecDepth 20000 in
theorem ggL_law_X3_near : GoodIn wsL_law wsX3_near := goodIn_r _ [268, 132, 52, 179, 269, 180, 270, 271, 272, 5, 273, 101, 274, 275, 276, 487, 488, 489, 490, 491, 492, 493, 494, 495, 496, 500, 501, 502, 503] (by decide +kernel) (by decide +kernel)
set_option maxRecDepth 20000 in
theorem gL_law_X3_near : GoodIn wsL_law (wsV RL 71 RX3 yX3_near wsX3_near) := goodIn_app (goodIn_of _ (by decide +kernel)) ggL_law_X3_near
set_option maxRecDepth 20000 in
theorem ggL_law_X1_poll : GoodIn wsL_law wsX1_poll := goodIn_r _ [280, 21, 159, 160, 161, 18, 162, 32, 137, 138, 139, 140, 141, 121, 122, 123, 42, 124, 85, 86, 87, 88, 142, 143, 144, 145, 41, 93, 94, 95, 96, 478, 479, 480, 481, 482, 483, 484, 485, 486, 497, 498, 499] (by decide +kernel) (by decide +kernel)
set_option maxRecDepth 20000 in
theorem gL_law_X1_poll : GoodIn wsL_law (wsV RL 72 RX1 yX1_poll wsX1_poll) := goodIn_app (goodIn_of _ (by decide +kernel)) ggL_law_X1_poll
set_option maxRecDepth 20000 in
theorem ggL_law_X3_poll : GoodIn wsL_law wsX3_poll := goodIn_r _ [284, 52, 270, 271, 272, 5, 273, 101, 179, 180, 274, 275, 276, 129, 130, 131, 132, 102, 150, 151, 152, 49, 153, 107, 62, 63, 64, 487, 488, 489, 490, 491, 492, 493, 494, 495, 496, 500, 501, 502, 503] (by decide +kernel) (by decide +kernel)
set_option maxRecDepth 20000 in
theorem gL_law_X3_poll : GoodIn wsL_law (wsV RL 76 RX3 yX3_poll wsX3_poll) := goodIn_app (goodIn_of _ (by decide +kernel)) ggL_law_X3_poll
set_option maxRecDepth 20000 in
theorem ggL_law_X1_between : GoodIn wsL_law wsX1_between := goodIn_r _ [288, 21, 69, 70, 2, 71, 72, 264, 78, 79, 18, 80, 32, 41, 478, 479, 480, 481, 482, 483, 484, 485, 486, 497, 498, 499] (by decide +kernel) (by decide +kernel)
set_option maxRecDepth 20000 in
theorem gL_law_X1_between : GoodIn wsL_law (wsV RL 77 RX1 yX1_between wsX1_between) := goodIn_app (goodIn_of _ (by decide +kernel)) ggL_law_X1_between
set_option maxRecDepth 20000 in
theorem ggL_law_X3_between : GoodIn wsL_law wsX3_between := goodIn_r _ [292, 52, 101, 179, 180, 274, 275, 5, 276, 487, 488, 489, 490, 491, 492, 493, 494, 495, 496, 500, 501, 502, 503] (by decide +kernel) (by decide +kernel)
set_option maxRecDepth 20000 in
theorem gL_law_X3_between : GoodIn wsL_law (wsV RL 81 RX3 yX3_between wsX3_between) := goodIn_app (goodIn_of _ (by decide +kernel)) ggL_law_X3_between
set_option maxRecDepth 20000 in
theorem ggL_law_X1_sign : GoodIn wsL_law wsX1_sign := goodIn_r _ [296, 26, 297, 298, 2, 299, 300, 301, 302, 158, 303, 304, 305, 478, 479, 480, 481, 482, 483, 484, 485, 486] (by decide +kernel) (by decide +kernel)
set_option maxRecDepth 20000 in
theorem gL_law_X1_sign : GoodIn wsL_law (wsV RL 82 RX1 yX1_sign wsX1_sign) := goodIn_app (goodIn_of _ (by decide +kernel)) ggL_law_X1_sign
set_option maxRecDepth 20000 in
theorem ggL_law_X3_sign : GoodIn wsL_law wsX3_sign := goodIn_r _ [309, 310, 58, 487, 488, 489, 490, 491, 492, 493, 494, 495, 496] (by decide +kernel) (by decide +kernel)
set_option maxRecDepth 20000 in
theorem gL_law_X3_sign : GoodIn wsL_law (wsV RL 86 RX3 yX3_sign wsX3_sign) := goodIn_app (goodIn_of _ (by decide +kernel)) ggL_law_X3_sign
set_option maxRecDepth 20000 in
theorem ggL_law_X1_erase : GoodIn wsL_law wsX1_erase := goodIn_r _ [314, 315, 316, 317, 2, 318, 26, 297, 298, 299, 300, 301, 302, 158, 303, 304, 305, 478, 479, 480, 481, 482, 483, 484, 485, 486] (by decide +kernel) (by decide +kernel)
set_option maxRecDepth 20000 in
theorem gL_law_X1_erase : GoodIn wsL_law (wsV RL 87 RX1 yX1_erase wsX1_erase) := goodIn_app (goodIn_of _ (by decide +kernel)) ggL_law_X1_erase
set_option maxRecDepth 20000 in
theorem ggL_law_X3_erase : GoodIn wsL_law wsX3_erase := goodIn_r _ [322, 310, 487, 488, 489, 490, 491, 492, 493, 494, 495, 496] (by decide +kernel) (by decide +kernel)
set_option maxRecDepth 20000 in
theorem gL_law_X3_erase : GoodIn wsL_law (wsV RL 90 RX3 yX3_erase wsX3_erase) := goodIn_app (goodIn_of _ (by decide +kernel)) ggL_law_X3_erase
set_option maxRecDepth 20000 in
theorem ggL_law_X1_line : GoodIn wsL_law wsX1_line := goodIn_r _ [326, 22, 315, 316, 317, 2, 318, 26, 259, 260, 261, 18, 262, 263, 32, 77, 78, 79, 80, 41, 327, 90, 91, 92, 93, 94, 95, 96, 42, 264, 478, 479, 480, 481, 482, 483, 484, 485, 486, 497, 498, 499] (by decide +kernel) (by decide +kernel)
set_option maxRecDepth 20000 in
theorem gL_law_X1_line : GoodIn wsL_law (wsV RL 91 RX1 yX1_line wsX1_line) := goodIn_app (goodIn_of _ (by decide +kernel)) ggL_law_X1_line
set_option maxRecDepth 20000 in
theorem ggL_law_X3_line : GoodIn wsL_law wsX3_line := goodIn_r _ [331, 310, 332, 57, 56, 55, 333, 334, 335, 5, 336, 337, 338, 339, 340, 341, 342, 343, 344, 345, 346, 347, 348, 58, 108, 109, 110, 49, 111, 107, 62, 40, 63, 64, 349, 350, 351, 352, 101, 179, 487, 488, 489, 490, 491, 492, 493, 494, 495, 496, 500, 501, 502, 503] (by decide +kernel) (by decide +kernel)
set_option maxRecDepth 20000 in
theorem gL_law_X3_line : GoodIn wsL_law (wsV RL 94 RX3 yX3_line wsX3_line) := goodIn_app (goodIn_of _ (by decide +kernel)) ggL_law_X3_line
set_option maxRecDepth 20000 in
theorem ggL_law_X1_read : GoodIn wsL_law wsX1_read := goodIn_r _ [356, 22, 228, 315, 316, 317, 2, 318, 26, 264, 78, 79, 18, 80, 32, 41, 259, 260, 261, 262, 263, 77, 120, 121, 122, 123, 42, 124, 85, 86, 87, 88, 478, 479, 480, 481, 482, 483, 484, 485, 486, 497, 498, 499] (by decide +kernel) (by decide +kernel)
set_option maxRecDepth 20000 in
theorem gL_law_X1_read : GoodIn wsL_law (wsV RL 95 RX1 yX1_read wsX1_read) := goodIn_app (goodIn_of _ (by decide +kernel)) ggL_law_X1_read
set_option maxRecDepth 20000 in
theorem ggL_law_X3_read : GoodIn wsL_law wsX3_read := goodIn_r _ [360, 310, 132, 55, 101, 179, 102, 333, 334, 335, 5, 336, 332, 337, 338, 339, 340, 341, 342, 343, 344, 57, 345, 346, 347, 348, 58, 487, 488, 489, 490, 491, 492, 493, 494, 495, 496, 500, 501, 502, 503] (by decide +kernel) (by decide +kernel)
set_option maxRecDepth 20000 in
theorem gL_law_X3_read : GoodIn wsL_law (wsV RL 99 RX3 yX3_read wsX3_read) := goodIn_app (goodIn_of _ (by decide +kernel)) ggL_law_X3_read
set_option maxRecDepth 20000 in
theorem ggL_law_X1_next : GoodIn wsL_law wsX1_next := goodIn_r _ [364, 22, 26, 259, 260, 261, 18, 262, 263, 32, 77, 78, 79, 80, 41, 159, 160, 161, 162, 163, 164, 165, 166, 124, 85, 86, 87, 88, 297, 298, 2, 299, 300, 301, 302, 158, 303, 304, 305, 478, 479, 480, 481, 482, 483, 484, 485, 486, 497, 498, 499] (by decide +kernel) (by decide +kernel)
set_option maxRecDepth 20000 in
theorem gL_law_X1_next : GoodIn wsL_law (wsV RL 100 RX1 yX1_next wsX1_next) := goodIn_app (goodIn_of _ (by decide +kernel)) ggL_law_X1_next
set_option maxRecDepth 20000 in
theorem ggL_law_X3_next : GoodIn wsL_law wsX3_next := goodIn_r _ [368, 332, 310, 58, 349, 350, 351, 5, 352, 55, 101, 179, 337, 338, 339, 340, 341, 342, 343, 344, 57, 345, 346, 347, 348, 369, 370, 371, 372, 487, 488, 489, 490, 491, 492, 493, 494, 495, 496, 500, 501, 502, 503] (by decide +kernel) (by decide +kernel)
set_option maxRecDepth 20000 in
theorem gL_law_X3_next : GoodIn wsL_law (wsV RL 103 RX3 yX3_next wsX3_next) := goodIn_app (goodIn_of _ (by decide +kernel)) ggL_law_X3_next
set_option maxRecDepth 20000 in
theorem ggL_law_X1_letter : GoodIn wsL_law wsX1_letter := goodIn_r _ [376, 26, 297, 298, 2, 299, 300, 301, 302, 158, 303, 304, 305, 478, 479, 480, 481, 482, 483, 484, 485, 486] (by decide +kernel) (by decide +kernel)
set_option maxRecDepth 20000 in
theorem gL_law_X1_letter : GoodIn wsL_law (wsV RL 104 RX1 yX1_letter wsX1_letter) := goodIn_app (goodIn_of _ (by decide +kernel)) ggL_law_X1_letter
set_option maxRecDepth 20000 in
theorem ggL_law_X3_letter : GoodIn wsL_law wsX3_letter := goodIn_r _ [380, 310, 58, 487, 488, 489, 490, 491, 492, 493, 494, 495, 496] (by decide +kernel) (by decide +kernel)
set_option maxRecDepth 20000 in
theorem gL_law_X3_letter : GoodIn wsL_law (wsV RL 107 RX3 yX3_letter wsX3_letter) := goodIn_app (goodIn_of _ (by decide +kernel)) ggL_law_X3_letter
set_option maxRecDepth 20000 in
theorem ggL_law_X1_forget : GoodIn wsL_law wsX1_forget := goodIn_r _ [384, 22, 315, 316, 317, 2, 318, 26, 264, 78, 79, 18, 80, 32, 41, 259, 260, 261, 262, 263, 77, 385, 143, 144, 145, 93, 94, 95, 96, 42, 478, 479, 480, 481, 482, 483, 484, 485, 486, 497, 498, 499] (by decide +kernel) (by decide +kernel)
set_option maxRecDepth 20000 in
theorem gL_law_X1_forget : GoodIn wsL_law (wsV RL 108 RX1 yX1_forget wsX1_forget) := goodIn_app (goodIn_of _ (by decide +kernel)) ggL_law_X1_forget
set_option maxRecDepth 20000 in
theorem ggL_law_X3_forget : GoodIn wsL_law wsX3_forget := goodIn_r _ [389, 310, 55, 101, 179, 333, 334, 335, 5, 336, 332, 337, 338, 339, 340, 341, 342, 343, 344, 57, 345, 346, 347, 348, 58, 349, 350, 351, 352, 150, 151, 152, 49, 153, 107, 62, 63, 64, 487, 488, 489, 490, 491, 492, 493, 494, 495, 496, 500, 501, 502, 503] (by decide +kernel) (by decide +kernel)
set_option maxRecDepth 20000 in
theorem gL_law_X3_forget : GoodIn wsL_law (wsV RL 111 RX3 yX3_forget wsX3_forget) := goodIn_app (goodIn_of _ (by decide +kernel)) ggL_law_X3_forget
set_option maxRecDepth 20000 in
theorem ggL_law_X1_mark : GoodIn wsL_law wsX1_mark := goodIn_r _ [393, 24, 69, 70, 2, 71, 72, 116, 117, 118, 18, 119, 77, 78, 79, 80, 32, 41, 81, 82, 83, 84, 85, 86, 87, 88, 208, 209, 210, 211, 124, 42, 89, 90, 91, 92, 93, 94, 95, 96, 137, 138, 139, 140, 141, 121, 122, 123, 142, 143, 144, 145, 159, 160, 161, 162, 478, 479, 480, 481, 482, 483, 484, 485, 486, 497, 498, 499] (by decide +kernel) (by decide +kernel)
set_option maxRecDepth 20000 in
theorem gL_law_X1_mark : GoodIn wsL_law (wsV RL 112 RX1 yX1_mark wsX1_mark) := goodIn_app (goodIn_of _ (by decide +kernel)) ggL_law_X1_mark
set_option maxRecDepth 20000 in
theorem ggL_law_X3_mark : GoodIn wsL_law wsX3_mark := goodIn_r _ [397, 53, 101, 103, 104, 105, 49, 106, 107, 62, 63, 108, 109, 110, 111, 56, 40, 64, 150, 151, 152, 153, 487, 488, 489, 490, 491, 492, 493, 494, 495, 496, 500, 501, 502, 503] (by decide +kernel) (by decide +kernel)
set_option maxRecDepth 20000 in
theorem gL_law_X3_mark : GoodIn wsL_law (wsV RL 116 RX3 yX3_mark wsX3_mark) := goodIn_app (goodIn_of _ (by decide +kernel)) ggL_law_X3_mark
set_option maxRecDepth 20000 in
theorem ggL_law_X1_around : GoodIn wsL_law wsX1_around := goodIn_r _ [401, 24, 69, 70, 2, 71, 72, 237, 238, 239, 18, 240, 241, 117, 118, 119, 77, 78, 79, 80, 32, 41, 81, 82, 83, 84, 85, 86, 87, 88, 478, 479, 480, 481, 482, 483, 484, 485, 486, 497, 498, 499] (by decide +kernel) (by decide +kernel)
set_option maxRecDepth 20000 in
theorem gL_law_X1_around : GoodIn wsL_law (wsV RL 117 RX1 yX1_around wsX1_around) := goodIn_app (goodIn_of _ (by decide +kernel)) ggL_law_X1_around
set_option maxRecDepth 20000 in
theorem ggL_law_X3_around : GoodIn wsL_law wsX3_around := goodIn_r _ [405, 53, 103, 104, 105, 49, 106, 107, 62, 63, 487, 488, 489, 490, 491, 492, 493, 494, 495, 496, 500, 501, 502, 503] (by decide +kernel) (by decide +kernel)
set_option maxRecDepth 20000 in
theorem gL_law_X3_around : GoodIn wsL_law (wsV RL 120 RX3 yX3_around wsX3_around) := goodIn_app (goodIn_of _ (by decide +kernel)) ggL_law_X3_around
set_option maxRecDepth 20000 in
theorem ggL_law_X1_step : GoodIn wsL_law wsX1_step := goodIn_r _ [409, 24, 25, 159, 160, 161, 18, 162, 32, 410, 411, 412, 2, 413, 192, 193, 194, 195, 163, 164, 165, 166, 41, 124, 85, 86, 87, 88, 167, 168, 169, 170, 171, 172, 173, 414, 415, 416, 417, 69, 70, 71, 72, 73, 74, 75, 76, 42, 77, 78, 79, 80, 81, 82, 83, 84, 89, 90, 91, 92, 93, 94, 95, 96, 120, 121, 122, 123, 418, 419, 420, 421, 422, 423, 237, 238, 239, 240, 241, 117, 118, 119, 188, 189, 190, 191, 478, 479, 480, 481, 482, 483, 484, 485, 486, 497, 498, 499] (by decide +kernel) (by decide +kernel)
set_option maxRecDepth 20000 in
theorem gL_law_X1_step : GoodIn wsL_law (wsV RL 121 RX1 yX1_step wsX1_step) := goodIn_app (goodIn_of _ (by decide +kernel)) ggL_law_X1_step
set_option maxRecDepth 20000 in
theorem ggL_law_X3_step : GoodIn wsL_law wsX3_step := goodIn_r _ [427, 53, 101, 47, 48, 49, 179, 180, 59, 60, 61, 14, 15, 56, 62, 63, 40, 64, 428, 403, 404, 5, 405, 103, 104, 105, 106, 107, 108, 109, 110, 111, 487, 488, 489, 490, 491, 492, 493, 494, 495, 496, 500, 501, 502, 503] (by decide +kernel) (by decide +kernel)
set_option maxRecDepth 20000 in
theorem gL_law_X3_step : GoodIn wsL_law (wsV RL 124 RX3 yX3_step wsX3_step) := goodIn_app (goodIn_of _ (by decide +kernel)) ggL_law_X3_step
set_option maxRecDepth 20000 in
theorem ggL_law_X1_put : GoodIn wsL_law wsX1_put := goodIn_r _ [432, 23, 69, 70, 2, 71, 72, 208, 209, 210, 18, 211, 124, 42, 77, 78, 79, 80, 32, 41, 81, 82, 83, 84, 85, 86, 87, 88, 89, 90, 91, 92, 93, 94, 95, 96, 478, 479, 480, 481, 482, 483, 484, 485, 486, 497, 498, 499] (by decide +kernel) (by decide +kernel)
set_option maxRecDepth 20000 in
theorem gL_law_X1_put : GoodIn wsL_law (wsV RL 125 RX1 yX1_put wsX1_put) := goodIn_app (goodIn_of _ (by decide +kernel)) ggL_law_X1_put
set_option maxRecDepth 20000 in
theorem ggL_law_X3_put : GoodIn wsL_law wsX3_put := goodIn_r _ [436, 54, 102, 103, 104, 105, 49, 106, 107, 62, 63, 129, 130, 5, 131, 132, 108, 109, 110, 111, 56, 40, 64, 487, 488, 489, 490, 491, 492, 493, 494, 495, 496, 500, 501, 502, 503] (by decide +kernel) (by decide +kernel)
set_option maxRecDepth 20000 in
theorem gL_law_X3_put : GoodIn wsL_law (wsV RL 128 RX3 yX3_put wsX3_put) := goodIn_app (goodIn_of _ (by decide +kernel)) ggL_law_X3_put
set_option maxRecDepth 20000 in
theorem ggL_law_X1_get : GoodIn wsL_law wsX1_get := goodIn_r _ [440, 23, 69, 70, 2, 71, 72, 116, 117, 118, 18, 119, 77, 78, 79, 80, 32, 41, 81, 82, 83, 84, 85, 86, 87, 88, 120, 121, 122, 123, 42, 124, 478, 479, 480, 481, 482, 483, 484, 485, 486, 497, 498, 499] (by decide +kernel) (by decide +kernel)
set_option maxRecDepth 20000 in
theorem gL_law_X1_get : GoodIn wsL_law (wsV RL 129 RX1 yX1_get wsX1_get) := goodIn_app (goodIn_of _ (by decide +kernel)) ggL_law_X1_get
set_option maxRecDepth 20000 in
theorem ggL_law_X3_get : GoodIn wsL_law wsX3_get := goodIn_r _ [444, 54, 103, 104, 105, 49, 106, 107, 62, 63, 129, 130, 5, 131, 132, 102, 487, 488, 489, 490, 491, 492, 493, 494, 495, 496, 500, 501, 502, 503] (by decide +kernel) (by decide +kernel)
set_option maxRecDepth 20000 in
theorem gL_law_X3_get : GoodIn wsL_law (wsV RL 132 RX3 yX3_get wsX3_get) := goodIn_app (goodIn_of _ (by decide +kernel)) ggL_law_X3_get
set_option maxRecDepth 20000 in
theorem ggL_law_X1_end : GoodIn wsL_law wsX1_end := goodIn_r _ [448, 23, 449, 228, 69, 70, 2, 71, 72, 259, 260, 261, 18, 262, 263, 32, 77, 78, 79, 80, 41, 163, 164, 165, 166, 124, 85, 86, 87, 88, 167, 168, 169, 170, 171, 172, 173, 478, 479, 480, 481, 482, 483, 484, 485, 486, 497, 498, 499] (by decide +kernel) (by decide +kernel)
set_option maxRecDepth 20000 in
theorem gL_law_X1_end : GoodIn wsL_law (wsV RL 133 RX1 yX1_end wsX1_end) := goodIn_app (goodIn_of _ (by decide +kernel)) ggL_law_X1_end
set_option maxRecDepth 20000 in
theorem ggL_law_X3_end : GoodIn wsL_law wsX3_end := goodIn_r _ [453, 132, 54, 101, 179, 180, 487, 488, 489, 490, 491, 492, 493, 494, 495, 496, 500, 501, 502, 503] (by decide +kernel) (by decide +kernel)
set_option maxRecDepth 20000 in
theorem gL_law_X3_end : GoodIn wsL_law (wsV RL 136 RX3 yX3_end wsX3_end) := goodIn_app (goodIn_of _ (by decide +kernel)) ggL_law_X3_end
set_option maxRecDepth 20000 in
theorem ggL_law_X1_cut : GoodIn wsL_law wsX1_cut := goodIn_r _ [457, 23, 69, 70, 2, 71, 72, 116, 117, 118, 18, 119, 77, 78, 79, 80, 32, 41, 81, 82, 83, 84, 85, 86, 87, 88, 137, 138, 139, 140, 141, 121, 122, 123, 42, 124, 142, 143, 144, 145, 93, 94, 95, 96, 458, 459, 460, 461, 478, 479, 480, 481, 482, 483, 484, 485, 486, 497, 498, 499] (by decide +kernel) (by decide +kernel)
set_option maxRecDepth 20000 in
theorem gL_law_X1_cut : GoodIn wsL_law (wsV RL 137 RX1 yX1_cut wsX1_cut) := goodIn_app (goodIn_of _ (by decide +kernel)) ggL_law_X1_cut
set_option maxRecDepth 20000 in
theorem ggL_law_X3_cut : GoodIn wsL_law wsX3_cut := goodIn_r _ [465, 54, 103, 104, 105, 49, 106, 107, 62, 63, 150, 151, 152, 153, 64, 466, 467, 468, 5, 469, 101, 179, 487, 488, 489, 490, 491, 492, 493, 494, 495, 496, 500, 501, 502, 503] (by decide +kernel) (by decide +kernel)
set_option maxRecDepth 20000 in
theorem gL_law_X3_cut : GoodIn wsL_law (wsV RL 140 RX3 yX3_cut wsX3_cut) := goodIn_app (goodIn_of _ (by decide +kernel)) ggL_law_X3_cut
set_option maxRecDepth 20000 in
theorem ggL_law_X1_size : GoodIn wsL_law wsX1_size := goodIn_r _ [473, 19, 20, 21, 22, 24, 23, 159, 160, 161, 18, 162, 32, 458, 459, 460, 461, 41, 478, 479, 480, 481, 482, 483, 484, 485, 486, 497, 498, 499] (by decide +kernel) (by decide +kernel)
set_option maxRecDepth 20000 in
theorem gL_law_X1_size : GoodIn wsL_law (wsV RL 141 RX1 yX1_size wsX1_size) := goodIn_app (goodIn_of _ (by decide +kernel)) ggL_law_X1_size
set_option maxRecDepth 20000 in
theorem ggL_law_X3_size : GoodIn wsL_law wsX3_size := goodIn_r _ [477, 50, 101, 51, 52, 332, 53, 54, 349, 350, 351, 5, 352, 55, 179, 466, 467, 468, 469, 487, 488, 489, 490, 491, 492, 493, 494, 495, 496, 500, 501, 502, 503] (by decide +kernel) (by decide +kernel)
set_option maxRecDepth 20000 in
theorem gL_law_X3_size : GoodIn wsL_law (wsV RL 144 RX3 yX3_size wsX3_size) := goodIn_app (goodIn_of _ (by decide +kernel)) ggL_law_X3_size
theorem dL_law_0 : decode cL_law 0 = .ok (.new 7, 3) := by decide +kernel
theorem dL_law_3 : decode cL_law 3 = .ok (.dup, 1) := by decide +kernel
theorem dL_law_4 : decode cL_law 4 = .ok (.aload_n 0, 1) := by decide +kernel
theorem dL_law_5 : decode cL_law 5 = .ok (.iconst 0, 1) := by decide +kernel
theorem dL_law_6 : decode cL_law 6 = .ok (.invokestatic 9, 3) := by decide +kernel
theorem dL_law_9 : decode cL_law 9 = .ok (.invokespecial 15, 3) := by decide +kernel
theorem dL_law_12 : decode cL_law 12 = .ok (.astore_n 1, 1) := by decide +kernel
theorem dL_law_13 : decode cL_law 13 = .ok (.new 18, 3) := by decide +kernel
theorem dL_law_16 : decode cL_law 16 = .ok (.dup, 1) := by decide +kernel
theorem dL_law_17 : decode cL_law 17 = .ok (.aload_n 0, 1) := by decide +kernel
theorem dL_law_18 : decode cL_law 18 = .ok (.iconst 0, 1) := by decide +kernel
theorem dL_law_19 : decode cL_law 19 = .ok (.invokestatic 9, 3) := by decide +kernel
theorem dL_law_22 : decode cL_law 22 = .ok (.invokespecial 20, 3) := by decide +kernel
theorem dL_law_25 : decode cL_law 25 = .ok (.astore_n 2, 1) := by decide +kernel
theorem dL_law_26 : decode cL_law 26 = .ok (.iconst 1, 1) := by decide +kernel
theorem dL_law_27 : decode cL_law 27 = .ok (.istore_n 3, 1) := by decide +kernel
theorem dL_law_28 : decode cL_law 28 = .ok (.iload_n 3, 1) := by decide +kernel
theorem dL_law_29 : decode cL_law 29 = .ok (.aload_n 0, 1) := by decide +kernel
theorem dL_law_30 : decode cL_law 30 = .ok (.arraylength, 1) := by decide +kernel
theorem dL_law_31 : decode cL_law 31 = .ok (.iconst 5, 1) := by decide +kernel
theorem dL_law_32 : decode cL_law 32 = .ok (.isub, 1) := by decide +kernel
theorem dL_law_33 : decode cL_law 33 = .ok (.if_icmp .gt 1001, 3) := by decide +kernel
theorem dL_law_36 : decode cL_law 36 = .ok (.aload_n 0, 1) := by decide +kernel
theorem dL_law_37 : decode cL_law 37 = .ok (.iload_n 3, 1) := by decide +kernel
theorem dL_law_38 : decode cL_law 38 = .ok (.iaload, 1) := by decide +kernel
theorem dL_law_39 : decode cL_law 39 = .ok (.bipush 31, 2) := by decide +kernel
theorem dL_law_41 : decode cL_law 41 = .ok (.iand, 1) := by decide +kernel
theorem dL_law_42 : decode cL_law 42 = .ok (.tableswitch 986 0 27 #[126, 170, 204, 238, 252, 265, 298, 331, 381, 394, 438, 524, 564, 617, 640, 653, 676, 700, 713, 736, 749, 782, 815, 828, 872, 906, 930, 963], 126) := by decide +kernel
theorem dL_law_168 : decode cL_law 168 = .ok (.aload_n 1, 1) := by decide +kernel
theorem dL_law_169 : decode cL_law 169 = .ok (.aload_n 0, 1) := by decide +kernel
theorem dL_law_170 : decode cL_law 170 = .ok (.iload_n 3, 1) := by decide +kernel
theorem dL_law_171 : decode cL_law 171 = .ok (.iconst 1, 1) := by decide +kernel
theorem dL_law_172 : decode cL_law 172 = .ok (.iadd, 1) := by decide +kernel
theorem dL_law_173 : decode cL_law 173 = .ok (.iaload, 1) := by decide +kernel
theorem dL_law_174 : decode cL_law 174 = .ok (.aload_n 0, 1) := by decide +kernel
theorem dL_law_175 : decode cL_law 175 = .ok (.iload_n 3, 1) := by decide +kernel
theorem dL_law_176 : decode cL_law 176 = .ok (.iconst 2, 1) := by decide +kernel
theorem dL_law_177 : decode cL_law 177 = .ok (.iadd, 1) := by decide +kernel
theorem dL_law_178 : decode cL_law 178 = .ok (.iaload, 1) := by decide +kernel
theorem dL_law_179 : decode cL_law 179 = .ok (.aload_n 0, 1) := by decide +kernel
theorem dL_law_180 : decode cL_law 180 = .ok (.iload_n 3, 1) := by decide +kernel
theorem dL_law_181 : decode cL_law 181 = .ok (.iconst 3, 1) := by decide +kernel
theorem dL_law_182 : decode cL_law 182 = .ok (.iadd, 1) := by decide +kernel
theorem dL_law_183 : decode cL_law 183 = .ok (.iaload, 1) := by decide +kernel
theorem dL_law_184 : decode cL_law 184 = .ok (.invokevirtual 21, 3) := by decide +kernel
theorem dL_law_187 : decode cL_law 187 = .ok (.aload_n 2, 1) := by decide +kernel
theorem dL_law_188 : decode cL_law 188 = .ok (.aload_n 0, 1) := by decide +kernel
theorem dL_law_189 : decode cL_law 189 = .ok (.iload_n 3, 1) := by decide +kernel
theorem dL_law_190 : decode cL_law 190 = .ok (.iconst 1, 1) := by decide +kernel
theorem dL_law_191 : decode cL_law 191 = .ok (.iadd, 1) := by decide +kernel
theorem dL_law_192 : decode cL_law 192 = .ok (.iaload, 1) := by decide +kernel
theorem dL_law_193 : decode cL_law 193 = .ok (.aload_n 0, 1) := by decide +kernel
theorem dL_law_194 : decode cL_law 194 = .ok (.iload_n 3, 1) := by decide +kernel
theorem dL_law_195 : decode cL_law 195 = .ok (.iconst 2, 1) := by decide +kernel
theorem dL_law_196 : decode cL_law 196 = .ok (.iadd, 1) := by decide +kernel
theorem dL_law_197 : decode cL_law 197 = .ok (.iaload, 1) := by decide +kernel
theorem dL_law_198 : decode cL_law 198 = .ok (.aload_n 0, 1) := by decide +kernel
theorem dL_law_199 : decode cL_law 199 = .ok (.iload_n 3, 1) := by decide +kernel
theorem dL_law_200 : decode cL_law 200 = .ok (.iconst 3, 1) := by decide +kernel
theorem dL_law_201 : decode cL_law 201 = .ok (.iadd, 1) := by decide +kernel
theorem dL_law_202 : decode cL_law 202 = .ok (.iaload, 1) := by decide +kernel
theorem dL_law_203 : decode cL_law 203 = .ok (.invokevirtual 25, 3) := by decide +kernel
theorem dL_law_206 : decode cL_law 206 = .ok (.lcmp, 1) := by decide +kernel
theorem dL_law_207 : decode cL_law 207 = .ok (.ifCond .eq 821, 3) := by decide +kernel
theorem dL_law_210 : decode cL_law 210 = .ok (.iconst 0, 1) := by decide +kernel
theorem dL_law_211 : decode cL_law 211 = .ok (.ireturn, 1) := by decide +kernel
theorem dL_law_212 : decode cL_law 212 = .ok (.aload_n 1, 1) := by decide +kernel
theorem dL_law_213 : decode cL_law 213 = .ok (.aload_n 0, 1) := by decide +kernel
theorem dL_law_214 : decode cL_law 214 = .ok (.iload_n 3, 1) := by decide +kernel
theorem dL_law_215 : decode cL_law 215 = .ok (.iconst 1, 1) := by decide +kernel
theorem dL_law_216 : decode cL_law 216 = .ok (.iadd, 1) := by decide +kernel
theorem dL_law_217 : decode cL_law 217 = .ok (.iaload, 1) := by decide +kernel
theorem dL_law_218 : decode cL_law 218 = .ok (.aload_n 0, 1) := by decide +kernel
theorem dL_law_219 : decode cL_law 219 = .ok (.iload_n 3, 1) := by decide +kernel
theorem dL_law_220 : decode cL_law 220 = .ok (.iconst 2, 1) := by decide +kernel
theorem dL_law_221 : decode cL_law 221 = .ok (.iadd, 1) := by decide +kernel
theorem dL_law_222 : decode cL_law 222 = .ok (.iaload, 1) := by decide +kernel
theorem dL_law_223 : decode cL_law 223 = .ok (.invokevirtual 26, 3) := by decide +kernel
theorem dL_law_226 : decode cL_law 226 = .ok (.aload_n 2, 1) := by decide +kernel
theorem dL_law_227 : decode cL_law 227 = .ok (.aload_n 0, 1) := by decide +kernel
theorem dL_law_228 : decode cL_law 228 = .ok (.iload_n 3, 1) := by decide +kernel
theorem dL_law_229 : decode cL_law 229 = .ok (.iconst 1, 1) := by decide +kernel
theorem dL_law_230 : decode cL_law 230 = .ok (.iadd, 1) := by decide +kernel
theorem dL_law_231 : decode cL_law 231 = .ok (.iaload, 1) := by decide +kernel
theorem dL_law_232 : decode cL_law 232 = .ok (.aload_n 0, 1) := by decide +kernel
theorem dL_law_233 : decode cL_law 233 = .ok (.iload_n 3, 1) := by decide +kernel
theorem dL_law_234 : decode cL_law 234 = .ok (.iconst 2, 1) := by decide +kernel
theorem dL_law_235 : decode cL_law 235 = .ok (.iadd, 1) := by decide +kernel
theorem dL_law_236 : decode cL_law 236 = .ok (.iaload, 1) := by decide +kernel
theorem dL_law_237 : decode cL_law 237 = .ok (.invokevirtual 30, 3) := by decide +kernel
theorem dL_law_240 : decode cL_law 240 = .ok (.lcmp, 1) := by decide +kernel
theorem dL_law_241 : decode cL_law 241 = .ok (.ifCond .eq 787, 3) := by decide +kernel
theorem dL_law_244 : decode cL_law 244 = .ok (.iconst 0, 1) := by decide +kernel
theorem dL_law_245 : decode cL_law 245 = .ok (.ireturn, 1) := by decide +kernel
theorem dL_law_246 : decode cL_law 246 = .ok (.aload_n 1, 1) := by decide +kernel
theorem dL_law_247 : decode cL_law 247 = .ok (.aload_n 0, 1) := by decide +kernel
theorem dL_law_248 : decode cL_law 248 = .ok (.iload_n 3, 1) := by decide +kernel
theorem dL_law_249 : decode cL_law 249 = .ok (.iconst 1, 1) := by decide +kernel
theorem dL_law_250 : decode cL_law 250 = .ok (.iadd, 1) := by decide +kernel
theorem dL_law_251 : decode cL_law 251 = .ok (.iaload, 1) := by decide +kernel
theorem dL_law_252 : decode cL_law 252 = .ok (.aload_n 0, 1) := by decide +kernel
theorem dL_law_253 : decode cL_law 253 = .ok (.iload_n 3, 1) := by decide +kernel
theorem dL_law_254 : decode cL_law 254 = .ok (.iconst 2, 1) := by decide +kernel
theorem dL_law_255 : decode cL_law 255 = .ok (.iadd, 1) := by decide +kernel
theorem dL_law_256 : decode cL_law 256 = .ok (.iaload, 1) := by decide +kernel
theorem dL_law_257 : decode cL_law 257 = .ok (.invokevirtual 31, 3) := by decide +kernel
theorem dL_law_260 : decode cL_law 260 = .ok (.aload_n 2, 1) := by decide +kernel
theorem dL_law_261 : decode cL_law 261 = .ok (.aload_n 0, 1) := by decide +kernel
theorem dL_law_262 : decode cL_law 262 = .ok (.iload_n 3, 1) := by decide +kernel
theorem dL_law_263 : decode cL_law 263 = .ok (.iconst 1, 1) := by decide +kernel
theorem dL_law_264 : decode cL_law 264 = .ok (.iadd, 1) := by decide +kernel
theorem dL_law_265 : decode cL_law 265 = .ok (.iaload, 1) := by decide +kernel
theorem dL_law_266 : decode cL_law 266 = .ok (.aload_n 0, 1) := by decide +kernel
theorem dL_law_267 : decode cL_law 267 = .ok (.iload_n 3, 1) := by decide +kernel
theorem dL_law_268 : decode cL_law 268 = .ok (.iconst 2, 1) := by decide +kernel
theorem dL_law_269 : decode cL_law 269 = .ok (.iadd, 1) := by decide +kernel
theorem dL_law_270 : decode cL_law 270 = .ok (.iaload, 1) := by decide +kernel
theorem dL_law_271 : decode cL_law 271 = .ok (.invokevirtual 34, 3) := by decide +kernel
theorem dL_law_274 : decode cL_law 274 = .ok (.lcmp, 1) := by decide +kernel
theorem dL_law_275 : decode cL_law 275 = .ok (.ifCond .eq 753, 3) := by decide +kernel
theorem dL_law_278 : decode cL_law 278 = .ok (.iconst 0, 1) := by decide +kernel
theorem dL_law_279 : decode cL_law 279 = .ok (.ireturn, 1) := by decide +kernel
theorem dL_law_280 : decode cL_law 280 = .ok (.aload_n 1, 1) := by decide +kernel
theorem dL_law_281 : decode cL_law 281 = .ok (.invokevirtual 35, 3) := by decide +kernel
theorem dL_law_284 : decode cL_law 284 = .ok (.aload_n 2, 1) := by decide +kernel
theorem dL_law_285 : decode cL_law 285 = .ok (.invokevirtual 39, 3) := by decide +kernel
theorem dL_law_288 : decode cL_law 288 = .ok (.lcmp, 1) := by decide +kernel
theorem dL_law_289 : decode cL_law 289 = .ok (.ifCond .eq 739, 3) := by decide +kernel
theorem dL_law_292 : decode cL_law 292 = .ok (.iconst 0, 1) := by decide +kernel
theorem dL_law_293 : decode cL_law 293 = .ok (.ireturn, 1) := by decide +kernel
theorem dL_law_294 : decode cL_law 294 = .ok (.aload_n 1, 1) := by decide +kernel
theorem dL_law_295 : decode cL_law 295 = .ok (.invokevirtual 40, 3) := by decide +kernel
theorem dL_law_298 : decode cL_law 298 = .ok (.aload_n 2, 1) := by decide +kernel
theorem dL_law_299 : decode cL_law 299 = .ok (.invokevirtual 44, 3) := by decide +kernel
theorem dL_law_302 : decode cL_law 302 = .ok (.if_icmp .eq 726, 3) := by decide +kernel
theorem dL_law_305 : decode cL_law 305 = .ok (.iconst 0, 1) := by decide +kernel
theorem dL_law_306 : decode cL_law 306 = .ok (.ireturn, 1) := by decide +kernel
theorem dL_law_307 : decode cL_law 307 = .ok (.aload_n 1, 1) := by decide +kernel
theorem dL_law_308 : decode cL_law 308 = .ok (.aload_n 0, 1) := by decide +kernel
theorem dL_law_309 : decode cL_law 309 = .ok (.iload_n 3, 1) := by decide +kernel
theorem dL_law_310 : decode cL_law 310 = .ok (.iconst 1, 1) := by decide +kernel
theorem dL_law_311 : decode cL_law 311 = .ok (.iadd, 1) := by decide +kernel
theorem dL_law_312 : decode cL_law 312 = .ok (.iaload, 1) := by decide +kernel
theorem dL_law_313 : decode cL_law 313 = .ok (.aload_n 0, 1) := by decide +kernel
theorem dL_law_314 : decode cL_law 314 = .ok (.iload_n 3, 1) := by decide +kernel
theorem dL_law_315 : decode cL_law 315 = .ok (.iconst 2, 1) := by decide +kernel
theorem dL_law_316 : decode cL_law 316 = .ok (.iadd, 1) := by decide +kernel
theorem dL_law_317 : decode cL_law 317 = .ok (.iaload, 1) := by decide +kernel
theorem dL_law_318 : decode cL_law 318 = .ok (.invokevirtual 45, 3) := by decide +kernel
theorem dL_law_321 : decode cL_law 321 = .ok (.aload_n 2, 1) := by decide +kernel
theorem dL_law_322 : decode cL_law 322 = .ok (.aload_n 0, 1) := by decide +kernel
theorem dL_law_323 : decode cL_law 323 = .ok (.iload_n 3, 1) := by decide +kernel
theorem dL_law_324 : decode cL_law 324 = .ok (.iconst 1, 1) := by decide +kernel
theorem dL_law_325 : decode cL_law 325 = .ok (.iadd, 1) := by decide +kernel
theorem dL_law_326 : decode cL_law 326 = .ok (.iaload, 1) := by decide +kernel
theorem dL_law_327 : decode cL_law 327 = .ok (.aload_n 0, 1) := by decide +kernel
theorem dL_law_328 : decode cL_law 328 = .ok (.iload_n 3, 1) := by decide +kernel
theorem dL_law_329 : decode cL_law 329 = .ok (.iconst 2, 1) := by decide +kernel
theorem dL_law_330 : decode cL_law 330 = .ok (.iadd, 1) := by decide +kernel
theorem dL_law_331 : decode cL_law 331 = .ok (.iaload, 1) := by decide +kernel
theorem dL_law_332 : decode cL_law 332 = .ok (.invokevirtual 49, 3) := by decide +kernel
theorem dL_law_335 : decode cL_law 335 = .ok (.if_icmp .eq 693, 3) := by decide +kernel
theorem dL_law_338 : decode cL_law 338 = .ok (.iconst 0, 1) := by decide +kernel
theorem dL_law_339 : decode cL_law 339 = .ok (.ireturn, 1) := by decide +kernel
theorem dL_law_340 : decode cL_law 340 = .ok (.aload_n 1, 1) := by decide +kernel
theorem dL_law_341 : decode cL_law 341 = .ok (.aload_n 0, 1) := by decide +kernel
theorem dL_law_342 : decode cL_law 342 = .ok (.iload_n 3, 1) := by decide +kernel
theorem dL_law_343 : decode cL_law 343 = .ok (.iconst 1, 1) := by decide +kernel
theorem dL_law_344 : decode cL_law 344 = .ok (.iadd, 1) := by decide +kernel
theorem dL_law_345 : decode cL_law 345 = .ok (.iaload, 1) := by decide +kernel
theorem dL_law_346 : decode cL_law 346 = .ok (.aload_n 0, 1) := by decide +kernel
theorem dL_law_347 : decode cL_law 347 = .ok (.iload_n 3, 1) := by decide +kernel
theorem dL_law_348 : decode cL_law 348 = .ok (.iconst 2, 1) := by decide +kernel
theorem dL_law_349 : decode cL_law 349 = .ok (.iadd, 1) := by decide +kernel
theorem dL_law_350 : decode cL_law 350 = .ok (.iaload, 1) := by decide +kernel
theorem dL_law_351 : decode cL_law 351 = .ok (.invokevirtual 50, 3) := by decide +kernel
theorem dL_law_354 : decode cL_law 354 = .ok (.aload_n 2, 1) := by decide +kernel
theorem dL_law_355 : decode cL_law 355 = .ok (.aload_n 0, 1) := by decide +kernel
theorem dL_law_356 : decode cL_law 356 = .ok (.iload_n 3, 1) := by decide +kernel
theorem dL_law_357 : decode cL_law 357 = .ok (.iconst 1, 1) := by decide +kernel
theorem dL_law_358 : decode cL_law 358 = .ok (.iadd, 1) := by decide +kernel
theorem dL_law_359 : decode cL_law 359 = .ok (.iaload, 1) := by decide +kernel
theorem dL_law_360 : decode cL_law 360 = .ok (.aload_n 0, 1) := by decide +kernel
theorem dL_law_361 : decode cL_law 361 = .ok (.iload_n 3, 1) := by decide +kernel
theorem dL_law_362 : decode cL_law 362 = .ok (.iconst 2, 1) := by decide +kernel
theorem dL_law_363 : decode cL_law 363 = .ok (.iadd, 1) := by decide +kernel
theorem dL_law_364 : decode cL_law 364 = .ok (.iaload, 1) := by decide +kernel
theorem dL_law_365 : decode cL_law 365 = .ok (.invokevirtual 53, 3) := by decide +kernel
theorem dL_law_368 : decode cL_law 368 = .ok (.if_icmp .eq 660, 3) := by decide +kernel
theorem dL_law_371 : decode cL_law 371 = .ok (.iconst 0, 1) := by decide +kernel
theorem dL_law_372 : decode cL_law 372 = .ok (.ireturn, 1) := by decide +kernel
theorem dL_law_373 : decode cL_law 373 = .ok (.aload_n 1, 1) := by decide +kernel
theorem dL_law_374 : decode cL_law 374 = .ok (.aload_n 0, 1) := by decide +kernel
theorem dL_law_375 : decode cL_law 375 = .ok (.iload_n 3, 1) := by decide +kernel
theorem dL_law_376 : decode cL_law 376 = .ok (.iconst 1, 1) := by decide +kernel
theorem dL_law_377 : decode cL_law 377 = .ok (.iadd, 1) := by decide +kernel
theorem dL_law_378 : decode cL_law 378 = .ok (.iaload, 1) := by decide +kernel
theorem dL_law_379 : decode cL_law 379 = .ok (.aload_n 0, 1) := by decide +kernel
theorem dL_law_380 : decode cL_law 380 = .ok (.iload_n 3, 1) := by decide +kernel
theorem dL_law_381 : decode cL_law 381 = .ok (.iconst 2, 1) := by decide +kernel
theorem dL_law_382 : decode cL_law 382 = .ok (.iadd, 1) := by decide +kernel
theorem dL_law_383 : decode cL_law 383 = .ok (.iaload, 1) := by decide +kernel
theorem dL_law_384 : decode cL_law 384 = .ok (.ifCond .eq 7, 3) := by decide +kernel
theorem dL_law_387 : decode cL_law 387 = .ok (.iconst 1, 1) := by decide +kernel
theorem dL_law_388 : decode cL_law 388 = .ok (.goto 4, 3) := by decide +kernel
theorem dL_law_391 : decode cL_law 391 = .ok (.iconst 0, 1) := by decide +kernel
theorem dL_law_392 : decode cL_law 392 = .ok (.invokevirtual 54, 3) := by decide +kernel
theorem dL_law_395 : decode cL_law 395 = .ok (.aload_n 2, 1) := by decide +kernel
theorem dL_law_396 : decode cL_law 396 = .ok (.aload_n 0, 1) := by decide +kernel
theorem dL_law_397 : decode cL_law 397 = .ok (.iload_n 3, 1) := by decide +kernel
theorem dL_law_398 : decode cL_law 398 = .ok (.iconst 1, 1) := by decide +kernel
theorem dL_law_399 : decode cL_law 399 = .ok (.iadd, 1) := by decide +kernel
theorem dL_law_400 : decode cL_law 400 = .ok (.iaload, 1) := by decide +kernel
theorem dL_law_401 : decode cL_law 401 = .ok (.aload_n 0, 1) := by decide +kernel
theorem dL_law_402 : decode cL_law 402 = .ok (.iload_n 3, 1) := by decide +kernel
theorem dL_law_403 : decode cL_law 403 = .ok (.iconst 2, 1) := by decide +kernel
theorem dL_law_404 : decode cL_law 404 = .ok (.iadd, 1) := by decide +kernel
theorem dL_law_405 : decode cL_law 405 = .ok (.iaload, 1) := by decide +kernel
theorem dL_law_406 : decode cL_law 406 = .ok (.ifCond .eq 7, 3) := by decide +kernel
theorem dL_law_409 : decode cL_law 409 = .ok (.iconst 1, 1) := by decide +kernel
theorem dL_law_410 : decode cL_law 410 = .ok (.goto 4, 3) := by decide +kernel
theorem dL_law_413 : decode cL_law 413 = .ok (.iconst 0, 1) := by decide +kernel
theorem dL_law_414 : decode cL_law 414 = .ok (.invokevirtual 58, 3) := by decide +kernel
theorem dL_law_417 : decode cL_law 417 = .ok (.lcmp, 1) := by decide +kernel
theorem dL_law_418 : decode cL_law 418 = .ok (.ifCond .eq 610, 3) := by decide +kernel
theorem dL_law_421 : decode cL_law 421 = .ok (.iconst 0, 1) := by decide +kernel
theorem dL_law_422 : decode cL_law 422 = .ok (.ireturn, 1) := by decide +kernel
theorem dL_law_423 : decode cL_law 423 = .ok (.aload_n 1, 1) := by decide +kernel
theorem dL_law_424 : decode cL_law 424 = .ok (.invokevirtual 59, 3) := by decide +kernel
theorem dL_law_427 : decode cL_law 427 = .ok (.aload_n 2, 1) := by decide +kernel
theorem dL_law_428 : decode cL_law 428 = .ok (.invokevirtual 62, 3) := by decide +kernel
theorem dL_law_431 : decode cL_law 431 = .ok (.if_icmp .eq 597, 3) := by decide +kernel
theorem dL_law_434 : decode cL_law 434 = .ok (.iconst 0, 1) := by decide +kernel
theorem dL_law_435 : decode cL_law 435 = .ok (.ireturn, 1) := by decide +kernel
theorem dL_law_436 : decode cL_law 436 = .ok (.aload_n 1, 1) := by decide +kernel
theorem dL_law_437 : decode cL_law 437 = .ok (.aload_n 0, 1) := by decide +kernel
theorem dL_law_438 : decode cL_law 438 = .ok (.iload_n 3, 1) := by decide +kernel
theorem dL_law_439 : decode cL_law 439 = .ok (.iconst 1, 1) := by decide +kernel
theorem dL_law_440 : decode cL_law 440 = .ok (.iadd, 1) := by decide +kernel
theorem dL_law_441 : decode cL_law 441 = .ok (.iaload, 1) := by decide +kernel
theorem dL_law_442 : decode cL_law 442 = .ok (.aload_n 0, 1) := by decide +kernel
theorem dL_law_443 : decode cL_law 443 = .ok (.iload_n 3, 1) := by decide +kernel
theorem dL_law_444 : decode cL_law 444 = .ok (.iconst 2, 1) := by decide +kernel
theorem dL_law_445 : decode cL_law 445 = .ok (.iadd, 1) := by decide +kernel
theorem dL_law_446 : decode cL_law 446 = .ok (.iaload, 1) := by decide +kernel
theorem dL_law_447 : decode cL_law 447 = .ok (.aload_n 0, 1) := by decide +kernel
theorem dL_law_448 : decode cL_law 448 = .ok (.iload_n 3, 1) := by decide +kernel
theorem dL_law_449 : decode cL_law 449 = .ok (.iconst 3, 1) := by decide +kernel
theorem dL_law_450 : decode cL_law 450 = .ok (.iadd, 1) := by decide +kernel
theorem dL_law_451 : decode cL_law 451 = .ok (.iaload, 1) := by decide +kernel
theorem dL_law_452 : decode cL_law 452 = .ok (.invokevirtual 63, 3) := by decide +kernel
theorem dL_law_455 : decode cL_law 455 = .ok (.aload_n 2, 1) := by decide +kernel
theorem dL_law_456 : decode cL_law 456 = .ok (.aload_n 0, 1) := by decide +kernel
theorem dL_law_457 : decode cL_law 457 = .ok (.iload_n 3, 1) := by decide +kernel
theorem dL_law_458 : decode cL_law 458 = .ok (.iconst 1, 1) := by decide +kernel
theorem dL_law_459 : decode cL_law 459 = .ok (.iadd, 1) := by decide +kernel
theorem dL_law_460 : decode cL_law 460 = .ok (.iaload, 1) := by decide +kernel
theorem dL_law_461 : decode cL_law 461 = .ok (.aload_n 0, 1) := by decide +kernel
theorem dL_law_462 : decode cL_law 462 = .ok (.iload_n 3, 1) := by decide +kernel
theorem dL_law_463 : decode cL_law 463 = .ok (.iconst 2, 1) := by decide +kernel
theorem dL_law_464 : decode cL_law 464 = .ok (.iadd, 1) := by decide +kernel
theorem dL_law_465 : decode cL_law 465 = .ok (.iaload, 1) := by decide +kernel
theorem dL_law_466 : decode cL_law 466 = .ok (.aload_n 0, 1) := by decide +kernel
theorem dL_law_467 : decode cL_law 467 = .ok (.iload_n 3, 1) := by decide +kernel
theorem dL_law_468 : decode cL_law 468 = .ok (.iconst 3, 1) := by decide +kernel
theorem dL_law_469 : decode cL_law 469 = .ok (.iadd, 1) := by decide +kernel
theorem dL_law_470 : decode cL_law 470 = .ok (.iaload, 1) := by decide +kernel
theorem dL_law_471 : decode cL_law 471 = .ok (.invokevirtual 66, 3) := by decide +kernel
theorem dL_law_474 : decode cL_law 474 = .ok (.lcmp, 1) := by decide +kernel
theorem dL_law_475 : decode cL_law 475 = .ok (.ifCond .eq 553, 3) := by decide +kernel
theorem dL_law_478 : decode cL_law 478 = .ok (.iconst 0, 1) := by decide +kernel
theorem dL_law_479 : decode cL_law 479 = .ok (.ireturn, 1) := by decide +kernel
theorem dL_law_480 : decode cL_law 480 = .ok (.aload_n 1, 1) := by decide +kernel
theorem dL_law_481 : decode cL_law 481 = .ok (.aload_n 0, 1) := by decide +kernel
theorem dL_law_482 : decode cL_law 482 = .ok (.iload_n 3, 1) := by decide +kernel
theorem dL_law_483 : decode cL_law 483 = .ok (.iconst 1, 1) := by decide +kernel
theorem dL_law_484 : decode cL_law 484 = .ok (.iadd, 1) := by decide +kernel
theorem dL_law_485 : decode cL_law 485 = .ok (.iaload, 1) := by decide +kernel
theorem dL_law_486 : decode cL_law 486 = .ok (.aload_n 0, 1) := by decide +kernel
theorem dL_law_487 : decode cL_law 487 = .ok (.iload_n 3, 1) := by decide +kernel
theorem dL_law_488 : decode cL_law 488 = .ok (.iconst 2, 1) := by decide +kernel
theorem dL_law_489 : decode cL_law 489 = .ok (.iadd, 1) := by decide +kernel
theorem dL_law_490 : decode cL_law 490 = .ok (.iaload, 1) := by decide +kernel
theorem dL_law_491 : decode cL_law 491 = .ok (.aload_n 0, 1) := by decide +kernel
theorem dL_law_492 : decode cL_law 492 = .ok (.iload_n 3, 1) := by decide +kernel
theorem dL_law_493 : decode cL_law 493 = .ok (.iconst 3, 1) := by decide +kernel
theorem dL_law_494 : decode cL_law 494 = .ok (.iadd, 1) := by decide +kernel
theorem dL_law_495 : decode cL_law 495 = .ok (.iaload, 1) := by decide +kernel
theorem dL_law_496 : decode cL_law 496 = .ok (.ifCond .eq 7, 3) := by decide +kernel
theorem dL_law_499 : decode cL_law 499 = .ok (.iconst 1, 1) := by decide +kernel
theorem dL_law_500 : decode cL_law 500 = .ok (.goto 4, 3) := by decide +kernel
theorem dL_law_503 : decode cL_law 503 = .ok (.iconst 0, 1) := by decide +kernel
theorem dL_law_504 : decode cL_law 504 = .ok (.aload_n 0, 1) := by decide +kernel
theorem dL_law_505 : decode cL_law 505 = .ok (.iload_n 3, 1) := by decide +kernel
theorem dL_law_506 : decode cL_law 506 = .ok (.iconst 4, 1) := by decide +kernel
theorem dL_law_507 : decode cL_law 507 = .ok (.iadd, 1) := by decide +kernel
theorem dL_law_508 : decode cL_law 508 = .ok (.iaload, 1) := by decide +kernel
theorem dL_law_509 : decode cL_law 509 = .ok (.ifCond .eq 7, 3) := by decide +kernel
theorem dL_law_512 : decode cL_law 512 = .ok (.iconst 1, 1) := by decide +kernel
theorem dL_law_513 : decode cL_law 513 = .ok (.goto 4, 3) := by decide +kernel
theorem dL_law_516 : decode cL_law 516 = .ok (.iconst 0, 1) := by decide +kernel
theorem dL_law_517 : decode cL_law 517 = .ok (.invokevirtual 67, 3) := by decide +kernel
theorem dL_law_520 : decode cL_law 520 = .ok (.aload_n 2, 1) := by decide +kernel
theorem dL_law_521 : decode cL_law 521 = .ok (.aload_n 0, 1) := by decide +kernel
theorem dL_law_522 : decode cL_law 522 = .ok (.iload_n 3, 1) := by decide +kernel
theorem dL_law_523 : decode cL_law 523 = .ok (.iconst 1, 1) := by decide +kernel
theorem dL_law_524 : decode cL_law 524 = .ok (.iadd, 1) := by decide +kernel
theorem dL_law_525 : decode cL_law 525 = .ok (.iaload, 1) := by decide +kernel
theorem dL_law_526 : decode cL_law 526 = .ok (.aload_n 0, 1) := by decide +kernel
theorem dL_law_527 : decode cL_law 527 = .ok (.iload_n 3, 1) := by decide +kernel
theorem dL_law_528 : decode cL_law 528 = .ok (.iconst 2, 1) := by decide +kernel
theorem dL_law_529 : decode cL_law 529 = .ok (.iadd, 1) := by decide +kernel
theorem dL_law_530 : decode cL_law 530 = .ok (.iaload, 1) := by decide +kernel
theorem dL_law_531 : decode cL_law 531 = .ok (.aload_n 0, 1) := by decide +kernel
theorem dL_law_532 : decode cL_law 532 = .ok (.iload_n 3, 1) := by decide +kernel
theorem dL_law_533 : decode cL_law 533 = .ok (.iconst 3, 1) := by decide +kernel
theorem dL_law_534 : decode cL_law 534 = .ok (.iadd, 1) := by decide +kernel
theorem dL_law_535 : decode cL_law 535 = .ok (.iaload, 1) := by decide +kernel
theorem dL_law_536 : decode cL_law 536 = .ok (.ifCond .eq 7, 3) := by decide +kernel
theorem dL_law_539 : decode cL_law 539 = .ok (.iconst 1, 1) := by decide +kernel
theorem dL_law_540 : decode cL_law 540 = .ok (.goto 4, 3) := by decide +kernel
theorem dL_law_543 : decode cL_law 543 = .ok (.iconst 0, 1) := by decide +kernel
theorem dL_law_544 : decode cL_law 544 = .ok (.aload_n 0, 1) := by decide +kernel
theorem dL_law_545 : decode cL_law 545 = .ok (.iload_n 3, 1) := by decide +kernel
theorem dL_law_546 : decode cL_law 546 = .ok (.iconst 4, 1) := by decide +kernel
theorem dL_law_547 : decode cL_law 547 = .ok (.iadd, 1) := by decide +kernel
theorem dL_law_548 : decode cL_law 548 = .ok (.iaload, 1) := by decide +kernel
theorem dL_law_549 : decode cL_law 549 = .ok (.ifCond .eq 7, 3) := by decide +kernel
theorem dL_law_552 : decode cL_law 552 = .ok (.iconst 1, 1) := by decide +kernel
theorem dL_law_553 : decode cL_law 553 = .ok (.goto 4, 3) := by decide +kernel
theorem dL_law_556 : decode cL_law 556 = .ok (.iconst 0, 1) := by decide +kernel
theorem dL_law_557 : decode cL_law 557 = .ok (.invokevirtual 71, 3) := by decide +kernel
theorem dL_law_560 : decode cL_law 560 = .ok (.lcmp, 1) := by decide +kernel
theorem dL_law_561 : decode cL_law 561 = .ok (.ifCond .eq 467, 3) := by decide +kernel
theorem dL_law_564 : decode cL_law 564 = .ok (.iconst 0, 1) := by decide +kernel
theorem dL_law_565 : decode cL_law 565 = .ok (.ireturn, 1) := by decide +kernel
theorem dL_law_566 : decode cL_law 566 = .ok (.aload_n 1, 1) := by decide +kernel
theorem dL_law_567 : decode cL_law 567 = .ok (.aload_n 0, 1) := by decide +kernel
theorem dL_law_568 : decode cL_law 568 = .ok (.iload_n 3, 1) := by decide +kernel
theorem dL_law_569 : decode cL_law 569 = .ok (.iconst 1, 1) := by decide +kernel
theorem dL_law_570 : decode cL_law 570 = .ok (.iadd, 1) := by decide +kernel
theorem dL_law_571 : decode cL_law 571 = .ok (.iaload, 1) := by decide +kernel
theorem dL_law_572 : decode cL_law 572 = .ok (.ifCond .eq 7, 3) := by decide +kernel
theorem dL_law_575 : decode cL_law 575 = .ok (.iconst 1, 1) := by decide +kernel
theorem dL_law_576 : decode cL_law 576 = .ok (.goto 4, 3) := by decide +kernel
theorem dL_law_579 : decode cL_law 579 = .ok (.iconst 0, 1) := by decide +kernel
theorem dL_law_580 : decode cL_law 580 = .ok (.invokevirtual 72, 3) := by decide +kernel
theorem dL_law_583 : decode cL_law 583 = .ok (.aload_n 2, 1) := by decide +kernel
theorem dL_law_584 : decode cL_law 584 = .ok (.aload_n 0, 1) := by decide +kernel
theorem dL_law_585 : decode cL_law 585 = .ok (.iload_n 3, 1) := by decide +kernel
theorem dL_law_586 : decode cL_law 586 = .ok (.iconst 1, 1) := by decide +kernel
theorem dL_law_587 : decode cL_law 587 = .ok (.iadd, 1) := by decide +kernel
theorem dL_law_588 : decode cL_law 588 = .ok (.iaload, 1) := by decide +kernel
theorem dL_law_589 : decode cL_law 589 = .ok (.ifCond .eq 7, 3) := by decide +kernel
theorem dL_law_592 : decode cL_law 592 = .ok (.iconst 1, 1) := by decide +kernel
theorem dL_law_593 : decode cL_law 593 = .ok (.goto 4, 3) := by decide +kernel
theorem dL_law_596 : decode cL_law 596 = .ok (.iconst 0, 1) := by decide +kernel
theorem dL_law_597 : decode cL_law 597 = .ok (.invokevirtual 76, 3) := by decide +kernel
theorem dL_law_600 : decode cL_law 600 = .ok (.lcmp, 1) := by decide +kernel
theorem dL_law_601 : decode cL_law 601 = .ok (.ifCond .eq 427, 3) := by decide +kernel
theorem dL_law_604 : decode cL_law 604 = .ok (.iconst 0, 1) := by decide +kernel
theorem dL_law_605 : decode cL_law 605 = .ok (.ireturn, 1) := by decide +kernel
theorem dL_law_606 : decode cL_law 606 = .ok (.aload_n 1, 1) := by decide +kernel
theorem dL_law_607 : decode cL_law 607 = .ok (.aload_n 0, 1) := by decide +kernel
theorem dL_law_608 : decode cL_law 608 = .ok (.iload_n 3, 1) := by decide +kernel
theorem dL_law_609 : decode cL_law 609 = .ok (.iconst 1, 1) := by decide +kernel
theorem dL_law_610 : decode cL_law 610 = .ok (.iadd, 1) := by decide +kernel
theorem dL_law_611 : decode cL_law 611 = .ok (.iaload, 1) := by decide +kernel
theorem dL_law_612 : decode cL_law 612 = .ok (.aload_n 0, 1) := by decide +kernel
theorem dL_law_613 : decode cL_law 613 = .ok (.iload_n 3, 1) := by decide +kernel
theorem dL_law_614 : decode cL_law 614 = .ok (.iconst 2, 1) := by decide +kernel
theorem dL_law_615 : decode cL_law 615 = .ok (.iadd, 1) := by decide +kernel
theorem dL_law_616 : decode cL_law 616 = .ok (.iaload, 1) := by decide +kernel
theorem dL_law_617 : decode cL_law 617 = .ok (.aload_n 0, 1) := by decide +kernel
theorem dL_law_618 : decode cL_law 618 = .ok (.iload_n 3, 1) := by decide +kernel
theorem dL_law_619 : decode cL_law 619 = .ok (.iconst 3, 1) := by decide +kernel
theorem dL_law_620 : decode cL_law 620 = .ok (.iadd, 1) := by decide +kernel
theorem dL_law_621 : decode cL_law 621 = .ok (.iaload, 1) := by decide +kernel
theorem dL_law_622 : decode cL_law 622 = .ok (.aload_n 0, 1) := by decide +kernel
theorem dL_law_623 : decode cL_law 623 = .ok (.iload_n 3, 1) := by decide +kernel
theorem dL_law_624 : decode cL_law 624 = .ok (.iconst 4, 1) := by decide +kernel
theorem dL_law_625 : decode cL_law 625 = .ok (.iadd, 1) := by decide +kernel
theorem dL_law_626 : decode cL_law 626 = .ok (.iaload, 1) := by decide +kernel
theorem dL_law_627 : decode cL_law 627 = .ok (.invokevirtual 77, 3) := by decide +kernel
theorem dL_law_630 : decode cL_law 630 = .ok (.aload_n 2, 1) := by decide +kernel
theorem dL_law_631 : decode cL_law 631 = .ok (.aload_n 0, 1) := by decide +kernel
theorem dL_law_632 : decode cL_law 632 = .ok (.iload_n 3, 1) := by decide +kernel
theorem dL_law_633 : decode cL_law 633 = .ok (.iconst 1, 1) := by decide +kernel
theorem dL_law_634 : decode cL_law 634 = .ok (.iadd, 1) := by decide +kernel
theorem dL_law_635 : decode cL_law 635 = .ok (.iaload, 1) := by decide +kernel
theorem dL_law_636 : decode cL_law 636 = .ok (.aload_n 0, 1) := by decide +kernel
theorem dL_law_637 : decode cL_law 637 = .ok (.iload_n 3, 1) := by decide +kernel
theorem dL_law_638 : decode cL_law 638 = .ok (.iconst 2, 1) := by decide +kernel
theorem dL_law_639 : decode cL_law 639 = .ok (.iadd, 1) := by decide +kernel
theorem dL_law_640 : decode cL_law 640 = .ok (.iaload, 1) := by decide +kernel
theorem dL_law_641 : decode cL_law 641 = .ok (.aload_n 0, 1) := by decide +kernel
theorem dL_law_642 : decode cL_law 642 = .ok (.iload_n 3, 1) := by decide +kernel
theorem dL_law_643 : decode cL_law 643 = .ok (.iconst 3, 1) := by decide +kernel
theorem dL_law_644 : decode cL_law 644 = .ok (.iadd, 1) := by decide +kernel
theorem dL_law_645 : decode cL_law 645 = .ok (.iaload, 1) := by decide +kernel
theorem dL_law_646 : decode cL_law 646 = .ok (.aload_n 0, 1) := by decide +kernel
theorem dL_law_647 : decode cL_law 647 = .ok (.iload_n 3, 1) := by decide +kernel
theorem dL_law_648 : decode cL_law 648 = .ok (.iconst 4, 1) := by decide +kernel
theorem dL_law_649 : decode cL_law 649 = .ok (.iadd, 1) := by decide +kernel
theorem dL_law_650 : decode cL_law 650 = .ok (.iaload, 1) := by decide +kernel
theorem dL_law_651 : decode cL_law 651 = .ok (.invokevirtual 81, 3) := by decide +kernel
theorem dL_law_654 : decode cL_law 654 = .ok (.if_icmp .eq 374, 3) := by decide +kernel
theorem dL_law_657 : decode cL_law 657 = .ok (.iconst 0, 1) := by decide +kernel
theorem dL_law_658 : decode cL_law 658 = .ok (.ireturn, 1) := by decide +kernel
theorem dL_law_659 : decode cL_law 659 = .ok (.aload_n 1, 1) := by decide +kernel
theorem dL_law_660 : decode cL_law 660 = .ok (.aload_n 0, 1) := by decide +kernel
theorem dL_law_661 : decode cL_law 661 = .ok (.iload_n 3, 1) := by decide +kernel
theorem dL_law_662 : decode cL_law 662 = .ok (.iconst 1, 1) := by decide +kernel
theorem dL_law_663 : decode cL_law 663 = .ok (.iadd, 1) := by decide +kernel
theorem dL_law_664 : decode cL_law 664 = .ok (.iaload, 1) := by decide +kernel
theorem dL_law_665 : decode cL_law 665 = .ok (.invokevirtual 82, 3) := by decide +kernel
theorem dL_law_668 : decode cL_law 668 = .ok (.aload_n 2, 1) := by decide +kernel
theorem dL_law_669 : decode cL_law 669 = .ok (.aload_n 0, 1) := by decide +kernel
theorem dL_law_670 : decode cL_law 670 = .ok (.iload_n 3, 1) := by decide +kernel
theorem dL_law_671 : decode cL_law 671 = .ok (.iconst 1, 1) := by decide +kernel
theorem dL_law_672 : decode cL_law 672 = .ok (.iadd, 1) := by decide +kernel
theorem dL_law_673 : decode cL_law 673 = .ok (.iaload, 1) := by decide +kernel
theorem dL_law_674 : decode cL_law 674 = .ok (.invokevirtual 86, 3) := by decide +kernel
theorem dL_law_677 : decode cL_law 677 = .ok (.if_icmp .eq 351, 3) := by decide +kernel
theorem dL_law_680 : decode cL_law 680 = .ok (.iconst 0, 1) := by decide +kernel
theorem dL_law_681 : decode cL_law 681 = .ok (.ireturn, 1) := by decide +kernel
theorem dL_law_682 : decode cL_law 682 = .ok (.aload_n 1, 1) := by decide +kernel
theorem dL_law_683 : decode cL_law 683 = .ok (.invokevirtual 87, 3) := by decide +kernel
theorem dL_law_686 : decode cL_law 686 = .ok (.aload_n 2, 1) := by decide +kernel
theorem dL_law_687 : decode cL_law 687 = .ok (.invokevirtual 90, 3) := by decide +kernel
theorem dL_law_690 : decode cL_law 690 = .ok (.if_icmp .eq 338, 3) := by decide +kernel
theorem dL_law_693 : decode cL_law 693 = .ok (.iconst 0, 1) := by decide +kernel
theorem dL_law_694 : decode cL_law 694 = .ok (.ireturn, 1) := by decide +kernel
theorem dL_law_695 : decode cL_law 695 = .ok (.aload_n 1, 1) := by decide +kernel
theorem dL_law_696 : decode cL_law 696 = .ok (.aload_n 0, 1) := by decide +kernel
theorem dL_law_697 : decode cL_law 697 = .ok (.iload_n 3, 1) := by decide +kernel
theorem dL_law_698 : decode cL_law 698 = .ok (.iconst 1, 1) := by decide +kernel
theorem dL_law_699 : decode cL_law 699 = .ok (.iadd, 1) := by decide +kernel
theorem dL_law_700 : decode cL_law 700 = .ok (.iaload, 1) := by decide +kernel
theorem dL_law_701 : decode cL_law 701 = .ok (.invokevirtual 91, 3) := by decide +kernel
theorem dL_law_704 : decode cL_law 704 = .ok (.aload_n 2, 1) := by decide +kernel
theorem dL_law_705 : decode cL_law 705 = .ok (.aload_n 0, 1) := by decide +kernel
theorem dL_law_706 : decode cL_law 706 = .ok (.iload_n 3, 1) := by decide +kernel
theorem dL_law_707 : decode cL_law 707 = .ok (.iconst 1, 1) := by decide +kernel
theorem dL_law_708 : decode cL_law 708 = .ok (.iadd, 1) := by decide +kernel
theorem dL_law_709 : decode cL_law 709 = .ok (.iaload, 1) := by decide +kernel
theorem dL_law_710 : decode cL_law 710 = .ok (.invokevirtual 94, 3) := by decide +kernel
theorem dL_law_713 : decode cL_law 713 = .ok (.if_icmp .eq 315, 3) := by decide +kernel
theorem dL_law_716 : decode cL_law 716 = .ok (.iconst 0, 1) := by decide +kernel
theorem dL_law_717 : decode cL_law 717 = .ok (.ireturn, 1) := by decide +kernel
theorem dL_law_718 : decode cL_law 718 = .ok (.aload_n 1, 1) := by decide +kernel
theorem dL_law_719 : decode cL_law 719 = .ok (.aload_n 0, 1) := by decide +kernel
theorem dL_law_720 : decode cL_law 720 = .ok (.iload_n 3, 1) := by decide +kernel
theorem dL_law_721 : decode cL_law 721 = .ok (.iconst 1, 1) := by decide +kernel
theorem dL_law_722 : decode cL_law 722 = .ok (.iadd, 1) := by decide +kernel
theorem dL_law_723 : decode cL_law 723 = .ok (.iaload, 1) := by decide +kernel
theorem dL_law_724 : decode cL_law 724 = .ok (.invokevirtual 95, 3) := by decide +kernel
theorem dL_law_727 : decode cL_law 727 = .ok (.aload_n 2, 1) := by decide +kernel
theorem dL_law_728 : decode cL_law 728 = .ok (.aload_n 0, 1) := by decide +kernel
theorem dL_law_729 : decode cL_law 729 = .ok (.iload_n 3, 1) := by decide +kernel
theorem dL_law_730 : decode cL_law 730 = .ok (.iconst 1, 1) := by decide +kernel
theorem dL_law_731 : decode cL_law 731 = .ok (.iadd, 1) := by decide +kernel
theorem dL_law_732 : decode cL_law 732 = .ok (.iaload, 1) := by decide +kernel
theorem dL_law_733 : decode cL_law 733 = .ok (.invokevirtual 99, 3) := by decide +kernel
theorem dL_law_736 : decode cL_law 736 = .ok (.lcmp, 1) := by decide +kernel
theorem dL_law_737 : decode cL_law 737 = .ok (.ifCond .eq 291, 3) := by decide +kernel
theorem dL_law_740 : decode cL_law 740 = .ok (.iconst 0, 1) := by decide +kernel
theorem dL_law_741 : decode cL_law 741 = .ok (.ireturn, 1) := by decide +kernel
theorem dL_law_742 : decode cL_law 742 = .ok (.aload_n 1, 1) := by decide +kernel
theorem dL_law_743 : decode cL_law 743 = .ok (.invokevirtual 100, 3) := by decide +kernel
theorem dL_law_746 : decode cL_law 746 = .ok (.aload_n 2, 1) := by decide +kernel
theorem dL_law_747 : decode cL_law 747 = .ok (.invokevirtual 103, 3) := by decide +kernel
theorem dL_law_750 : decode cL_law 750 = .ok (.if_icmp .eq 278, 3) := by decide +kernel
theorem dL_law_753 : decode cL_law 753 = .ok (.iconst 0, 1) := by decide +kernel
theorem dL_law_754 : decode cL_law 754 = .ok (.ireturn, 1) := by decide +kernel
theorem dL_law_755 : decode cL_law 755 = .ok (.aload_n 1, 1) := by decide +kernel
theorem dL_law_756 : decode cL_law 756 = .ok (.aload_n 0, 1) := by decide +kernel
theorem dL_law_757 : decode cL_law 757 = .ok (.iload_n 3, 1) := by decide +kernel
theorem dL_law_758 : decode cL_law 758 = .ok (.iconst 1, 1) := by decide +kernel
theorem dL_law_759 : decode cL_law 759 = .ok (.iadd, 1) := by decide +kernel
theorem dL_law_760 : decode cL_law 760 = .ok (.iaload, 1) := by decide +kernel
theorem dL_law_761 : decode cL_law 761 = .ok (.invokevirtual 104, 3) := by decide +kernel
theorem dL_law_764 : decode cL_law 764 = .ok (.aload_n 2, 1) := by decide +kernel
theorem dL_law_765 : decode cL_law 765 = .ok (.aload_n 0, 1) := by decide +kernel
theorem dL_law_766 : decode cL_law 766 = .ok (.iload_n 3, 1) := by decide +kernel
theorem dL_law_767 : decode cL_law 767 = .ok (.iconst 1, 1) := by decide +kernel
theorem dL_law_768 : decode cL_law 768 = .ok (.iadd, 1) := by decide +kernel
theorem dL_law_769 : decode cL_law 769 = .ok (.iaload, 1) := by decide +kernel
theorem dL_law_770 : decode cL_law 770 = .ok (.invokevirtual 107, 3) := by decide +kernel
theorem dL_law_773 : decode cL_law 773 = .ok (.if_icmp .eq 255, 3) := by decide +kernel
theorem dL_law_776 : decode cL_law 776 = .ok (.iconst 0, 1) := by decide +kernel
theorem dL_law_777 : decode cL_law 777 = .ok (.ireturn, 1) := by decide +kernel
theorem dL_law_778 : decode cL_law 778 = .ok (.aload_n 1, 1) := by decide +kernel
theorem dL_law_779 : decode cL_law 779 = .ok (.invokevirtual 108, 3) := by decide +kernel
theorem dL_law_782 : decode cL_law 782 = .ok (.aload_n 2, 1) := by decide +kernel
theorem dL_law_783 : decode cL_law 783 = .ok (.invokevirtual 111, 3) := by decide +kernel
theorem dL_law_786 : decode cL_law 786 = .ok (.if_icmp .eq 242, 3) := by decide +kernel
theorem dL_law_789 : decode cL_law 789 = .ok (.iconst 0, 1) := by decide +kernel
theorem dL_law_790 : decode cL_law 790 = .ok (.ireturn, 1) := by decide +kernel
theorem dL_law_791 : decode cL_law 791 = .ok (.aload_n 1, 1) := by decide +kernel
theorem dL_law_792 : decode cL_law 792 = .ok (.aload_n 0, 1) := by decide +kernel
theorem dL_law_793 : decode cL_law 793 = .ok (.iload_n 3, 1) := by decide +kernel
theorem dL_law_794 : decode cL_law 794 = .ok (.iconst 1, 1) := by decide +kernel
theorem dL_law_795 : decode cL_law 795 = .ok (.iadd, 1) := by decide +kernel
theorem dL_law_796 : decode cL_law 796 = .ok (.iaload, 1) := by decide +kernel
theorem dL_law_797 : decode cL_law 797 = .ok (.aload_n 0, 1) := by decide +kernel
theorem dL_law_798 : decode cL_law 798 = .ok (.iload_n 3, 1) := by decide +kernel
theorem dL_law_799 : decode cL_law 799 = .ok (.iconst 2, 1) := by decide +kernel
theorem dL_law_800 : decode cL_law 800 = .ok (.iadd, 1) := by decide +kernel
theorem dL_law_801 : decode cL_law 801 = .ok (.iaload, 1) := by decide +kernel
theorem dL_law_802 : decode cL_law 802 = .ok (.invokevirtual 112, 3) := by decide +kernel
theorem dL_law_805 : decode cL_law 805 = .ok (.aload_n 2, 1) := by decide +kernel
theorem dL_law_806 : decode cL_law 806 = .ok (.aload_n 0, 1) := by decide +kernel
theorem dL_law_807 : decode cL_law 807 = .ok (.iload_n 3, 1) := by decide +kernel
theorem dL_law_808 : decode cL_law 808 = .ok (.iconst 1, 1) := by decide +kernel
theorem dL_law_809 : decode cL_law 809 = .ok (.iadd, 1) := by decide +kernel
theorem dL_law_810 : decode cL_law 810 = .ok (.iaload, 1) := by decide +kernel
theorem dL_law_811 : decode cL_law 811 = .ok (.aload_n 0, 1) := by decide +kernel
theorem dL_law_812 : decode cL_law 812 = .ok (.iload_n 3, 1) := by decide +kernel
theorem dL_law_813 : decode cL_law 813 = .ok (.iconst 2, 1) := by decide +kernel
theorem dL_law_814 : decode cL_law 814 = .ok (.iadd, 1) := by decide +kernel
theorem dL_law_815 : decode cL_law 815 = .ok (.iaload, 1) := by decide +kernel
theorem dL_law_816 : decode cL_law 816 = .ok (.invokevirtual 116, 3) := by decide +kernel
theorem dL_law_819 : decode cL_law 819 = .ok (.if_icmp .eq 209, 3) := by decide +kernel
theorem dL_law_822 : decode cL_law 822 = .ok (.iconst 0, 1) := by decide +kernel
theorem dL_law_823 : decode cL_law 823 = .ok (.ireturn, 1) := by decide +kernel
theorem dL_law_824 : decode cL_law 824 = .ok (.aload_n 1, 1) := by decide +kernel
theorem dL_law_825 : decode cL_law 825 = .ok (.aload_n 0, 1) := by decide +kernel
theorem dL_law_826 : decode cL_law 826 = .ok (.iload_n 3, 1) := by decide +kernel
theorem dL_law_827 : decode cL_law 827 = .ok (.iconst 1, 1) := by decide +kernel
theorem dL_law_828 : decode cL_law 828 = .ok (.iadd, 1) := by decide +kernel
theorem dL_law_829 : decode cL_law 829 = .ok (.iaload, 1) := by decide +kernel
theorem dL_law_830 : decode cL_law 830 = .ok (.aload_n 0, 1) := by decide +kernel
theorem dL_law_831 : decode cL_law 831 = .ok (.iload_n 3, 1) := by decide +kernel
theorem dL_law_832 : decode cL_law 832 = .ok (.iconst 2, 1) := by decide +kernel
theorem dL_law_833 : decode cL_law 833 = .ok (.iadd, 1) := by decide +kernel
theorem dL_law_834 : decode cL_law 834 = .ok (.iaload, 1) := by decide +kernel
theorem dL_law_835 : decode cL_law 835 = .ok (.invokevirtual 117, 3) := by decide +kernel
theorem dL_law_838 : decode cL_law 838 = .ok (.aload_n 2, 1) := by decide +kernel
theorem dL_law_839 : decode cL_law 839 = .ok (.aload_n 0, 1) := by decide +kernel
theorem dL_law_840 : decode cL_law 840 = .ok (.iload_n 3, 1) := by decide +kernel
theorem dL_law_841 : decode cL_law 841 = .ok (.iconst 1, 1) := by decide +kernel
theorem dL_law_842 : decode cL_law 842 = .ok (.iadd, 1) := by decide +kernel
theorem dL_law_843 : decode cL_law 843 = .ok (.iaload, 1) := by decide +kernel
theorem dL_law_844 : decode cL_law 844 = .ok (.aload_n 0, 1) := by decide +kernel
theorem dL_law_845 : decode cL_law 845 = .ok (.iload_n 3, 1) := by decide +kernel
theorem dL_law_846 : decode cL_law 846 = .ok (.iconst 2, 1) := by decide +kernel
theorem dL_law_847 : decode cL_law 847 = .ok (.iadd, 1) := by decide +kernel
theorem dL_law_848 : decode cL_law 848 = .ok (.iaload, 1) := by decide +kernel
theorem dL_law_849 : decode cL_law 849 = .ok (.invokevirtual 120, 3) := by decide +kernel
theorem dL_law_852 : decode cL_law 852 = .ok (.if_icmp .eq 176, 3) := by decide +kernel
theorem dL_law_855 : decode cL_law 855 = .ok (.iconst 0, 1) := by decide +kernel
theorem dL_law_856 : decode cL_law 856 = .ok (.ireturn, 1) := by decide +kernel
theorem dL_law_857 : decode cL_law 857 = .ok (.aload_n 1, 1) := by decide +kernel
theorem dL_law_858 : decode cL_law 858 = .ok (.invokevirtual 121, 3) := by decide +kernel
theorem dL_law_861 : decode cL_law 861 = .ok (.aload_n 2, 1) := by decide +kernel
theorem dL_law_862 : decode cL_law 862 = .ok (.invokevirtual 124, 3) := by decide +kernel
theorem dL_law_865 : decode cL_law 865 = .ok (.if_icmp .eq 163, 3) := by decide +kernel
theorem dL_law_868 : decode cL_law 868 = .ok (.iconst 0, 1) := by decide +kernel
theorem dL_law_869 : decode cL_law 869 = .ok (.ireturn, 1) := by decide +kernel
theorem dL_law_870 : decode cL_law 870 = .ok (.aload_n 1, 1) := by decide +kernel
theorem dL_law_871 : decode cL_law 871 = .ok (.aload_n 0, 1) := by decide +kernel
theorem dL_law_872 : decode cL_law 872 = .ok (.iload_n 3, 1) := by decide +kernel
theorem dL_law_873 : decode cL_law 873 = .ok (.iconst 1, 1) := by decide +kernel
theorem dL_law_874 : decode cL_law 874 = .ok (.iadd, 1) := by decide +kernel
theorem dL_law_875 : decode cL_law 875 = .ok (.iaload, 1) := by decide +kernel
theorem dL_law_876 : decode cL_law 876 = .ok (.aload_n 0, 1) := by decide +kernel
theorem dL_law_877 : decode cL_law 877 = .ok (.iload_n 3, 1) := by decide +kernel
theorem dL_law_878 : decode cL_law 878 = .ok (.iconst 2, 1) := by decide +kernel
theorem dL_law_879 : decode cL_law 879 = .ok (.iadd, 1) := by decide +kernel
theorem dL_law_880 : decode cL_law 880 = .ok (.iaload, 1) := by decide +kernel
theorem dL_law_881 : decode cL_law 881 = .ok (.aload_n 0, 1) := by decide +kernel
theorem dL_law_882 : decode cL_law 882 = .ok (.iload_n 3, 1) := by decide +kernel
theorem dL_law_883 : decode cL_law 883 = .ok (.iconst 3, 1) := by decide +kernel
theorem dL_law_884 : decode cL_law 884 = .ok (.iadd, 1) := by decide +kernel
theorem dL_law_885 : decode cL_law 885 = .ok (.iaload, 1) := by decide +kernel
theorem dL_law_886 : decode cL_law 886 = .ok (.invokevirtual 125, 3) := by decide +kernel
theorem dL_law_889 : decode cL_law 889 = .ok (.aload_n 2, 1) := by decide +kernel
theorem dL_law_890 : decode cL_law 890 = .ok (.aload_n 0, 1) := by decide +kernel
theorem dL_law_891 : decode cL_law 891 = .ok (.iload_n 3, 1) := by decide +kernel
theorem dL_law_892 : decode cL_law 892 = .ok (.iconst 1, 1) := by decide +kernel
theorem dL_law_893 : decode cL_law 893 = .ok (.iadd, 1) := by decide +kernel
theorem dL_law_894 : decode cL_law 894 = .ok (.iaload, 1) := by decide +kernel
theorem dL_law_895 : decode cL_law 895 = .ok (.aload_n 0, 1) := by decide +kernel
theorem dL_law_896 : decode cL_law 896 = .ok (.iload_n 3, 1) := by decide +kernel
theorem dL_law_897 : decode cL_law 897 = .ok (.iconst 2, 1) := by decide +kernel
theorem dL_law_898 : decode cL_law 898 = .ok (.iadd, 1) := by decide +kernel
theorem dL_law_899 : decode cL_law 899 = .ok (.iaload, 1) := by decide +kernel
theorem dL_law_900 : decode cL_law 900 = .ok (.aload_n 0, 1) := by decide +kernel
theorem dL_law_901 : decode cL_law 901 = .ok (.iload_n 3, 1) := by decide +kernel
theorem dL_law_902 : decode cL_law 902 = .ok (.iconst 3, 1) := by decide +kernel
theorem dL_law_903 : decode cL_law 903 = .ok (.iadd, 1) := by decide +kernel
theorem dL_law_904 : decode cL_law 904 = .ok (.iaload, 1) := by decide +kernel
theorem dL_law_905 : decode cL_law 905 = .ok (.invokevirtual 128, 3) := by decide +kernel
theorem dL_law_908 : decode cL_law 908 = .ok (.lcmp, 1) := by decide +kernel
theorem dL_law_909 : decode cL_law 909 = .ok (.ifCond .eq 119, 3) := by decide +kernel
theorem dL_law_912 : decode cL_law 912 = .ok (.iconst 0, 1) := by decide +kernel
theorem dL_law_913 : decode cL_law 913 = .ok (.ireturn, 1) := by decide +kernel
theorem dL_law_914 : decode cL_law 914 = .ok (.aload_n 1, 1) := by decide +kernel
theorem dL_law_915 : decode cL_law 915 = .ok (.aload_n 0, 1) := by decide +kernel
theorem dL_law_916 : decode cL_law 916 = .ok (.iload_n 3, 1) := by decide +kernel
theorem dL_law_917 : decode cL_law 917 = .ok (.iconst 1, 1) := by decide +kernel
theorem dL_law_918 : decode cL_law 918 = .ok (.iadd, 1) := by decide +kernel
theorem dL_law_919 : decode cL_law 919 = .ok (.iaload, 1) := by decide +kernel
theorem dL_law_920 : decode cL_law 920 = .ok (.aload_n 0, 1) := by decide +kernel
theorem dL_law_921 : decode cL_law 921 = .ok (.iload_n 3, 1) := by decide +kernel
theorem dL_law_922 : decode cL_law 922 = .ok (.iconst 2, 1) := by decide +kernel
theorem dL_law_923 : decode cL_law 923 = .ok (.iadd, 1) := by decide +kernel
theorem dL_law_924 : decode cL_law 924 = .ok (.iaload, 1) := by decide +kernel
theorem dL_law_925 : decode cL_law 925 = .ok (.invokevirtual 129, 3) := by decide +kernel
theorem dL_law_928 : decode cL_law 928 = .ok (.aload_n 2, 1) := by decide +kernel
theorem dL_law_929 : decode cL_law 929 = .ok (.aload_n 0, 1) := by decide +kernel
theorem dL_law_930 : decode cL_law 930 = .ok (.iload_n 3, 1) := by decide +kernel
theorem dL_law_931 : decode cL_law 931 = .ok (.iconst 1, 1) := by decide +kernel
theorem dL_law_932 : decode cL_law 932 = .ok (.iadd, 1) := by decide +kernel
theorem dL_law_933 : decode cL_law 933 = .ok (.iaload, 1) := by decide +kernel
theorem dL_law_934 : decode cL_law 934 = .ok (.aload_n 0, 1) := by decide +kernel
theorem dL_law_935 : decode cL_law 935 = .ok (.iload_n 3, 1) := by decide +kernel
theorem dL_law_936 : decode cL_law 936 = .ok (.iconst 2, 1) := by decide +kernel
theorem dL_law_937 : decode cL_law 937 = .ok (.iadd, 1) := by decide +kernel
theorem dL_law_938 : decode cL_law 938 = .ok (.iaload, 1) := by decide +kernel
theorem dL_law_939 : decode cL_law 939 = .ok (.invokevirtual 132, 3) := by decide +kernel
theorem dL_law_942 : decode cL_law 942 = .ok (.lcmp, 1) := by decide +kernel
theorem dL_law_943 : decode cL_law 943 = .ok (.ifCond .eq 85, 3) := by decide +kernel
theorem dL_law_946 : decode cL_law 946 = .ok (.iconst 0, 1) := by decide +kernel
theorem dL_law_947 : decode cL_law 947 = .ok (.ireturn, 1) := by decide +kernel
theorem dL_law_948 : decode cL_law 948 = .ok (.aload_n 1, 1) := by decide +kernel
theorem dL_law_949 : decode cL_law 949 = .ok (.aload_n 0, 1) := by decide +kernel
theorem dL_law_950 : decode cL_law 950 = .ok (.iload_n 3, 1) := by decide +kernel
theorem dL_law_951 : decode cL_law 951 = .ok (.iconst 1, 1) := by decide +kernel
theorem dL_law_952 : decode cL_law 952 = .ok (.iadd, 1) := by decide +kernel
theorem dL_law_953 : decode cL_law 953 = .ok (.iaload, 1) := by decide +kernel
theorem dL_law_954 : decode cL_law 954 = .ok (.invokevirtual 133, 3) := by decide +kernel
theorem dL_law_957 : decode cL_law 957 = .ok (.aload_n 2, 1) := by decide +kernel
theorem dL_law_958 : decode cL_law 958 = .ok (.aload_n 0, 1) := by decide +kernel
theorem dL_law_959 : decode cL_law 959 = .ok (.iload_n 3, 1) := by decide +kernel
theorem dL_law_960 : decode cL_law 960 = .ok (.iconst 1, 1) := by decide +kernel
theorem dL_law_961 : decode cL_law 961 = .ok (.iadd, 1) := by decide +kernel
theorem dL_law_962 : decode cL_law 962 = .ok (.iaload, 1) := by decide +kernel
theorem dL_law_963 : decode cL_law 963 = .ok (.invokevirtual 136, 3) := by decide +kernel
theorem dL_law_966 : decode cL_law 966 = .ok (.lcmp, 1) := by decide +kernel
theorem dL_law_967 : decode cL_law 967 = .ok (.ifCond .eq 61, 3) := by decide +kernel
theorem dL_law_970 : decode cL_law 970 = .ok (.iconst 0, 1) := by decide +kernel
theorem dL_law_971 : decode cL_law 971 = .ok (.ireturn, 1) := by decide +kernel
theorem dL_law_972 : decode cL_law 972 = .ok (.aload_n 1, 1) := by decide +kernel
theorem dL_law_973 : decode cL_law 973 = .ok (.aload_n 0, 1) := by decide +kernel
theorem dL_law_974 : decode cL_law 974 = .ok (.iload_n 3, 1) := by decide +kernel
theorem dL_law_975 : decode cL_law 975 = .ok (.iconst 1, 1) := by decide +kernel
theorem dL_law_976 : decode cL_law 976 = .ok (.iadd, 1) := by decide +kernel
theorem dL_law_977 : decode cL_law 977 = .ok (.iaload, 1) := by decide +kernel
theorem dL_law_978 : decode cL_law 978 = .ok (.aload_n 0, 1) := by decide +kernel
theorem dL_law_979 : decode cL_law 979 = .ok (.iload_n 3, 1) := by decide +kernel
theorem dL_law_980 : decode cL_law 980 = .ok (.iconst 2, 1) := by decide +kernel
theorem dL_law_981 : decode cL_law 981 = .ok (.iadd, 1) := by decide +kernel
theorem dL_law_982 : decode cL_law 982 = .ok (.iaload, 1) := by decide +kernel
theorem dL_law_983 : decode cL_law 983 = .ok (.invokevirtual 137, 3) := by decide +kernel
theorem dL_law_986 : decode cL_law 986 = .ok (.aload_n 2, 1) := by decide +kernel
theorem dL_law_987 : decode cL_law 987 = .ok (.aload_n 0, 1) := by decide +kernel
theorem dL_law_988 : decode cL_law 988 = .ok (.iload_n 3, 1) := by decide +kernel
theorem dL_law_989 : decode cL_law 989 = .ok (.iconst 1, 1) := by decide +kernel
theorem dL_law_990 : decode cL_law 990 = .ok (.iadd, 1) := by decide +kernel
theorem dL_law_991 : decode cL_law 991 = .ok (.iaload, 1) := by decide +kernel
theorem dL_law_992 : decode cL_law 992 = .ok (.aload_n 0, 1) := by decide +kernel
theorem dL_law_993 : decode cL_law 993 = .ok (.iload_n 3, 1) := by decide +kernel
theorem dL_law_994 : decode cL_law 994 = .ok (.iconst 2, 1) := by decide +kernel
theorem dL_law_995 : decode cL_law 995 = .ok (.iadd, 1) := by decide +kernel
theorem dL_law_996 : decode cL_law 996 = .ok (.iaload, 1) := by decide +kernel
theorem dL_law_997 : decode cL_law 997 = .ok (.invokevirtual 140, 3) := by decide +kernel
theorem dL_law_1000 : decode cL_law 1000 = .ok (.if_icmp .eq 28, 3) := by decide +kernel
theorem dL_law_1003 : decode cL_law 1003 = .ok (.iconst 0, 1) := by decide +kernel
theorem dL_law_1004 : decode cL_law 1004 = .ok (.ireturn, 1) := by decide +kernel
theorem dL_law_1005 : decode cL_law 1005 = .ok (.aload_n 1, 1) := by decide +kernel
theorem dL_law_1006 : decode cL_law 1006 = .ok (.aload_n 0, 1) := by decide +kernel
theorem dL_law_1007 : decode cL_law 1007 = .ok (.iload_n 3, 1) := by decide +kernel
theorem dL_law_1008 : decode cL_law 1008 = .ok (.iconst 1, 1) := by decide +kernel
theorem dL_law_1009 : decode cL_law 1009 = .ok (.iadd, 1) := by decide +kernel
theorem dL_law_1010 : decode cL_law 1010 = .ok (.iaload, 1) := by decide +kernel
theorem dL_law_1011 : decode cL_law 1011 = .ok (.invokevirtual 141, 3) := by decide +kernel
theorem dL_law_1014 : decode cL_law 1014 = .ok (.aload_n 2, 1) := by decide +kernel
theorem dL_law_1015 : decode cL_law 1015 = .ok (.aload_n 0, 1) := by decide +kernel
theorem dL_law_1016 : decode cL_law 1016 = .ok (.iload_n 3, 1) := by decide +kernel
theorem dL_law_1017 : decode cL_law 1017 = .ok (.iconst 1, 1) := by decide +kernel
theorem dL_law_1018 : decode cL_law 1018 = .ok (.iadd, 1) := by decide +kernel
theorem dL_law_1019 : decode cL_law 1019 = .ok (.iaload, 1) := by decide +kernel
theorem dL_law_1020 : decode cL_law 1020 = .ok (.invokevirtual 144, 3) := by decide +kernel
theorem dL_law_1023 : decode cL_law 1023 = .ok (.if_icmp .eq 5, 3) := by decide +kernel
theorem dL_law_1026 : decode cL_law 1026 = .ok (.iconst 0, 1) := by decide +kernel
theorem dL_law_1027 : decode cL_law 1027 = .ok (.ireturn, 1) := by decide +kernel
theorem dL_law_1028 : decode cL_law 1028 = .ok (.iinc 3 5, 3) := by decide +kernel
theorem dL_law_1031 : decode cL_law 1031 = .ok (.goto (-1003), 3) := by decide +kernel
theorem dL_law_1034 : decode cL_law 1034 = .ok (.iconst 1, 1) := by decide +kernel
theorem dL_law_1035 : decode cL_law 1035 = .ok (.ireturn, 1) := by decide +kernel
end
section
/-! the law's words are the tables' -/
theorem lin_of {big : List Cond} (ws : List Cond) (ps : List Nat) (hp : ws = ps.filterMap (fun i => big[i]?)) : ∀ w ∈ ws, w ∈ big := by
  intro w hw
  rw [hp] at hw
  obtain ⟨i, -, hi⟩ := List.mem_filterMap.mp hw
  exact List.mem_of_getElem? hi
set_option maxRecDepth 20000 in
theorem lin_wsL_law_r1 : ∀ w ∈ wsL_law_r1, w ∈ lw_tbl := lin_of _ [21, 22, 15, 322, 323, 18, 319, 320, 14, 321, 23, 24, 25, 26, 27, 28, 29, 30, 16, 52, 53, 54, 55, 56] (by decide +kernel)
set_option maxRecDepth 20000 in
theorem lin_wsL_law_r2 : ∀ w ∈ wsL_law_r2, w ∈ lw_tbl := lin_of _ [57, 58, 59, 60, 31, 32, 33, 34, 43, 35, 36, 17, 37, 38, 39, 40, 51, 41, 42, 324, 325, 326, 327, 328] (by decide +kernel)
set_option maxRecDepth 20000 in
theorem lin_wsL_law_r3 : ∀ w ∈ wsL_law_r3, w ∈ lw_tbl := lin_of _ [329, 19, 352, 353, 354, 355, 356, 357, 351, 358, 359, 331, 332, 333, 334, 336, 338, 80, 81, 82, 83, 84, 85, 86] (by decide +kernel)
set_option maxRecDepth 20000 in
theorem lin_wsL_law_r4 : ∀ w ∈ wsL_law_r4, w ∈ lw_tbl := lin_of _ [87, 88, 89, 90, 91, 92, 93, 94, 95, 96, 98, 0, 99, 100, 102, 1, 103, 104, 105, 106, 107, 108, 110, 109] (by decide +kernel)
set_option maxRecDepth 20000 in
theorem lin_wsL_law_r5 : ∀ w ∈ wsL_law_r5, w ∈ lw_tbl := lin_of _ [20, 383, 384, 385, 386, 341, 339, 387, 388, 389, 390, 340, 391, 392, 393, 394, 111, 112, 113, 114, 115, 116, 117, 118] (by decide +kernel)
set_option maxRecDepth 20000 in
theorem lin_wsL_law_r6 : ∀ w ∈ wsL_law_r6, w ∈ lw_tbl := lin_of _ [119, 120, 121, 122, 123, 395, 396, 397, 398, 399, 400, 401, 402, 124, 125, 126, 127, 128, 129, 130, 131, 132, 133, 134] (by decide +kernel)
set_option maxRecDepth 20000 in
theorem lin_wsL_law_r7 : ∀ w ∈ wsL_law_r7, w ∈ lw_tbl := lin_of _ [135, 136, 403, 404, 405, 406, 407, 408, 409, 410, 137, 138, 139, 140, 149, 141, 142, 143, 144, 145, 146, 147, 148, 150] (by decide +kernel)
set_option maxRecDepth 20000 in
theorem lin_wsL_law_r8 : ∀ w ∈ wsL_law_r8, w ∈ lw_tbl := lin_of _ [151, 152, 153, 154, 155, 156, 411, 412, 413, 414, 415, 335, 337, 157, 158, 159, 160, 161, 162, 163, 164, 165, 166, 167] (by decide +kernel)
set_option maxRecDepth 20000 in
theorem lin_wsL_law_r9 : ∀ w ∈ wsL_law_r9, w ∈ lw_tbl := lin_of _ [168, 169, 170, 171, 416, 417, 418, 419, 172, 173, 174, 175, 176, 177, 178, 179, 180, 181, 182, 183, 420, 421, 422, 423] (by decide +kernel)
set_option maxRecDepth 20000 in
theorem lin_wsL_law_r10 : ∀ w ∈ wsL_law_r10, w ∈ lw_tbl := lin_of _ [184, 185, 186, 187, 424, 425, 426, 427, 188, 189, 190, 191, 192, 428, 429, 430, 431, 193, 194, 195, 196, 197, 198, 199] (by decide +kernel)
set_option maxRecDepth 20000 in
theorem lin_wsL_law_r11 : ∀ w ∈ wsL_law_r11, w ∈ lw_tbl := lin_of _ [200, 201, 432, 433, 434, 435, 202, 203, 204, 205, 436, 437, 438, 439, 206, 207, 208, 209, 216, 210, 211, 212, 213, 214] (by decide +kernel)
set_option maxRecDepth 20000 in
theorem lin_wsL_law_r12 : ∀ w ∈ wsL_law_r12, w ∈ lw_tbl := lin_of _ [215, 440, 441, 442, 443, 451, 444, 446, 6, 447, 448, 449, 450, 217, 218, 219, 220, 452, 453, 454, 455, 221, 222, 223] (by decide +kernel)
set_option maxRecDepth 20000 in
theorem lin_wsL_law_r13 : ∀ w ∈ wsL_law_r13, w ∈ lw_tbl := lin_of _ [224, 456, 457, 458, 459, 225, 226, 227, 228, 229, 230, 231, 232, 233, 234, 235, 236, 237, 460, 461, 462, 463, 361, 238] (by decide +kernel)
set_option maxRecDepth 20000 in
theorem lin_wsL_law_r14 : ∀ w ∈ wsL_law_r14, w ∈ lw_tbl := lin_of _ [239, 240, 241, 242, 244, 2, 245, 464, 465, 466, 467, 246, 247, 248, 249, 250, 468, 469, 470, 471, 360, 472, 474, 7] (by decide +kernel)
set_option maxRecDepth 20000 in
theorem lin_wsL_law_r15 : ∀ w ∈ wsL_law_r15, w ∈ lw_tbl := lin_of _ [475, 476, 478, 8, 479, 480, 482, 9, 483, 484, 486, 10, 487, 488, 490, 11, 491, 251, 252, 253, 254, 492, 493, 494] (by decide +kernel)
set_option maxRecDepth 20000 in
theorem lin_wsL_law_r16 : ∀ w ∈ wsL_law_r16, w ∈ lw_tbl := lin_of _ [495, 255, 256, 257, 258, 496, 497, 498, 499, 500, 502, 12, 503, 259, 260, 261, 262, 504, 505, 506, 507, 263, 264, 265] (by decide +kernel)
set_option maxRecDepth 20000 in
theorem lin_wsL_law_r17 : ∀ w ∈ wsL_law_r17, w ∈ lw_tbl := lin_of _ [266, 267, 508, 509, 510, 511, 268, 269, 270, 271, 512, 513, 514, 515, 272, 273, 274, 275, 516, 517, 518, 519, 276, 277] (by decide +kernel)
set_option maxRecDepth 20000 in
theorem lin_wsL_law_r18 : ∀ w ∈ wsL_law_r18, w ∈ lw_tbl := lin_of _ [278, 279, 280, 282, 3, 283, 284, 286, 4, 287, 288, 290, 5, 291, 292, 293, 520, 521, 522, 523, 524, 294, 295, 296] (by decide +kernel)
set_option maxRecDepth 20000 in
theorem lin_wsL_law_r19 : ∀ w ∈ wsL_law_r19, w ∈ lw_tbl := lin_of _ [297, 525, 526, 527, 528, 298, 299, 300, 301, 529, 530, 531, 532, 302, 303, 304, 305, 306, 533, 534, 535, 536, 307, 308] (by decide +kernel)
set_option maxRecDepth 20000 in
theorem lin_wsL_law_r20 : ∀ w ∈ wsL_law_r20, w ∈ lw_tbl := lin_of _ [309, 310, 311, 312, 313, 314, 537, 538, 539, 540, 541, 543, 13, 544, 315, 316, 317, 318, 545, 546, 547, 548] (by decide +kernel)
set_option maxRecDepth 20000 in
theorem inX1 : ∀ w ∈ wsX10, w ∈ lw_tbl := by decide +kernel
set_option maxRecDepth 20000 in
theorem inX3 : ∀ w ∈ wsX30, w ∈ lw_tbl := by decide +kernel
set_option maxRecDepth 20000 in
theorem inX0 : ∀ w ∈ wsX00, w ∈ lw_tbl := by decide +kernel
set_option maxRecDepth 20000 in
theorem inX2 : ∀ w ∈ wsX20, w ∈ lw_tbl := by decide +kernel
theorem lin_ap {big a b : List Cond} (h1 : ∀ w ∈ a, w ∈ big) (h2 : ∀ w ∈ b, w ∈ big) : ∀ w ∈ a ++ b, w ∈ big := fun w h => (List.mem_append.mp h).elim (h1 w) (h2 w)
theorem wsL_law_in : ∀ w ∈ wsL_law, w ∈ lw_tbl := lin_ap (lin_ap (lin_ap (lin_ap (lin_ap (lin_ap lin_wsL_law_r1 (lin_ap lin_wsL_law_r2 (lin_ap lin_wsL_law_r3 (lin_ap lin_wsL_law_r4 (lin_ap lin_wsL_law_r5 (lin_ap lin_wsL_law_r6 (lin_ap lin_wsL_law_r7 (lin_ap lin_wsL_law_r8 (lin_ap lin_wsL_law_r9 (lin_ap lin_wsL_law_r10 (lin_ap lin_wsL_law_r11 (lin_ap lin_wsL_law_r12 (lin_ap lin_wsL_law_r13 (lin_ap lin_wsL_law_r14 (lin_ap lin_wsL_law_r15 (lin_ap lin_wsL_law_r16 (lin_ap lin_wsL_law_r17 (lin_ap lin_wsL_law_r18 (lin_ap lin_wsL_law_r19 lin_wsL_law_r20))))))))))))))))))) inX1) inX3) inX0) inX2) (fun _ h => absurd h List.not_mem_nil)
end
section
/-! base: worlds, loops, steps over numbers that are small -/
abbrev tys (cI cJ : ClassId) : List (ClassId × FieldType) := [(cI, .int), (cJ, .long)]
abbrev rP (D : va_G) (cI cJ : ClassId) (ws : va_W) : State → Prop := fun U => va_P D vwCl ws U.heap ∧ va_K D vwCl (tys cI cJ) U
abbrev wP (D : va_G) (cI cJ : ClassId) (ws : va_W) (sz : Nat) : State → Prop := fun U => U.heap.size = sz ∧ va_P D vwCl ws U.heap ∧ va_K D vwCl (tys cI cJ) U ∧ va_D (fun _ => True) ws
abbrev wB {S : Type} (D : va_G) (cI cJ : ClassId) (A : Nat → Prop) (ws : S → va_W) : S → State → Prop := fun u t => va_P D vwCl (ws u) t.heap ∧ va_K D vwCl (tys cI cJ) t ∧ va_D A (ws u)
theorem rP_blind {D : va_G} {cI cJ : ClassId} {ws : va_W} {av : List Value} : FrameBlind (va_Pc av (rP D cI cJ ws)) := fun a U g mk q => by
  obtain ⟨q0, qP, qK⟩ := q
  exact ⟨q0, qP, va_K.moved (u := U) (U := U.calling g mk a) (Vm.Alike.refl U.vm) qK⟩
theorem wP_blind {D : va_G} {cI cJ : ClassId} {ws : va_W} {sz : Nat} {av : List Value} : FrameBlind (va_Pc av (wP D cI cJ ws sz)) := fun a U g mk q => by
  obtain ⟨q0, q1, qP, qK, qD⟩ := q
  exact ⟨q0, q1, qP, va_K.moved (u := U) (U := U.calling g mk a) (Vm.Alike.refl U.vm) qK, qD⟩
theorem tP_blind {av : List Value} : FrameBlind (va_Pc av (fun _ => True)) := fun a U g mk q => q
section ZA
variable {p : Program} {l : Launch} {e : Env} {R : Room} {s : State} {m : MethodId} {args : Array Value} {below : List Frame} {meth : Method} {c : Code} {H : Heap} {locs : List Loc} {cells slots : Nat} {Q : State → Prop} {cc : ByteArray} {pc : Nat} {ls : Array Slot} {rest : List Value} {D : va_G} {cI cJ : ClassId} {ws ws' : va_W} {A : Nat → Prop} {H0 : Heap} {As : List Value} {b : Nat}
theorem z_preV (hK : va_K D vwCl (tys cI cJ) s) (hP : va_P D vwCl ws H) (is : List Nat) (hs : is.filterMap (fun i => ws[i]?) = ws') (ci q0 : Nat) {q : vw_C} {fs : List Value} (hc : vwCl[ci]? = some q) (he : ws[q0]? = some (b, .inr (ci, fs))) : PreV s H q.1 b (va_Pc (.ref b :: As) (rP D cI cJ ws')) As :=
  ⟨rP_blind, va_recv hK hP hc he, fun U hU hW => ⟨rfl, by rw [hU]; exact hP.sub is hs, va_K.moved hW.alike hK⟩⟩
theorem z_preS (hK : va_K D vwCl (tys cI cJ) s) (hP : va_P D vwCl ws H) (is : List Nat) (hs : is.filterMap (fun i => ws[i]?) = ws') : PreS s H (va_Pc As (rP D cI cJ ws')) As :=
  ⟨rP_blind, fun U hU hW => ⟨rfl, by rw [hU]; exact hP.sub is hs, va_K.moved hW.alike hK⟩⟩
theorem z_preT : PreS s H (va_Pc As (fun _ => True)) As := ⟨tP_blind, fun _ _ _ => ⟨rfl, trivial⟩⟩
theorem z_preVw (hK : va_K D vwCl (tys cI cJ) s) (hP : va_P D vwCl ws H) (hD : va_D A ws) (is : List Nat) (hn : va_nd is = true) (hs : is.filterMap (fun i => ws[i]?) = ws') (hs2 : is.map (fun i => ws[i]?) = ws'.map some) (ci q0 : Nat) {q : vw_C} {fs : List Value} (hc : vwCl[ci]? = some q) (he : ws[q0]? = some (b, .inr (ci, fs))) : PreV s H q.1 b (va_Pc (.ref b :: As) (wP D cI cJ ws' H.size)) As :=
  ⟨wP_blind, va_recv hK hP hc he, fun U hU hW => ⟨rfl, by rw [hU], by rw [hU]; exact hP.sub is hs, va_K.moved hW.alike hK, (hD.sub is hn hs2).weaken (fun _ _ _ _ => trivial)⟩⟩
theorem z_preSw (hK : va_K D vwCl (tys cI cJ) s) (hP : va_P D vwCl ws H) (hD : va_D A ws) (is : List Nat) (hn : va_nd is = true) (hs : is.filterMap (fun i => ws[i]?) = ws') (hs2 : is.map (fun i => ws[i]?) = ws'.map some) : PreS s H (va_Pc As (wP D cI cJ ws' H.size)) As :=
  ⟨wP_blind, fun U hU hW => ⟨rfl, by rw [hU], by rw [hU]; exact hP.sub is hs, va_K.moved hW.alike hK, (hD.sub is hn hs2).weaken (fun _ _ _ _ => trivial)⟩⟩
theorem z_topi {x y : Int32} (h : x = y) (k : W p l e R s m args below meth c H locs cells slots Q (F0 m pc ls (.int y :: rest))) : W p l e R s m args below meth c H locs cells slots Q (F0 m pc ls (.int x :: rest)) := by
  subst h; exact k
theorem z_topl {x y : Int64} (h : x = y) (k : W p l e R s m args below meth c H locs cells slots Q (F0 m pc ls (.long y :: rest))) : W p l e R s m args below meth c H locs cells slots Q (F0 m pc ls (.long x :: rest)) := by
  subst h; exact k
theorem z_iadd (hx : p.tables.exec = Jvm.exec) (hb : c.code = cc) {a b : Nat} (hd : decode cc pc = .ok (.iadd, 1)) (k : W p l e R s m args below meth c H locs cells slots Q (F0 m (pc + 1) ls (.int (nI (a + b)) :: rest))) : W p l e R s m args below meth c H locs cells slots Q (F0 m pc ls (.int (nI b) :: .int (nI a) :: rest)) :=
  lv_iadd hx hb hd (z_topi (nI_add a b) k)
theorem z_isub (hx : p.tables.exec = Jvm.exec) (hb : c.code = cc) {a b : Nat} (hd : decode cc pc = .ok (.isub, 1)) (h : b ≤ a) (k : W p l e R s m args below meth c H locs cells slots Q (F0 m (pc + 1) ls (.int (nI (a - b)) :: rest))) : W p l e R s m args below meth c H locs cells slots Q (F0 m pc ls (.int (nI b) :: .int (nI a) :: rest)) :=
  lv_isub hx hb hd (z_topi (pk_sub h) k)
theorem z_imul (hx : p.tables.exec = Jvm.exec) (hb : c.code = cc) {a b : Nat} (hd : decode cc pc = .ok (.imul, 1)) (k : W p l e R s m args below meth c H locs cells slots Q (F0 m (pc + 1) ls (.int (nI (a * b)) :: rest))) : W p l e R s m args below meth c H locs cells slots Q (F0 m pc ls (.int (nI b) :: .int (nI a) :: rest)) :=
  lv_imul hx hb hd (z_topi (pk_mul a b) k)
theorem z_lald (hx : p.tables.exec = Jvm.exec) (hb : c.code = cc) (hK : va_K D vwCl (tys cI cJ) s) (hP : va_P D vwCl ws H) (q0 : Nat) {a n : Nat} {f : Nat → Int64} (ha : ws[q0]? = some (a, .inl (cJ, n, .inr (.inl f)))) {j : Nat} (hj : j < n) (hn : n < 2 ^ 31) (hd : decode cc pc = .ok (.laload, 1)) (k : W p l e R s m args below meth c H locs cells slots Q (F0 m (pc + 1) ls (.long (f j) :: rest))) : W p l e R s m args below meth c H locs cells slots Q (F0 m pc ls (.int (nI j) :: .ref a :: rest)) :=
  va_lald hx hb hK hP q0 1 ha rfl (vp_in_nI hj hn) hd (z_topl (by rw [nI_clamp (Nat.lt_trans hj hn)]) k)
theorem z_iald (hx : p.tables.exec = Jvm.exec) (hb : c.code = cc) (hK : va_K D vwCl (tys cI cJ) s) (hP : va_P D vwCl ws H) (q0 : Nat) {a n : Nat} {f : Nat → Int32} (ha : ws[q0]? = some (a, .inl (cI, n, .inl f))) {j : Nat} (hj : j < n) (hn : n < 2 ^ 31) (hd : decode cc pc = .ok (.iaload, 1)) (k : W p l e R s m args below meth c H locs cells slots Q (F0 m (pc + 1) ls (.int (f j) :: rest))) : W p l e R s m args below meth c H locs cells slots Q (F0 m pc ls (.int (nI j) :: .ref a :: rest)) :=
  va_iald hx hb hK hP q0 0 ha rfl (vp_in_nI hj hn) hd (z_topi (by rw [nI_clamp (Nat.lt_trans hj hn)]) k)
theorem z_last (hx : p.tables.exec = Jvm.exec) (hb : c.code = cc) (hK : va_K D vwCl (tys cI cJ) s) (hP : va_P D vwCl ws H) (hD : va_D A ws) (hS : va_S A H0 H locs) (q0 : Nat) {a n : Nat} {f : Nat → Int64} (ha : ws[q0]? = some (a, .inl (cJ, n, .inr (.inl f)))) {j : Nat} {x : Int64} (hj : j < n) (hn : n < 2 ^ 31) (hd : decode cc pc = .ok (.lastore, 1))
    (k : ∀ (H1 : Heap) (locs1 : List Loc), va_P D vwCl (ws.set q0 (a, .inl (cJ, n, .inr (.inl (vp_updL f j x))))) H1 → va_D A (ws.set q0 (a, .inl (cJ, n, .inr (.inl (vp_updL f j x))))) → va_S A H0 H1 locs1 → W p l e R s m args below meth c H1 locs1 cells slots Q (F0 m (pc + 1) ls rest)) : W p l e R s m args below meth c H locs cells slots Q (F0 m pc ls (.long x :: .int (nI j) :: .ref a :: rest)) := by
  refine va_last hx hb hK hP hD hS q0 1 ha rfl (vp_in_nI hj hn) hd (fun H1 locs1 h1 h2 h3 => ?_)
  rw [nI_clamp (Nat.lt_trans hj hn)] at h1 h2
  exact k H1 locs1 h1 h2 h3
theorem z_iast (hx : p.tables.exec = Jvm.exec) (hb : c.code = cc) (hK : va_K D vwCl (tys cI cJ) s) (hP : va_P D vwCl ws H) (hD : va_D A ws) (hS : va_S A H0 H locs) (q0 : Nat) {a n : Nat} {f : Nat → Int32} (ha : ws[q0]? = some (a, .inl (cI, n, .inl f))) {j : Nat} {x : Int32} (hj : j < n) (hn : n < 2 ^ 31) (hd : decode cc pc = .ok (.iastore, 1))
    (k : ∀ (H1 : Heap) (locs1 : List Loc), va_P D vwCl (ws.set q0 (a, .inl (cI, n, .inl (upd f j x)))) H1 → va_D A (ws.set q0 (a, .inl (cI, n, .inl (upd f j x)))) → va_S A H0 H1 locs1 → W p l e R s m args below meth c H1 locs1 cells slots Q (F0 m (pc + 1) ls rest)) : W p l e R s m args below meth c H locs cells slots Q (F0 m pc ls (.int x :: .int (nI j) :: .ref a :: rest)) := by
  refine va_iast hx hb hK hP hD hS q0 0 ha rfl (vp_in_nI hj hn) hd (fun H1 locs1 h1 h2 h3 => ?_)
  rw [nI_clamp (Nat.lt_trans hj hn)] at h1 h2
  exact k H1 locs1 h1 h2 h3
theorem z_loop {σ : Type} {st : List Value} (μ : σ → Nat) (G : σ → Array Slot → Prop) (hs : ∀ (x : σ) (ls : Array Slot), G x ls → (∀ (y : σ) (ls' : Array Slot), G y ls' → μ y < μ x → W p l e R s m args below meth c H locs cells slots Q (F0 m pc ls' st)) → W p l e R s m args below meth c H locs cells slots Q (F0 m pc ls st)) (x : σ) (ls : Array Slot) (h : G x ls) : W p l e R s m args below meth c H locs cells slots Q (F0 m pc ls st) := by
  have key : ∀ (n : Nat) (x : σ) (ls : Array Slot), μ x < n → G x ls → W p l e R s m args below meth c H locs cells slots Q (F0 m pc ls st) := by
    intro n
    induction n with
    | zero => intro x ls h; exact absurd h (Nat.not_lt_zero _)
    | succ n ih => intro x ls hn hg; exact hs x ls hg (fun y ls' hy hm => ih y ls' (by omega) hy)
  exact key (μ x + 1) x ls (Nat.lt_succ_self _) h
theorem z_loopw {σ : Type} {st : List Value} (μ : σ → Nat) (G : σ → Heap → List Loc → Array Slot → Prop) (hs : ∀ (x : σ) (H : Heap) (locs : List Loc) (ls : Array Slot), G x H locs ls → (∀ (y : σ) (H' : Heap) (locs' : List Loc) (ls' : Array Slot), G y H' locs' ls' → μ y < μ x → W p l e R s m args below meth c H' locs' cells slots Q (F0 m pc ls' st)) → W p l e R s m args below meth c H locs cells slots Q (F0 m pc ls st)) (x : σ) (H : Heap) (locs : List Loc) (ls : Array Slot) (h : G x H locs ls) : W p l e R s m args below meth c H locs cells slots Q (F0 m pc ls st) := by
  have key : ∀ (n : Nat) (x : σ) (H : Heap) (locs : List Loc) (ls : Array Slot), μ x < n → G x H locs ls → W p l e R s m args below meth c H locs cells slots Q (F0 m pc ls st) := by
    intro n
    induction n with
    | zero => intro x H locs ls h; exact absurd h (Nat.not_lt_zero _)
    | succ n ih => intro x H locs ls hn hg; exact hs x H locs ls hg (fun y H' locs' ls' hy hm => ih y H' locs' ls' (by omega) hy)
  exact key (μ x + 1) x H locs ls (Nat.lt_succ_self _) h
theorem z_loopc {σ : Type} {st : List Value} (μ : σ → Nat) (G : σ → Nat → Nat → Heap → List Loc → Array Slot → Prop) (hs : ∀ (x : σ) (cells slots : Nat) (H : Heap) (locs : List Loc) (ls : Array Slot), G x cells slots H locs ls → (∀ (y : σ) (cells' slots' : Nat) (H' : Heap) (locs' : List Loc) (ls' : Array Slot), G y cells' slots' H' locs' ls' → μ y < μ x → W p l e R s m args below meth c H' locs' cells' slots' Q (F0 m pc ls' st)) → W p l e R s m args below meth c H locs cells slots Q (F0 m pc ls st)) (x : σ) (cells slots : Nat) (H : Heap) (locs : List Loc) (ls : Array Slot) (h : G x cells slots H locs ls) : W p l e R s m args below meth c H locs cells slots Q (F0 m pc ls st) := by
  have key : ∀ (n : Nat) (x : σ) (cells slots : Nat) (H : Heap) (locs : List Loc) (ls : Array Slot), μ x < n → G x cells slots H locs ls → W p l e R s m args below meth c H locs cells slots Q (F0 m pc ls st) := by
    intro n
    induction n with
    | zero => intro x cells slots H locs ls h; exact absurd h (Nat.not_lt_zero _)
    | succ n ih => intro x cells slots H locs ls hn hg; exact hs x cells slots H locs ls hg (fun y cells' slots' H' locs' ls' hy hm => ih y cells' slots' H' locs' ls' (by omega) hy)
  exact key (μ x + 1) x cells slots H locs ls (Nat.lt_succ_self _) h
end ZA
section ZB
variable {p : Program} {l : Launch} {e : Env} {R : Room} {s : State} {m : MethodId} {args : Array Value} {below : List Frame} {meth : Method} {c : Code} {H : Heap} {locs : List Loc} {cells slots : Nat} {Q : State → Prop} {cc : ByteArray} {pc : Nat} {ls : Array Slot} {rest : List Value}
theorem z_icmp_eq (hx : p.tables.exec = Jvm.exec) (hb : c.code = cc) {a b : Nat} {off : Int} {tgt : Nat} (hdg : decode cc pc = .ok (.if_icmp .eq off, 3)) (ht : (pc : Int) + off = (tgt : Int)) (ha : a < 2 ^ 31) (hc : b < 2 ^ 31)
    (kt : a = b → W p l e R s m args below meth c H locs cells slots Q (F0 m tgt ls rest)) (kf : a ≠ b → W p l e R s m args below meth c H locs cells slots Q (F0 m (pc + 3) ls rest)) : W p l e R s m args below meth c H locs cells slots Q (F0 m pc ls (.int (nI b) :: .int (nI a) :: rest)) :=
  lv_icmp_eq hx hb hdg ht (fun q => kt ((nI_eq ha hc).mp q)) (fun q => kf (fun z => q ((nI_eq ha hc).mpr z)))
theorem z_icmp_ne (hx : p.tables.exec = Jvm.exec) (hb : c.code = cc) {a b : Nat} {off : Int} {tgt : Nat} (hdg : decode cc pc = .ok (.if_icmp .ne off, 3)) (ht : (pc : Int) + off = (tgt : Int)) (ha : a < 2 ^ 31) (hc : b < 2 ^ 31)
    (kt : a ≠ b → W p l e R s m args below meth c H locs cells slots Q (F0 m tgt ls rest)) (kf : a = b → W p l e R s m args below meth c H locs cells slots Q (F0 m (pc + 3) ls rest)) : W p l e R s m args below meth c H locs cells slots Q (F0 m pc ls (.int (nI b) :: .int (nI a) :: rest)) :=
  lv_icmp_ne hx hb hdg ht (fun q => kt (fun z => q ((nI_eq ha hc).mpr z))) (fun q => kf ((nI_eq ha hc).mp q))
theorem z_icmp_lt (hx : p.tables.exec = Jvm.exec) (hb : c.code = cc) {a b : Nat} {off : Int} {tgt : Nat} (hdg : decode cc pc = .ok (.if_icmp .lt off, 3)) (ht : (pc : Int) + off = (tgt : Int)) (ha : a < 2 ^ 31) (hc : b < 2 ^ 31)
    (kt : a < b → W p l e R s m args below meth c H locs cells slots Q (F0 m tgt ls rest)) (kf : b ≤ a → W p l e R s m args below meth c H locs cells slots Q (F0 m (pc + 3) ls rest)) : W p l e R s m args below meth c H locs cells slots Q (F0 m pc ls (.int (nI b) :: .int (nI a) :: rest)) :=
  lv_icmp_lt hx hb hdg ht (fun q => kt ((nI_ltI ha hc).mp q)) (fun q => kf (Nat.not_lt.mp fun z => q ((nI_ltI ha hc).mpr z)))
theorem z_icmp_ge (hx : p.tables.exec = Jvm.exec) (hb : c.code = cc) {a b : Nat} {off : Int} {tgt : Nat} (hdg : decode cc pc = .ok (.if_icmp .ge off, 3)) (ht : (pc : Int) + off = (tgt : Int)) (ha : a < 2 ^ 31) (hc : b < 2 ^ 31)
    (kt : b ≤ a → W p l e R s m args below meth c H locs cells slots Q (F0 m tgt ls rest)) (kf : a < b → W p l e R s m args below meth c H locs cells slots Q (F0 m (pc + 3) ls rest)) : W p l e R s m args below meth c H locs cells slots Q (F0 m pc ls (.int (nI b) :: .int (nI a) :: rest)) :=
  lv_icmp_ge hx hb hdg ht (fun q => kt ((nI_leI hc ha).mp q)) (fun q => kf (Nat.not_le.mp fun z => q ((nI_leI hc ha).mpr z)))
theorem z_icmp_gt (hx : p.tables.exec = Jvm.exec) (hb : c.code = cc) {a b : Nat} {off : Int} {tgt : Nat} (hdg : decode cc pc = .ok (.if_icmp .gt off, 3)) (ht : (pc : Int) + off = (tgt : Int)) (ha : a < 2 ^ 31) (hc : b < 2 ^ 31)
    (kt : b < a → W p l e R s m args below meth c H locs cells slots Q (F0 m tgt ls rest)) (kf : a ≤ b → W p l e R s m args below meth c H locs cells slots Q (F0 m (pc + 3) ls rest)) : W p l e R s m args below meth c H locs cells slots Q (F0 m pc ls (.int (nI b) :: .int (nI a) :: rest)) :=
  lv_icmp_gt hx hb hdg ht (fun q => kt ((nI_ltI hc ha).mp q)) (fun q => kf (Nat.not_lt.mp fun z => q ((nI_ltI hc ha).mpr z)))
theorem z_icmp_le (hx : p.tables.exec = Jvm.exec) (hb : c.code = cc) {a b : Nat} {off : Int} {tgt : Nat} (hdg : decode cc pc = .ok (.if_icmp .le off, 3)) (ht : (pc : Int) + off = (tgt : Int)) (ha : a < 2 ^ 31) (hc : b < 2 ^ 31)
    (kt : a ≤ b → W p l e R s m args below meth c H locs cells slots Q (F0 m tgt ls rest)) (kf : b < a → W p l e R s m args below meth c H locs cells slots Q (F0 m (pc + 3) ls rest)) : W p l e R s m args below meth c H locs cells slots Q (F0 m pc ls (.int (nI b) :: .int (nI a) :: rest)) :=
  lv_icmp_le hx hb hdg ht (fun q => kt ((nI_leI ha hc).mp q)) (fun q => kf (Nat.not_le.mp fun z => q ((nI_leI ha hc).mpr z)))
theorem z_if_eq (hx : p.tables.exec = Jvm.exec) (hb : c.code = cc) {a : Nat} {off : Int} {tgt : Nat} (hdg : decode cc pc = .ok (.ifCond .eq off, 3)) (ht : (pc : Int) + off = (tgt : Int)) (ha : a < 2 ^ 31)
    (kt : a = 0 → W p l e R s m args below meth c H locs cells slots Q (F0 m tgt ls rest)) (kf : 0 < a → W p l e R s m args below meth c H locs cells slots Q (F0 m (pc + 3) ls rest)) : W p l e R s m args below meth c H locs cells slots Q (F0 m pc ls (.int (nI a) :: rest)) :=
  lv_if_eq hx hb hdg ht (fun q => kt ((nI_eq ha (b := 0) (by decide)).mp q)) (fun q => kf (Nat.pos_of_ne_zero fun z => q (by rw [z]; rfl)))
theorem z_if_ne (hx : p.tables.exec = Jvm.exec) (hb : c.code = cc) {a : Nat} {off : Int} {tgt : Nat} (hdg : decode cc pc = .ok (.ifCond .ne off, 3)) (ht : (pc : Int) + off = (tgt : Int)) (ha : a < 2 ^ 31)
    (kt : 0 < a → W p l e R s m args below meth c H locs cells slots Q (F0 m tgt ls rest)) (kf : a = 0 → W p l e R s m args below meth c H locs cells slots Q (F0 m (pc + 3) ls rest)) : W p l e R s m args below meth c H locs cells slots Q (F0 m pc ls (.int (nI a) :: rest)) :=
  lv_if_ne hx hb hdg ht (fun q => kt (Nat.pos_of_ne_zero fun z => q (by rw [z]; rfl))) (fun q => kf ((nI_eq ha (b := 0) (by decide)).mp q))
theorem z_if_le (hx : p.tables.exec = Jvm.exec) (hb : c.code = cc) {a : Nat} {off : Int} {tgt : Nat} (hdg : decode cc pc = .ok (.ifCond .le off, 3)) (ht : (pc : Int) + off = (tgt : Int)) (ha : a < 2 ^ 31)
    (kt : a = 0 → W p l e R s m args below meth c H locs cells slots Q (F0 m tgt ls rest)) (kf : 0 < a → W p l e R s m args below meth c H locs cells slots Q (F0 m (pc + 3) ls rest)) : W p l e R s m args below meth c H locs cells slots Q (F0 m pc ls (.int (nI a) :: rest)) :=
  lv_if_le hx hb hdg ht (fun q => kt (Nat.eq_zero_of_not_pos fun z => nI_nle z ha q)) (fun q => kf (Nat.pos_of_ne_zero fun z => q (by rw [z]; decide)))
theorem z_if_gt (hx : p.tables.exec = Jvm.exec) (hb : c.code = cc) {a : Nat} {off : Int} {tgt : Nat} (hdg : decode cc pc = .ok (.ifCond .gt off, 3)) (ht : (pc : Int) + off = (tgt : Int)) (ha : a < 2 ^ 31)
    (kt : 0 < a → W p l e R s m args below meth c H locs cells slots Q (F0 m tgt ls rest)) (kf : a = 0 → W p l e R s m args below meth c H locs cells slots Q (F0 m (pc + 3) ls rest)) : W p l e R s m args below meth c H locs cells slots Q (F0 m pc ls (.int (nI a) :: rest)) :=
  lv_if_gt hx hb hdg ht (fun q => kt (Nat.pos_of_ne_zero fun z => absurd q (by rw [z]; decide))) (fun q => kf (Nat.eq_zero_of_not_pos fun z => q ((nI_ltI (by decide) ha (a := 0)).mpr z)))
theorem z_if_ge (hx : p.tables.exec = Jvm.exec) (hb : c.code = cc) {a : Nat} {off : Int} {tgt : Nat} (hdg : decode cc pc = .ok (.ifCond .ge off, 3)) (ht : (pc : Int) + off = (tgt : Int)) (ha : a < 2 ^ 31)
    (kt : W p l e R s m args below meth c H locs cells slots Q (F0 m tgt ls rest)) : W p l e R s m args below meth c H locs cells slots Q (F0 m pc ls (.int (nI a) :: rest)) :=
  lv_if_ge hx hb hdg ht (fun _ => kt) (fun q => absurd (nI_pos' ha) q)
theorem z_if_lt (hx : p.tables.exec = Jvm.exec) (hb : c.code = cc) {a : Nat} {off : Int} {tgt : Nat} (hdg : decode cc pc = .ok (.ifCond .lt off, 3)) (ht : (pc : Int) + off = (tgt : Int)) (ha : a < 2 ^ 31)
    (kf : W p l e R s m args below meth c H locs cells slots Q (F0 m (pc + 3) ls rest)) : W p l e R s m args below meth c H locs cells slots Q (F0 m pc ls (.int (nI a) :: rest)) :=
  lv_if_lt hx hb hdg ht (fun q => absurd q (nI_pos ha)) (fun _ => kf)
theorem z_cmp_eq (x y : Int64) : lg_cmp x y = 0 ↔ x = y := by
  unfold lg_cmp
  by_cases h : x > y
  · rw [if_pos h]
    exact ⟨fun q => absurd q (by decide), fun q => by subst q; exact absurd h Int64.lt_irrefl⟩
  · rw [if_neg h]
    by_cases h2 : x = y
    · rw [if_pos h2]; exact ⟨fun _ => h2, fun _ => rfl⟩
    · rw [if_neg h2]; exact ⟨fun q => absurd q (by decide), fun q => absurd q h2⟩
theorem z_cmp_gt (x y : Int64) : 0 < lg_cmp x y ↔ y < x := by
  unfold lg_cmp
  by_cases h : x > y
  · rw [if_pos h]; exact ⟨fun _ => h, fun _ => by decide⟩
  · rw [if_neg h]
    by_cases h2 : x = y
    · rw [if_pos h2]; exact ⟨fun q => absurd q (by decide), fun q => absurd q h⟩
    · rw [if_neg h2]; exact ⟨fun q => absurd q (by decide), fun q => absurd q h⟩
theorem z_cmp_lt (x y : Int64) : lg_cmp x y < 0 ↔ x < y := by
  have e := lg_cmp_ge x y
  rw [← Int32.not_le, e, Int64.not_le]
theorem z_lc_eq (hx : p.tables.exec = Jvm.exec) (hb : c.code = cc) {x y : Int64} {off : Int} {tgt : Nat} (hd0 : decode cc pc = .ok (.lcmp, 1)) (hdg : decode cc (pc + 1) = .ok (.ifCond .eq off, 3)) (ht : ((pc + 1 : Nat) : Int) + off = (tgt : Int))
    (kt : x = y → W p l e R s m args below meth c H locs cells slots Q (F0 m tgt ls rest)) (kf : x ≠ y → W p l e R s m args below meth c H locs cells slots Q (F0 m (pc + 1 + 3) ls rest)) : W p l e R s m args below meth c H locs cells slots Q (F0 m pc ls (.long y :: .long x :: rest)) :=
  W.lcmp hx hb hd0 (lv_if_eq hx hb hdg ht (fun q => kt ((z_cmp_eq x y).mp q)) (fun q => kf (fun z => q ((z_cmp_eq x y).mpr z))))
theorem z_lc_ne (hx : p.tables.exec = Jvm.exec) (hb : c.code = cc) {x y : Int64} {off : Int} {tgt : Nat} (hd0 : decode cc pc = .ok (.lcmp, 1)) (hdg : decode cc (pc + 1) = .ok (.ifCond .ne off, 3)) (ht : ((pc + 1 : Nat) : Int) + off = (tgt : Int))
    (kt : x ≠ y → W p l e R s m args below meth c H locs cells slots Q (F0 m tgt ls rest)) (kf : x = y → W p l e R s m args below meth c H locs cells slots Q (F0 m (pc + 1 + 3) ls rest)) : W p l e R s m args below meth c H locs cells slots Q (F0 m pc ls (.long y :: .long x :: rest)) :=
  W.lcmp hx hb hd0 (lv_if_ne hx hb hdg ht (fun q => kt (fun z => q ((z_cmp_eq x y).mpr z))) (fun q => kf ((z_cmp_eq x y).mp q)))
theorem z_lc_lt (hx : p.tables.exec = Jvm.exec) (hb : c.code = cc) {x y : Int64} {off : Int} {tgt : Nat} (hd0 : decode cc pc = .ok (.lcmp, 1)) (hdg : decode cc (pc + 1) = .ok (.ifCond .lt off, 3)) (ht : ((pc + 1 : Nat) : Int) + off = (tgt : Int))
    (kt : x < y → W p l e R s m args below meth c H locs cells slots Q (F0 m tgt ls rest)) (kf : ¬ x < y → W p l e R s m args below meth c H locs cells slots Q (F0 m (pc + 1 + 3) ls rest)) : W p l e R s m args below meth c H locs cells slots Q (F0 m pc ls (.long y :: .long x :: rest)) :=
  W.lcmp hx hb hd0 (lv_if_lt hx hb hdg ht (fun q => kt ((z_cmp_lt x y).mp q)) (fun q => kf (fun z => q ((z_cmp_lt x y).mpr z))))
theorem z_lc_ge (hx : p.tables.exec = Jvm.exec) (hb : c.code = cc) {x y : Int64} {off : Int} {tgt : Nat} (hd0 : decode cc pc = .ok (.lcmp, 1)) (hdg : decode cc (pc + 1) = .ok (.ifCond .ge off, 3)) (ht : ((pc + 1 : Nat) : Int) + off = (tgt : Int))
    (kt : ¬ x < y → W p l e R s m args below meth c H locs cells slots Q (F0 m tgt ls rest)) (kf : x < y → W p l e R s m args below meth c H locs cells slots Q (F0 m (pc + 1 + 3) ls rest)) : W p l e R s m args below meth c H locs cells slots Q (F0 m pc ls (.long y :: .long x :: rest)) :=
  W.lcmp hx hb hd0 (lv_if_ge hx hb hdg ht (fun q => kt (fun z => absurd q (Int32.not_le.mpr ((z_cmp_lt x y).mpr z)))) (fun q => kf ((z_cmp_lt x y).mp (Int32.not_le.mp q))))
theorem z_lc_gt (hx : p.tables.exec = Jvm.exec) (hb : c.code = cc) {x y : Int64} {off : Int} {tgt : Nat} (hd0 : decode cc pc = .ok (.lcmp, 1)) (hdg : decode cc (pc + 1) = .ok (.ifCond .gt off, 3)) (ht : ((pc + 1 : Nat) : Int) + off = (tgt : Int))
    (kt : y < x → W p l e R s m args below meth c H locs cells slots Q (F0 m tgt ls rest)) (kf : ¬ y < x → W p l e R s m args below meth c H locs cells slots Q (F0 m (pc + 1 + 3) ls rest)) : W p l e R s m args below meth c H locs cells slots Q (F0 m pc ls (.long y :: .long x :: rest)) :=
  W.lcmp hx hb hd0 (lv_if_gt hx hb hdg ht (fun q => kt ((z_cmp_gt x y).mp q)) (fun q => kf (fun z => q ((z_cmp_gt x y).mpr z))))
theorem z_lc_le (hx : p.tables.exec = Jvm.exec) (hb : c.code = cc) {x y : Int64} {off : Int} {tgt : Nat} (hd0 : decode cc pc = .ok (.lcmp, 1)) (hdg : decode cc (pc + 1) = .ok (.ifCond .le off, 3)) (ht : ((pc + 1 : Nat) : Int) + off = (tgt : Int))
    (kt : ¬ y < x → W p l e R s m args below meth c H locs cells slots Q (F0 m tgt ls rest)) (kf : y < x → W p l e R s m args below meth c H locs cells slots Q (F0 m (pc + 1 + 3) ls rest)) : W p l e R s m args below meth c H locs cells slots Q (F0 m pc ls (.long y :: .long x :: rest)) :=
  W.lcmp hx hb hd0 (lv_if_le hx hb hdg ht (fun q => kt (fun z => absurd q (Int32.not_le.mpr ((z_cmp_gt x y).mpr z)))) (fun q => kf ((z_cmp_gt x y).mp (Int32.not_le.mp q))))
end ZB
section ZC
variable {p : Program} {l : Launch} {e : Env} {R : Room} {s : State} {m : MethodId} {args : Array Value} {below : List Frame} {meth : Method} {c : Code} {H : Heap} {locs : List Loc} {cells slots : Nat} {Q : State → Prop} {cc : ByteArray} {pc : Nat} {ls : Array Slot} {rest : List Value} {D : va_G} {cI cJ : ClassId} {ws : va_W} {A : Nat → Prop} {H0 : Heap}
theorem z_newJ (hx : p.tables.exec = Jvm.exec) (hb : c.code = cc) (harr : (Cond.arrayClass .long).before args s = true) (hK : va_K D vwCl (tys cI cJ) s) (hP : va_P D vwCl ws H) (hD : va_D A ws) (hS : va_S A H0 H locs) (hA : ∀ q, H0.size ≤ q → A q) {N : Nat} (hN : N < 1000000) (hcells : cells + 1 ≤ R.cells) (hslots : slots + N ≤ R.slots) (hd : decode cc pc = .ok (.newarray .long, 2))
    (kk : ∀ (q : Nat) (H1 : Heap), va_P D vwCl (ws ++ [(q, .inl (cJ, N, .inr (.inl (fun _ => 0))))]) H1 → va_D A (ws ++ [(q, .inl (cJ, N, .inr (.inl (fun _ => 0))))]) → va_S A H0 H1 locs → W p l e R s m args below meth c H1 locs (cells + 1) (slots + N) Q (F0 m (pc + 2) ls (.ref q :: rest))) : W p l e R s m args below meth c H locs cells slots Q (F0 m pc ls (.int (nI N) :: rest)) := by
  have h31 : N < 2 ^ 31 := by omega
  refine va_newa (atype := .long) (ty := .long) (N' := N) (a0 := (N, .inr (.inl (fun _ => 0)))) hx hb harr rfl hK hP hD hS hA (fun _ => rfl) (nI_pos h31) (nI_clamp h31) (by show N * 8 ≤ _; omega) hcells hslots hd (fun q cA H1 hK1 hP1 hD1 hS1 => ?_)
  have h1 : s.vm.findClass ("[" ++ FieldType.long.toString) = some cJ := (hK.2 1 _ rfl).2
  have h2 : s.vm.findClass ("[" ++ FieldType.long.toString) = some cA := (hK1.2 2 _ rfl).2
  have h3 : cA = cJ := Option.some.inj (h2.symm.trans h1)
  subst h3
  exact kk q H1 hP1 hD1 hS1
theorem z_newI (hx : p.tables.exec = Jvm.exec) (hb : c.code = cc) (harr : (Cond.arrayClass .int).before args s = true) (hK : va_K D vwCl (tys cI cJ) s) (hP : va_P D vwCl ws H) (hD : va_D A ws) (hS : va_S A H0 H locs) (hA : ∀ q, H0.size ≤ q → A q) {N : Nat} (hN : N < 1000000) (hcells : cells + 1 ≤ R.cells) (hslots : slots + N ≤ R.slots) (hd : decode cc pc = .ok (.newarray .int, 2))
    (kk : ∀ (q : Nat) (H1 : Heap), va_P D vwCl (ws ++ [(q, .inl (cI, N, .inl (fun _ => 0)))]) H1 → va_D A (ws ++ [(q, .inl (cI, N, .inl (fun _ => 0)))]) → va_S A H0 H1 locs → W p l e R s m args below meth c H1 locs (cells + 1) (slots + N) Q (F0 m (pc + 2) ls (.ref q :: rest))) : W p l e R s m args below meth c H locs cells slots Q (F0 m pc ls (.int (nI N) :: rest)) := by
  have h31 : N < 2 ^ 31 := by omega
  refine va_newa (atype := .int) (ty := .int) (N' := N) (a0 := (N, .inl (fun _ => 0))) hx hb harr rfl hK hP hD hS hA (fun _ => rfl) (nI_pos h31) (nI_clamp h31) (by show N * 4 ≤ _; omega) hcells hslots hd (fun q cA H1 hK1 hP1 hD1 hS1 => ?_)
  have h1 : s.vm.findClass ("[" ++ FieldType.int.toString) = some cI := (hK.2 0 _ rfl).2
  have h2 : s.vm.findClass ("[" ++ FieldType.int.toString) = some cA := (hK1.2 2 _ rfl).2
  have h3 : cA = cI := Option.some.inj (h2.symm.trans h1)
  subst h3
  exact kk q H1 hP1 hD1 hS1
theorem z_copyl (hx : p.tables.exec = Jvm.exec) (hb : c.code = cc) (hml : c.maxLocals = ls.size) {own : String} {index : Nat} (hown : s.vm.findClass own = some m.cls) (hlink : (Cond.methodLink own index arraycopyName).before args s = true) (hnat : (Cond.native arraycopyName).before args s = true) (hstat : (Cond.static arraycopyName).before args s = true) (hini : (Cond.initialized "java/lang/System").before args s = true)
    (hK : va_K D vwCl (tys cI cJ) s) (hP : va_P D vwCl ws H) (hD : va_D A ws) (hS : va_S A H0 H locs) (q0 : Nat) {a N : Nat} {f : Nat → Int64} (ha : ws[q0]? = some (a, .inl (cJ, N, .inr (.inl f)))) {sp dp n : Nat} (h4 : sp + n ≤ N) (h5 : dp + n ≤ N) (hN : N < 2 ^ 31)
    (hframes : 1 ≤ R.frames) (hlocals : (rest.map fun v => v.category).sum + 18 ≤ R.locals) (hdg : decode cc pc = .ok (.invokestatic index, 3))
    (kk : ∀ (H1 : Heap) (locs1 : List Loc), va_P D vwCl (ws.set q0 (a, .inl (cJ, N, .inr (.inl (va_cpy f f sp dp n))))) H1 → va_D A (ws.set q0 (a, .inl (cJ, N, .inr (.inl (va_cpy f f sp dp n))))) → va_S A H0 H1 locs1 → W p l e R s m args below meth c H1 locs1 cells slots Q (F0 m (pc + 3) ls rest)) : W p l e R s m args below meth c H locs cells slots Q (F0 m pc ls (.int (nI n) :: .int (nI dp) :: .ref a :: .int (nI sp) :: .ref a :: rest)) := by
  have e1 : (nI sp).toNatClampNeg = sp := nI_clamp (by omega)
  have e2 : (nI dp).toNatClampNeg = dp := nI_clamp (by omega)
  have e3 : (nI n).toNatClampNeg = n := nI_clamp (by omega)
  refine va_copyl (ty := .long) hx hb hml hown hlink hnat hstat hini hK hP hD hS q0 q0 1 1 ha ha rfl rfl rfl (nI_pos (by omega)) (nI_pos (by omega)) (nI_pos (by omega)) (by rw [e1, e3]; exact h4) (by rw [e2, e3]; exact h5) (fun _ _ => rfl) hframes hlocals hdg (fun H1 locs1 g1 g2 g3 => ?_)
  rw [e1, e2, e3] at g1 g2
  exact kk H1 locs1 g1 g2 g3
end ZC
end
section
/-! what a sorted row is, and its searches -/
def NO : Int64 := 4611686018427387904
def Srt (n : Nat) (K : Nat → Int64) : Prop := ∀ i j, i ≤ j → j < n → K i ≤ K j
def BL (n : Nat) (K : Nat → Int64) (key : Int64) (b : Nat) : Prop := b ≤ n ∧ (∀ i, i < b → K i < key) ∧ ∀ i, b ≤ i → i < n → key ≤ K i
def BU (n : Nat) (K : Nat → Int64) (key : Int64) (b : Nat) : Prop := b ≤ n ∧ (∀ i, i < b → K i ≤ key) ∧ ∀ i, b ≤ i → i < n → key < K i
def isIn (n : Nat) (x : Int32) : Prop := 0 ≤ x ∧ x < nI n
def vAt (n : Nat) (f : Nat → Int64) (x : Int32) : Int64 := if ¬ x < 0 ∧ ¬ nI n ≤ x then f x.toNatClampNeg else NO
def inS (f : Nat → Int64) (n b : Nat) (x : Int64) : Nat → Int64 := vp_updL (va_cpy f f b (b + 1) (n - b)) b x
def grp (g : Nat → Int64) : Nat → Nat
  | 0 => 0
  | n + 1 => if n = 0 ∨ g n ≠ g (n - 1) then grp g n + 1 else grp g n
theorem BL.uniq {n : Nat} {K : Nat → Int64} {key : Int64} {a b : Nat} (h1 : BL n K key a) (h2 : BL n K key b) : a = b := by
  rcases Nat.lt_trichotomy a b with h | h | h
  · exact absurd (h2.2.1 a h) (Int64.not_lt.mpr (h1.2.2 a (Nat.le_refl _) (Nat.lt_of_lt_of_le h h2.1)))
  · exact h
  · exact absurd (h1.2.1 b h) (Int64.not_lt.mpr (h2.2.2 b (Nat.le_refl _) (Nat.lt_of_lt_of_le h h1.1)))
theorem ix_of {x : Int32} {n : Nat} (h1 : ¬ x < 0) (h2 : ¬ nI n ≤ x) (hn : n < 2 ^ 31) : ∃ j, j < n ∧ x = nI j := by
  obtain ⟨j, hj, rfl⟩ := nI_of h1
  exact ⟨j, Nat.not_le.mp fun q => h2 (nI_le q hj), rfl⟩
theorem vAt_N {n j : Nat} {f : Nat → Int64} (hn : n < 2 ^ 31) (h : j < n) : vAt n f (nI j) = f j := by
  have hj : j < 2 ^ 31 := Nat.lt_trans h hn
  unfold vAt
  rw [if_pos ⟨nI_pos hj, nI_ge h hn⟩, nI_clamp hj]
theorem vAt_out {n : Nat} {f : Nat → Int64} {x : Int32} (h : ¬ (¬ x < 0 ∧ ¬ nI n ≤ x)) : vAt n f x = NO := by
  unfold vAt
  rw [if_neg h]
theorem lt_max {k : Int64} (h : k ≠ 9223372036854775807) (x : Int64) : x < k + 1 ↔ x ≤ k := by
  have h1 : k.toInt ≠ 9223372036854775807 := fun q => h (Int64.toInt_inj.mp (by rw [q]; rfl))
  have h2 : (k + 1).toInt = k.toInt + 1 := by
    rw [Int64.toInt_add]
    have a := Int64.le_toInt k
    have b := Int64.toInt_lt k
    have e1 : (1 : Int64).toInt = 1 := rfl
    rw [e1, Int.bmod_eq_of_le (by omega) (by omega)]
  rw [Int64.lt_iff_toInt_lt, Int64.le_iff_toInt_le, h2]
  omega
theorem BL.up {n : Nat} {K : Nat → Int64} {k : Int64} {b : Nat} (h : k ≠ 9223372036854775807) (q : BL n K (k + 1) b) : BU n K k b :=
  ⟨q.1, fun i hi => (lt_max h _).mp (q.2.1 i hi), fun i h1 h2 => Int64.not_le.mp fun z => absurd ((lt_max h _).mpr z) (Int64.not_lt.mpr (q.2.2 i h1 h2))⟩
theorem BU.top {n : Nat} {K : Nat → Int64} : BU n K 9223372036854775807 n :=
  ⟨Nat.le_refl _, fun i _ => Int64.le_iff_toInt_le.mpr (by have := Int64.toInt_lt (K i); have e : (9223372036854775807 : Int64).toInt = 9223372036854775807 := rfl; omega), fun i h1 h2 => absurd h2 (Nat.not_lt.mpr h1)⟩
abbrev SS : Type := Nat × (Nat → Int64) × (Nat → Int64)
/-- store: the key is there, and its value another; or it comes at its place -/
def StR (n : Nat) (K V : Nat → Int64) (key v r : Int64) (u : SS) : Prop := (∃ b, BL n K key b ∧ b < n ∧ K b = key ∧ r = V b ∧ u = (n, K, vp_updL V b v)) ∨ (∃ b, BL n K key b ∧ (b < n → K b ≠ key) ∧ r = NO ∧ u = (n + 1, inS K n b key, inS V n b v))
/-- raise -/
def RaR (n : Nat) (K V : Nat → Int64) (key v r : Int64) (u : SS) : Prop := (∃ b, BL n K key b ∧ b < n ∧ K b = key ∧ r = V b + v ∧ u = (n, K, vp_updL V b (V b + v))) ∨ (∃ b, BL n K key b ∧ (b < n → K b ≠ key) ∧ r = v ∧ u = (n + 1, inS K n b key, inS V n b v))
/-- takeAt -/
def TkR (n : Nat) (K V : Nat → Int64) (x : Int32) (r : Int64) (u : SS) : Prop := (∃ j, x = nI j ∧ j < n ∧ r = V j ∧ u = (n - 1, va_cpy K K (j + 1) j (n - (j + 1)), va_cpy V V (j + 1) j (n - (j + 1)))) ∨ (¬ (¬ x < 0 ∧ ¬ nI n ≤ x) ∧ r = NO ∧ u = (n, K, V))
/-- takeOut -/
def ToR (n : Nat) (K V : Nat → Int64) (x y : Int32) (u : SS) : Prop := (∃ i j, x = nI i ∧ y = nI j ∧ i < j ∧ j ≤ n ∧ u = (n - (j - i), va_cpy K K j i (n - j), va_cpy V V j i (n - j))) ∨ (¬ (¬ x < 0 ∧ ¬ y ≤ x ∧ y ≤ nI n) ∧ u = (n, K, V))
/-- find -/
def FiR (n : Nat) (K : Nat → Int64) (key : Int64) (r : Int32) : Prop := (∃ j, j < n ∧ K j = key ∧ r = nI j) ∨ ((∀ j, j < n → K j ≠ key) ∧ r = (-1))
end
section
/-! the sorted row: its methods -/
set_option maxHeartbeats 4000000 in
set_option maxRecDepth 100000 in
theorem c_X0_held (l : Launch) (D : va_G) (cI cJ : ClassId) (h ka va cap n : Nat) (K V : Nat → Int64) : Met l yX0_held wsX0_held { frames := 0, cells := 0, slots := 0, locals := 0 } (va_Pc [.ref h] (rP D cI cJ [(h, .inr (0, [.ref ka, .ref va, .int (nI n)])), (ka, .inl (cJ, cap, .inr (.inl K))), (va, .inl (cJ, cap, .inr (.inl V)))])) (vp_Si (fun r => r = nI n)) 0 0 (fun _ => False) := by
  refine Met.ofW (cc := cX0_held) (maxL := 1) (ret := (some .int)) (by decide) rfl ?_
  intro p e s m args below meth c s₁ B hml hv
  obtain ⟨rfl, hP, hK⟩ := hv
  have hx := B.exec
  have hb := B.bytes
  have hr := B.returns
  have hts := atoms_spec (ws := wsX0_held) B.pre
  have hown : s.vm.findClass RX0 = some m.cls := findClass_of_methodNamed B.named
  have hlocks := B.notSynchronized
  have lk0 := hts (.fieldLink RX0 11 "KeyHall$Sorted" "held" "I") (by decide +kernel)
  have lk1 : ∀ w ∈ wsX00, w ∈ wsX0_held := by decide +kernel
  have hl := lv_entry ([.ref h]) (n := 1) (Nat.le_of_ble_eq_true rfl)
  rw [lg_entry_eq]
  generalize (lg_sl ([.ref h]) ++ List.replicate (1 - (lg_sl ([.ref h])).length) Slot.unset).toArray = ls at hl ⊢
  have hl : lv_has ls 1 [(0, .ref h)] := hl
  refine lv_aload_n hx hb dX0_held_0 rfl (lv_at hl 0 rfl) ?_
  refine va_get (D := D) (ci := 0) (v := .int (nI n)) (C := RX0) (T := TX0) (N := 3) hx hb hts lk1 hown hK hP 0 rfl rfl 2 (by decide) lk0 (fun _ h9 => h9) rfl dX0_held_1 ?_
  exact W.iret (v := nI n) hx hb hr (fun t ht hW => ⟨nI n, rfl, rfl, ht⟩) (fun _ h => nomatch h) dX0_held_4

set_option maxHeartbeats 4000000 in
set_option maxRecDepth 100000 in
theorem c_X0_isInside (l : Launch) (D : va_G) (cI cJ : ClassId) (h ka va cap n : Nat) (K V : Nat → Int64) (x : Int32) : Met l yX0_isInside wsX0_isInside { frames := 0, cells := 0, slots := 0, locals := 0 } (va_Pc [.ref h, .int x] (rP D cI cJ [(h, .inr (0, [.ref ka, .ref va, .int (nI n)])), (ka, .inl (cJ, cap, .inr (.inl K))), (va, .inl (cJ, cap, .inr (.inl V)))])) (vp_Si (fun r => (¬ x < 0 ∧ ¬ nI n ≤ x ∧ r = nI 1) ∨ (¬ (¬ x < 0 ∧ ¬ nI n ≤ x) ∧ r = nI 0))) 0 0 (fun _ => False) := by
  refine Met.ofW (cc := cX0_isInside) (maxL := 2) (ret := (some .boolean)) (by decide) rfl ?_
  intro p e s m args below meth c s₁ B hml hv
  obtain ⟨rfl, hP, hK⟩ := hv
  have hx := B.exec
  have hb := B.bytes
  have hr := B.returns
  have hts := atoms_spec (ws := wsX0_isInside) B.pre
  have hown : s.vm.findClass RX0 = some m.cls := findClass_of_methodNamed B.named
  have hlocks := B.notSynchronized
  have lk0 := hts (.fieldLink RX0 11 "KeyHall$Sorted" "held" "I") (by decide +kernel)
  have lk1 : ∀ w ∈ wsX00, w ∈ wsX0_isInside := by decide +kernel
  have hl := lv_entry ([.ref h, .int x]) (n := 2) (Nat.le_of_ble_eq_true rfl)
  rw [lg_entry_eq]
  generalize (lg_sl ([.ref h, .int x]) ++ List.replicate (2 - (lg_sl ([.ref h, .int x])).length) Slot.unset).toArray = ls at hl ⊢
  have hl : lv_has ls 2 [(0, .ref h), (1, .int x)] := hl
  refine lv_iload_n hx hb dX0_isInside_0 rfl (lv_at hl 1 rfl) ?_
  refine lv_if_lt (tgt := 16) hx hb dX0_isInside_1 (by decide) (fun c_1 => ?_) (fun c_1 => ?_)
  · refine lv_iconst (v := nI 0) hx hb dX0_isInside_16 (by decide) ?_
    exact W.zret (v := nI 0) hx hb hr (by decide) (fun t ht hW => ⟨nI 0, rfl, Or.inr ⟨fun q => q.1 c_1, rfl⟩, ht⟩) (fun _ h => nomatch h) dX0_isInside_17
  · refine lv_iload_n hx hb dX0_isInside_4 rfl (lv_at hl 1 rfl) ?_
    refine lv_aload_n hx hb dX0_isInside_5 rfl (lv_at hl 0 rfl) ?_
    refine va_get (D := D) (ci := 0) (v := .int (nI n)) (C := RX0) (T := TX0) (N := 3) hx hb hts lk1 hown hK hP 0 rfl rfl 2 (by decide) lk0 (fun _ h9 => h9) rfl dX0_isInside_6 ?_
    refine lv_icmp_ge (tgt := 16) hx hb dX0_isInside_9 (by decide) (fun c_9 => ?_) (fun c_9 => ?_)
    · refine lv_iconst (v := nI 0) hx hb dX0_isInside_16 (by decide) ?_
      exact W.zret (v := nI 0) hx hb hr (by decide) (fun t ht hW => ⟨nI 0, rfl, Or.inr ⟨fun q => q.2 c_9, rfl⟩, ht⟩) (fun _ h => nomatch h) dX0_isInside_17
    · refine lv_iconst (v := nI 1) hx hb dX0_isInside_12 (by decide) ?_
      refine lv_goto (tgt := 17) hx hb dX0_isInside_13 (by decide) ?_
      exact W.zret (v := nI 1) hx hb hr (by decide) (fun t ht hW => ⟨nI 1, rfl, Or.inl ⟨c_1, c_9, rfl⟩, ht⟩) (fun _ h => nomatch h) dX0_isInside_17

set_option maxHeartbeats 4000000 in
set_option maxRecDepth 100000 in
theorem c_X0_keyAt (l : Launch) (D : va_G) (cI cJ : ClassId) (h ka va cap n : Nat) (K V : Nat → Int64) (x : Int32) (hn : n ≤ cap) (hc : cap ≤ 1023) : Met l yX0_keyAt wsX0_keyAt { frames := 1, cells := 0, slots := 0, locals := 21 } (va_Pc [.ref h, .int x] (rP D cI cJ [(h, .inr (0, [.ref ka, .ref va, .int (nI n)])), (ka, .inl (cJ, cap, .inr (.inl K))), (va, .inl (cJ, cap, .inr (.inl V)))])) (vp_Sl (fun r => r = vAt n K x)) 0 0 (fun _ => False) := by
  refine Met.ofW (cc := cX0_keyAt) (maxL := 2) (ret := (some .long)) (by decide) rfl ?_
  intro p e s m args below meth c s₁ B hml hv
  obtain ⟨rfl, hP, hK⟩ := hv
  have hx := B.exec
  have hb := B.bytes
  have hr := B.returns
  have hts := atoms_spec (ws := wsX0_keyAt) B.pre
  have hown : s.vm.findClass RX0 = some m.cls := findClass_of_methodNamed B.named
  have hlocks := B.notSynchronized
  have lk0 := hts (.fieldLink RX0 24 "KeyHall$Sorted" "keys" "[J") (by decide +kernel)
  have lk1 : ∀ w ∈ wsX00, w ∈ wsX0_keyAt := by decide +kernel
  have lk2 := hts (.constantLong RX0 50 (4611686018427387904)) (by decide +kernel)
  have hl := lv_entry ([.ref h, .int x]) (n := 2) (Nat.le_of_ble_eq_true rfl)
  rw [lg_entry_eq]
  generalize (lg_sl ([.ref h, .int x]) ++ List.replicate (2 - (lg_sl ([.ref h, .int x])).length) Slot.unset).toArray = ls at hl ⊢
  have hl : lv_has ls 2 [(0, .ref h), (1, .int x)] := hl
  refine lv_aload_n hx hb dX0_keyAt_0 rfl (lv_at hl 0 rfl) ?_
  refine lv_iload_n hx hb dX0_keyAt_1 rfl (lv_at hl 1 rfl) ?_
  refine vp_callSi (va_Run.run (va_runV (As := [.int x]) (rest := []) ⟨hx, hb, hml, hown, hts⟩ (c_X0_isInside l D cI cJ h ka va cap n K V x ) (cwV 1 hts gX0_keyAt_X0_isInside rfl rfl rfl (by decide +kernel) ⟨Nat.le_of_ble_eq_true rfl, Nat.le_of_ble_eq_true rfl⟩) (z_preV hK hP [0, 1, 2] rfl 0 0 rfl rfl) rfl rfl hl.1 rfl (lv_room (Nat.le_of_ble_eq_true rfl)) dX0_keyAt_2 ⟨Nat.zero_le _, Nat.zero_le _⟩)) (fun r_1 hr_1 => ?_)
  rcases hr_1 with ⟨hi1, hi2, rfl⟩ | ⟨hi1, rfl⟩
  · obtain ⟨j_2, hj, rfl⟩ := ix_of hi1 hi2 (by omega)
    refine lv_if_eq (tgt := 17) hx hb dX0_keyAt_5 (by decide) (fun q => absurd q (by decide)) (fun _ => ?_)
    refine lv_aload_n hx hb dX0_keyAt_8 rfl (lv_at hl 0 rfl) ?_
    refine va_get (D := D) (ci := 0) (v := .ref ka) (C := RX0) (T := TX0) (N := 3) hx hb hts lk1 hown hK hP 0 rfl rfl 0 (by decide) lk0 (fun _ h9 => h9) rfl dX0_keyAt_9 ?_
    refine lv_iload_n hx hb dX0_keyAt_12 rfl (lv_at hl 1 rfl) ?_
    refine z_lald hx hb hK hP 1 rfl (j := j_2) (by omega) (by omega) dX0_keyAt_13 ?_
    refine lv_goto (tgt := 20) hx hb dX0_keyAt_14 (by decide) ?_
    exact W.lret (v := K j_2) hx hb hr (fun t ht hW => ⟨K j_2, rfl, (vAt_N (by omega) hj).symm, ht⟩) (fun _ h => nomatch h) dX0_keyAt_20
  · refine lv_if_eq (tgt := 17) hx hb dX0_keyAt_5 (by decide) (fun _ => ?_) (fun q => absurd (by decide) q)
    refine lv_ldc2 hx hb hown lk2 dX0_keyAt_17 ?_
    exact W.lret (v := 4611686018427387904) hx hb hr (fun t ht hW => ⟨4611686018427387904, rfl, (vAt_out hi1).symm, ht⟩) (fun _ h => nomatch h) dX0_keyAt_20

set_option maxHeartbeats 4000000 in
set_option maxRecDepth 100000 in
theorem c_X0_valueAt (l : Launch) (D : va_G) (cI cJ : ClassId) (h ka va cap n : Nat) (K V : Nat → Int64) (x : Int32) (hn : n ≤ cap) (hc : cap ≤ 1023) : Met l yX0_valueAt wsX0_valueAt { frames := 1, cells := 0, slots := 0, locals := 21 } (va_Pc [.ref h, .int x] (rP D cI cJ [(h, .inr (0, [.ref ka, .ref va, .int (nI n)])), (ka, .inl (cJ, cap, .inr (.inl K))), (va, .inl (cJ, cap, .inr (.inl V)))])) (vp_Sl (fun r => r = vAt n V x)) 0 0 (fun _ => False) := by
  refine Met.ofW (cc := cX0_valueAt) (maxL := 2) (ret := (some .long)) (by decide) rfl ?_
  intro p e s m args below meth c s₁ B hml hv
  obtain ⟨rfl, hP, hK⟩ := hv
  have hx := B.exec
  have hb := B.bytes
  have hr := B.returns
  have hts := atoms_spec (ws := wsX0_valueAt) B.pre
  have hown : s.vm.findClass RX0 = some m.cls := findClass_of_methodNamed B.named
  have hlocks := B.notSynchronized
  have lk0 := hts (.fieldLink RX0 28 "KeyHall$Sorted" "values" "[J") (by decide +kernel)
  have lk1 : ∀ w ∈ wsX00, w ∈ wsX0_valueAt := by decide +kernel
  have lk2 := hts (.constantLong RX0 50 (4611686018427387904)) (by decide +kernel)
  have hl := lv_entry ([.ref h, .int x]) (n := 2) (Nat.le_of_ble_eq_true rfl)
  rw [lg_entry_eq]
  generalize (lg_sl ([.ref h, .int x]) ++ List.replicate (2 - (lg_sl ([.ref h, .int x])).length) Slot.unset).toArray = ls at hl ⊢
  have hl : lv_has ls 2 [(0, .ref h), (1, .int x)] := hl
  refine lv_aload_n hx hb dX0_valueAt_0 rfl (lv_at hl 0 rfl) ?_
  refine lv_iload_n hx hb dX0_valueAt_1 rfl (lv_at hl 1 rfl) ?_
  refine vp_callSi (va_Run.run (va_runV (As := [.int x]) (rest := []) ⟨hx, hb, hml, hown, hts⟩ (c_X0_isInside l D cI cJ h ka va cap n K V x ) (cwV 1 hts gX0_valueAt_X0_isInside rfl rfl rfl (by decide +kernel) ⟨Nat.le_of_ble_eq_true rfl, Nat.le_of_ble_eq_true rfl⟩) (z_preV hK hP [0, 1, 2] rfl 0 0 rfl rfl) rfl rfl hl.1 rfl (lv_room (Nat.le_of_ble_eq_true rfl)) dX0_valueAt_2 ⟨Nat.zero_le _, Nat.zero_le _⟩)) (fun r_1 hr_1 => ?_)
  rcases hr_1 with ⟨hi1, hi2, rfl⟩ | ⟨hi1, rfl⟩
  · obtain ⟨j_2, hj, rfl⟩ := ix_of hi1 hi2 (by omega)
    refine lv_if_eq (tgt := 17) hx hb dX0_valueAt_5 (by decide) (fun q => absurd q (by decide)) (fun _ => ?_)
    refine lv_aload_n hx hb dX0_valueAt_8 rfl (lv_at hl 0 rfl) ?_
    refine va_get (D := D) (ci := 0) (v := .ref va) (C := RX0) (T := TX0) (N := 3) hx hb hts lk1 hown hK hP 0 rfl rfl 1 (by decide) lk0 (fun _ h9 => h9) rfl dX0_valueAt_9 ?_
    refine lv_iload_n hx hb dX0_valueAt_12 rfl (lv_at hl 1 rfl) ?_
    refine z_lald hx hb hK hP 2 rfl (j := j_2) (by omega) (by omega) dX0_valueAt_13 ?_
    refine lv_goto (tgt := 20) hx hb dX0_valueAt_14 (by decide) ?_
    exact W.lret (v := V j_2) hx hb hr (fun t ht hW => ⟨V j_2, rfl, (vAt_N (by omega) hj).symm, ht⟩) (fun _ h => nomatch h) dX0_valueAt_20
  · refine lv_if_eq (tgt := 17) hx hb dX0_valueAt_5 (by decide) (fun _ => ?_) (fun q => absurd (by decide) q)
    refine lv_ldc2 hx hb hown lk2 dX0_valueAt_17 ?_
    exact W.lret (v := 4611686018427387904) hx hb hr (fun t ht hW => ⟨4611686018427387904, rfl, (vAt_out hi1).symm, ht⟩) (fun _ h => nomatch h) dX0_valueAt_20

set_option maxHeartbeats 4000000 in
set_option maxRecDepth 100000 in
theorem c_X0_isKeyAt (l : Launch) (D : va_G) (cI cJ : ClassId) (h ka va cap n : Nat) (K V : Nat → Int64) (j : Nat) (key : Int64) (hj31 : j < 2 ^ 31) (hn : n ≤ cap) (hc : cap ≤ 1023) : Met l yX0_isKeyAt wsX0_isKeyAt { frames := 1, cells := 0, slots := 0, locals := 21 } (va_Pc [.ref h, .int (nI j), .long key] (rP D cI cJ [(h, .inr (0, [.ref ka, .ref va, .int (nI n)])), (ka, .inl (cJ, cap, .inr (.inl K))), (va, .inl (cJ, cap, .inr (.inl V)))])) (vp_Si (fun r => (j < n ∧ K j = key ∧ r = nI 1) ∨ ((j < n → K j ≠ key) ∧ r = nI 0))) 0 0 (fun _ => False) := by
  refine Met.ofW (cc := cX0_isKeyAt) (maxL := 4) (ret := (some .boolean)) (by decide) rfl ?_
  intro p e s m args below meth c s₁ B hml hv
  obtain ⟨rfl, hP, hK⟩ := hv
  have hx := B.exec
  have hb := B.bytes
  have hr := B.returns
  have hts := atoms_spec (ws := wsX0_isKeyAt) B.pre
  have hown : s.vm.findClass RX0 = some m.cls := findClass_of_methodNamed B.named
  have hlocks := B.notSynchronized
  have lk0 := hts (.fieldLink RX0 24 "KeyHall$Sorted" "keys" "[J") (by decide +kernel)
  have lk1 : ∀ w ∈ wsX00, w ∈ wsX0_isKeyAt := by decide +kernel
  have hl := lv_entry ([.ref h, .int (nI j), .long key]) (n := 4) (Nat.le_of_ble_eq_true rfl)
  rw [lg_entry_eq]
  generalize (lg_sl ([.ref h, .int (nI j), .long key]) ++ List.replicate (4 - (lg_sl ([.ref h, .int (nI j), .long key])).length) Slot.unset).toArray = ls at hl ⊢
  have hl : lv_has ls 4 [(0, .ref h), (1, .int (nI j)), (2, .long key)] := hl
  refine lv_aload_n hx hb dX0_isKeyAt_0 rfl (lv_at hl 0 rfl) ?_
  refine lv_iload_n hx hb dX0_isKeyAt_1 rfl (lv_at hl 1 rfl) ?_
  refine vp_callSi (va_Run.run (va_runV (As := [.int (nI j)]) (rest := []) ⟨hx, hb, hml, hown, hts⟩ (c_X0_isInside l D cI cJ h ka va cap n K V (nI j) ) (cwV 1 hts gX0_isKeyAt_X0_isInside rfl rfl rfl (by decide +kernel) ⟨Nat.le_of_ble_eq_true rfl, Nat.le_of_ble_eq_true rfl⟩) (z_preV hK hP [0, 1, 2] rfl 0 0 rfl rfl) rfl rfl hl.1 rfl (lv_room (Nat.le_of_ble_eq_true rfl)) dX0_isKeyAt_2 ⟨Nat.zero_le _, Nat.zero_le _⟩)) (fun r_1 hr_1 => ?_)
  rcases hr_1 with ⟨hi1, hi2, rfl⟩ | ⟨hi1, rfl⟩
  · have hj : j < n := Nat.not_le.mp fun q => hi2 (nI_le q (by omega))
    refine lv_if_eq (tgt := 23) hx hb dX0_isKeyAt_5 (by decide) (fun q => absurd q (by decide)) (fun _ => ?_)
    refine lv_aload_n hx hb dX0_isKeyAt_8 rfl (lv_at hl 0 rfl) ?_
    refine va_get (D := D) (ci := 0) (v := .ref ka) (C := RX0) (T := TX0) (N := 3) hx hb hts lk1 hown hK hP 0 rfl rfl 0 (by decide) lk0 (fun _ h9 => h9) rfl dX0_isKeyAt_9 ?_
    refine lv_iload_n hx hb dX0_isKeyAt_12 rfl (lv_at hl 1 rfl) ?_
    refine z_lald hx hb hK hP 1 rfl (j := j) (by omega) (by omega) dX0_isKeyAt_13 ?_
    refine lv_lload_n hx hb dX0_isKeyAt_14 rfl (lv_at hl 2 rfl) ?_
    refine z_lc_ne (tgt := 23) hx hb dX0_isKeyAt_15 dX0_isKeyAt_16 (by decide) (fun c_16 => ?_) (fun c_16 => ?_)
    · refine lv_iconst (v := nI 0) hx hb dX0_isKeyAt_23 (by decide) ?_
      exact W.zret (v := nI 0) hx hb hr (by decide) (fun t ht hW => ⟨nI 0, rfl, Or.inr ⟨fun _ => c_16, rfl⟩, ht⟩) (fun _ h => nomatch h) dX0_isKeyAt_24
    · refine lv_iconst (v := nI 1) hx hb dX0_isKeyAt_19 (by decide) ?_
      refine lv_goto (tgt := 24) hx hb dX0_isKeyAt_20 (by decide) ?_
      exact W.zret (v := nI 1) hx hb hr (by decide) (fun t ht hW => ⟨nI 1, rfl, Or.inl ⟨hj, c_16, rfl⟩, ht⟩) (fun _ h => nomatch h) dX0_isKeyAt_24
  · have hj : n ≤ j := Nat.not_lt.mp fun q => hi1 ⟨nI_pos (by omega), nI_ge q (by omega)⟩
    refine lv_if_eq (tgt := 23) hx hb dX0_isKeyAt_5 (by decide) (fun _ => ?_) (fun q => absurd (by decide) q)
    refine lv_iconst (v := nI 0) hx hb dX0_isKeyAt_23 (by decide) ?_
    exact W.zret (v := nI 0) hx hb hr (by decide) (fun t ht hW => ⟨nI 0, rfl, Or.inr ⟨fun q => absurd q (Nat.not_lt.mpr hj), rfl⟩, ht⟩) (fun _ h => nomatch h) dX0_isKeyAt_24

set_option maxHeartbeats 4000000 in
set_option maxRecDepth 100000 in
theorem c_X0_below (l : Launch) (D : va_G) (cI cJ : ClassId) (h ka va cap n : Nat) (K V : Nat → Int64) (key : Int64) (hn : n ≤ cap) (hc : cap ≤ 1023) (hs : Srt n K) : Met l yX0_below wsX0_below { frames := 0, cells := 0, slots := 0, locals := 0 } (va_Pc [.ref h, .long key] (rP D cI cJ [(h, .inr (0, [.ref ka, .ref va, .int (nI n)])), (ka, .inl (cJ, cap, .inr (.inl K))), (va, .inl (cJ, cap, .inr (.inl V)))])) (vp_Si (fun r => ∃ b, r = nI b ∧ BL n K key b)) 0 0 (fun _ => False) := by
  refine Met.ofW (cc := cX0_below) (maxL := 5) (ret := (some .int)) (by decide) rfl ?_
  intro p e s m args below meth c s₁ B hml hv
  obtain ⟨rfl, hP, hK⟩ := hv
  have hx := B.exec
  have hb := B.bytes
  have hr := B.returns
  have hts := atoms_spec (ws := wsX0_below) B.pre
  have hown : s.vm.findClass RX0 = some m.cls := findClass_of_methodNamed B.named
  have hlocks := B.notSynchronized
  have lk0 := hts (.fieldLink RX0 11 "KeyHall$Sorted" "held" "I") (by decide +kernel)
  have lk1 : ∀ w ∈ wsX00, w ∈ wsX0_below := by decide +kernel
  have lk2 := hts (.fieldLink RX0 24 "KeyHall$Sorted" "keys" "[J") (by decide +kernel)
  have hl := lv_entry ([.ref h, .long key]) (n := 5) (Nat.le_of_ble_eq_true rfl)
  rw [lg_entry_eq]
  generalize (lg_sl ([.ref h, .long key]) ++ List.replicate (5 - (lg_sl ([.ref h, .long key])).length) Slot.unset).toArray = ls at hl ⊢
  have hl : lv_has ls 5 [(0, .ref h), (1, .long key)] := hl
  refine lv_iconst (v := nI 0) hx hb dX0_below_0 (by decide) ?_
  refine lv_istore_n (lv' := [(3, .int (nI 0)), (0, .ref h), (1, .long key)]) hx hb dX0_below_1 rfl hl (by decide) rfl (fun ls hl => ?_)
  refine lv_sipush (v := nI 512) hx hb dX0_below_2 (by decide) ?_
  refine lv_istore (lv' := [(4, .int (nI 512)), (3, .int (nI 0)), (0, .ref h), (1, .long key)]) hx hb dX0_below_5 hl (by decide) rfl (fun ls hl => ?_)
  refine z_loop (σ := Nat × Nat) (fun (t, f) => t) (fun (t, f) ls => lv_has ls 5 [(0, .ref h), (1, .long key), (3, .int (nI f)), (4, .int (nI (2 ^ t / 2)))] ∧ (t ≤ 10) ∧ (f ≤ n) ∧ (∀ i, i < f → K i < key) ∧ (∀ i, f + 2 ^ t ≤ i + 1 → i < n → key ≤ K i)) ?_ ((10, 0)) _ ⟨lv_sub hl [2, 3, 1, 0] rfl, by decide, Nat.zero_le _, fun i h => absurd h (Nat.not_lt_zero i), fun i ha hb => by exfalso; omega⟩
  rintro ⟨t, f⟩ ls ⟨hl, ht, hf, h1, h2⟩ ih
  have hl : lv_has ls 5 [(0, .ref h), (1, .long key), (3, .int (nI f)), (4, .int (nI (2 ^ t / 2)))] := hl
  obtain ⟨P, hPe⟩ : ∃ P, P = 2 ^ t / 2 := ⟨_, rfl⟩
  have hPb : P ≤ 512 := by
    have := Nat.pow_le_pow_right (show 0 < 2 by decide) ht
    omega
  have hev : 0 < P → 2 ^ t = 2 * P ∧ P = 2 ^ (t - 1) ∧ 0 < t := by
    intro q
    cases t with
    | zero => simp at hPe; omega
    | succ t => rw [Nat.pow_succ] at hPe ⊢; simp only [Nat.add_sub_cancel]; omega
  have hpp : 1 ≤ 2 ^ t := Nat.one_le_two_pow
  rw [← hPe] at hl
  refine lv_iload hx hb dX0_below_7 (lv_at hl 3 rfl) ?_
  refine z_if_le (tgt := 53) hx hb dX0_below_9 (by decide) (by omega) (fun c_9 => ?_) (fun c_9 => ?_)
  · refine lv_iload_n hx hb dX0_below_53 rfl (lv_at hl 2 rfl) ?_
    exact W.iret (v := nI f) hx hb hr (fun t ht hW => ⟨nI f, rfl, ⟨f, rfl, hf, h1, fun i ha hb => h2 i (by omega) hb⟩, ht⟩) (fun _ h => nomatch h) dX0_below_54
  · obtain ⟨hev, hev2, hev3⟩ := hev c_9
    refine lv_iload_n hx hb dX0_below_12 rfl (lv_at hl 2 rfl) ?_
    refine lv_iload hx hb dX0_below_13 (lv_at hl 3 rfl) ?_
    refine z_iadd hx hb dX0_below_15 ?_
    refine lv_aload_n hx hb dX0_below_16 rfl (lv_at hl 0 rfl) ?_
    refine va_get (D := D) (ci := 0) (v := .int (nI n)) (C := RX0) (T := TX0) (N := 3) hx hb hts lk1 hown hK hP 0 rfl rfl 2 (by decide) lk0 (fun _ h9 => h9) rfl dX0_below_17 ?_
    refine z_icmp_gt (tgt := 44) hx hb dX0_below_20 (by decide) (by omega) (by omega) (fun c_20 => ?_) (fun c_20 => ?_)
    · refine lv_iload hx hb dX0_below_44 (lv_at hl 3 rfl) ?_
      refine lv_iconst (v := nI 1) hx hb dX0_below_46 (by decide) ?_
      refine lv_ishr hx hb dX0_below_47 ?_
      refine z_topi (y := nI (2 ^ (t - 1) / 2)) ((pk_shrN (by omega) (nI 1 &&& 31) 1 (by decide)).trans (congrArg nI (by omega))) ?_
      refine lv_istore (lv' := [(4, .int (nI (2 ^ (t - 1) / 2))), (0, .ref h), (1, .long key), (3, .int (nI f))]) hx hb dX0_below_48 hl (by decide) rfl (fun ls hl => ?_)
      refine lv_goto (tgt := 7) hx hb dX0_below_50 (by decide) ?_
      exact ih ((t - 1, f)) _ ⟨lv_sub hl [1, 2, 3, 0] rfl, by omega, hf, h1, fun i ha hb => by exfalso; omega⟩ (by first | omega | (dsimp only; omega))
    · refine lv_aload_n hx hb dX0_below_23 rfl (lv_at hl 0 rfl) ?_
      refine va_get (D := D) (ci := 0) (v := .ref ka) (C := RX0) (T := TX0) (N := 3) hx hb hts lk1 hown hK hP 0 rfl rfl 0 (by decide) lk2 (fun _ h9 => h9) rfl dX0_below_24 ?_
      refine lv_iload_n hx hb dX0_below_27 rfl (lv_at hl 2 rfl) ?_
      refine lv_iload hx hb dX0_below_28 (lv_at hl 3 rfl) ?_
      refine z_iadd hx hb dX0_below_30 ?_
      refine lv_iconst (v := nI 1) hx hb dX0_below_31 (by decide) ?_
      refine z_isub hx hb dX0_below_32 (by omega) ?_
      refine z_lald hx hb hK hP 1 rfl (j := (f + P) - 1) (by omega) (by omega) dX0_below_33 ?_
      refine lv_lload_n hx hb dX0_below_34 rfl (lv_at hl 1 rfl) ?_
      refine z_lc_ge (tgt := 44) hx hb dX0_below_35 dX0_below_36 (by decide) (fun c_36 => ?_) (fun c_36 => ?_)
      · refine lv_iload hx hb dX0_below_44 (lv_at hl 3 rfl) ?_
        refine lv_iconst (v := nI 1) hx hb dX0_below_46 (by decide) ?_
        refine lv_ishr hx hb dX0_below_47 ?_
        refine z_topi (y := nI (2 ^ (t - 1) / 2)) ((pk_shrN (by omega) (nI 1 &&& 31) 1 (by decide)).trans (congrArg nI (by omega))) ?_
        refine lv_istore (lv' := [(4, .int (nI (2 ^ (t - 1) / 2))), (0, .ref h), (1, .long key), (3, .int (nI f))]) hx hb dX0_below_48 hl (by decide) rfl (fun ls hl => ?_)
        refine lv_goto (tgt := 7) hx hb dX0_below_50 (by decide) ?_
        exact ih ((t - 1, f)) _ ⟨lv_sub hl [1, 2, 3, 0] rfl, by omega, hf, h1, fun i ha hb => Int64.le_trans (Int64.not_lt.mp c_36) (hs _ _ (by omega) hb)⟩ (by first | omega | (dsimp only; omega))
      · refine lv_iload_n hx hb dX0_below_39 rfl (lv_at hl 2 rfl) ?_
        refine lv_iload hx hb dX0_below_40 (lv_at hl 3 rfl) ?_
        refine z_iadd hx hb dX0_below_42 ?_
        refine lv_istore_n (lv' := [(3, .int (nI (f + P))), (0, .ref h), (1, .long key), (4, .int (nI P))]) hx hb dX0_below_43 rfl hl (by decide) rfl (fun ls hl => ?_)
        refine lv_iload hx hb dX0_below_44 (lv_at hl 3 rfl) ?_
        refine lv_iconst (v := nI 1) hx hb dX0_below_46 (by decide) ?_
        refine lv_ishr hx hb dX0_below_47 ?_
        refine z_topi (y := nI (2 ^ (t - 1) / 2)) ((pk_shrN (by omega) (nI 1 &&& 31) 1 (by decide)).trans (congrArg nI (by omega))) ?_
        refine lv_istore (lv' := [(4, .int (nI (2 ^ (t - 1) / 2))), (3, .int (nI (f + P))), (0, .ref h), (1, .long key)]) hx hb dX0_below_48 hl (by decide) rfl (fun ls hl => ?_)
        refine lv_goto (tgt := 7) hx hb dX0_below_50 (by decide) ?_
        exact ih ((t - 1, f + P)) _ ⟨lv_sub hl [2, 3, 1, 0] rfl, by omega, c_20, fun i hi => Int64.lt_of_le_of_lt (hs i _ (by omega) (by omega)) c_36, fun i ha hb => h2 i (by omega) hb⟩ (by first | omega | (dsimp only; omega))

set_option maxHeartbeats 4000000 in
set_option maxRecDepth 100000 in
theorem c_X0_upTo (l : Launch) (D : va_G) (cI cJ : ClassId) (h ka va cap n : Nat) (K V : Nat → Int64) (key : Int64) (hn : n ≤ cap) (hc : cap ≤ 1023) (hs : Srt n K) : Met l yX0_upTo wsX0_upTo { frames := 1, cells := 0, slots := 0, locals := 24 } (va_Pc [.ref h, .long key] (rP D cI cJ [(h, .inr (0, [.ref ka, .ref va, .int (nI n)])), (ka, .inl (cJ, cap, .inr (.inl K))), (va, .inl (cJ, cap, .inr (.inl V)))])) (vp_Si (fun r => ∃ b, r = nI b ∧ BU n K key b)) 0 0 (fun _ => False) := by
  refine Met.ofW (cc := cX0_upTo) (maxL := 3) (ret := (some .int)) (by decide) rfl ?_
  intro p e s m args below meth c s₁ B hml hv
  obtain ⟨rfl, hP, hK⟩ := hv
  have hx := B.exec
  have hb := B.bytes
  have hr := B.returns
  have hts := atoms_spec (ws := wsX0_upTo) B.pre
  have hown : s.vm.findClass RX0 = some m.cls := findClass_of_methodNamed B.named
  have hlocks := B.notSynchronized
  have lk0 := hts (.constantLong RX0 33 (9223372036854775807)) (by decide +kernel)
  have lk1 := hts (.fieldLink RX0 11 "KeyHall$Sorted" "held" "I") (by decide +kernel)
  have lk2 : ∀ w ∈ wsX00, w ∈ wsX0_upTo := by decide +kernel
  have hl := lv_entry ([.ref h, .long key]) (n := 3) (Nat.le_of_ble_eq_true rfl)
  rw [lg_entry_eq]
  generalize (lg_sl ([.ref h, .long key]) ++ List.replicate (3 - (lg_sl ([.ref h, .long key])).length) Slot.unset).toArray = ls at hl ⊢
  have hl : lv_has ls 3 [(0, .ref h), (1, .long key)] := hl
  refine lv_lload_n hx hb dX0_upTo_0 rfl (lv_at hl 1 rfl) ?_
  refine lv_ldc2 hx hb hown lk0 dX0_upTo_1 ?_
  refine z_lc_ne (tgt := 15) hx hb dX0_upTo_4 dX0_upTo_5 (by decide) (fun c_5 => ?_) (fun c_5 => ?_)
  · refine lv_aload_n hx hb dX0_upTo_15 rfl (lv_at hl 0 rfl) ?_
    refine lv_lload_n hx hb dX0_upTo_16 rfl (lv_at hl 1 rfl) ?_
    refine lv_lconst (v := 1) hx hb dX0_upTo_17 (by decide) ?_
    refine lv_ladd hx hb dX0_upTo_18 ?_
    refine vp_callSi (va_Run.run (va_runV (As := [.long (key + 1)]) (rest := []) ⟨hx, hb, hml, hown, hts⟩ (c_X0_below l D cI cJ h ka va cap n K V (key + 1) (by omega) (by omega) (by assumption)) (cwV 1 hts gX0_upTo_X0_below rfl rfl rfl (by decide +kernel) ⟨Nat.le_of_ble_eq_true rfl, Nat.le_of_ble_eq_true rfl⟩) (z_preV hK hP [0, 1, 2] rfl 0 0 rfl rfl) rfl rfl hl.1 rfl (lv_room (Nat.le_of_ble_eq_true rfl)) dX0_upTo_19 ⟨Nat.zero_le _, Nat.zero_le _⟩)) (fun r_1 hr_1 => ?_)
    obtain ⟨b_2, rfl, hb_2⟩ := hr_1
    have hb_2n := hb_2.1
    exact W.iret (v := nI b_2) hx hb hr (fun t ht hW => ⟨nI b_2, rfl, ⟨b_2, rfl, hb_2.up c_5⟩, ht⟩) (fun _ h => nomatch h) dX0_upTo_22
  · refine lv_aload_n hx hb dX0_upTo_8 rfl (lv_at hl 0 rfl) ?_
    refine va_get (D := D) (ci := 0) (v := .int (nI n)) (C := RX0) (T := TX0) (N := 3) hx hb hts lk2 hown hK hP 0 rfl rfl 2 (by decide) lk1 (fun _ h9 => h9) rfl dX0_upTo_9 ?_
    refine lv_goto (tgt := 22) hx hb dX0_upTo_12 (by decide) ?_
    exact W.iret (v := nI n) hx hb hr (fun t ht hW => ⟨nI n, rfl, ⟨n, rfl, by rw [c_5]; exact BU.top⟩, ht⟩) (fun _ h => nomatch h) dX0_upTo_22

theorem BL.miss {n : Nat} {K : Nat → Int64} {key : Int64} {b : Nat} (hs : Srt n K) (h : BL n K key b) (hk : b < n → K b ≠ key) : ∀ j, j < n → K j ≠ key := by
  intro j hj q
  have h1 : b ≤ j := Nat.not_lt.mp fun z => absurd (h.2.1 j z) (by rw [q]; exact Int64.lt_irrefl)
  have hb : b < n := Nat.lt_of_le_of_lt h1 hj
  exact hk hb (Int64.le_antisymm (by rw [← q]; exact hs b j h1 hj) (h.2.2 b (Nat.le_refl _) hb))

set_option maxHeartbeats 4000000 in
set_option maxRecDepth 100000 in
theorem c_X0_find (l : Launch) (D : va_G) (cI cJ : ClassId) (h ka va cap n : Nat) (K V : Nat → Int64) (key : Int64) (hn : n ≤ cap) (hc : cap ≤ 1023) (hs : Srt n K) : Met l yX0_find wsX0_find { frames := 2, cells := 0, slots := 0, locals := 44 } (va_Pc [.ref h, .long key] (rP D cI cJ [(h, .inr (0, [.ref ka, .ref va, .int (nI n)])), (ka, .inl (cJ, cap, .inr (.inl K))), (va, .inl (cJ, cap, .inr (.inl V)))])) (vp_Si (fun r => FiR n K key r)) 0 0 (fun _ => False) := by
  refine Met.ofW (cc := cX0_find) (maxL := 4) (ret := (some .int)) (by decide) rfl ?_
  intro p e s m args below meth c s₁ B hml hv
  obtain ⟨rfl, hP, hK⟩ := hv
  have hx := B.exec
  have hb := B.bytes
  have hr := B.returns
  have hts := atoms_spec (ws := wsX0_find) B.pre
  have hown : s.vm.findClass RX0 = some m.cls := findClass_of_methodNamed B.named
  have hlocks := B.notSynchronized
  have hl := lv_entry ([.ref h, .long key]) (n := 4) (Nat.le_of_ble_eq_true rfl)
  rw [lg_entry_eq]
  generalize (lg_sl ([.ref h, .long key]) ++ List.replicate (4 - (lg_sl ([.ref h, .long key])).length) Slot.unset).toArray = ls at hl ⊢
  have hl : lv_has ls 4 [(0, .ref h), (1, .long key)] := hl
  refine lv_aload_n hx hb dX0_find_0 rfl (lv_at hl 0 rfl) ?_
  refine lv_lload_n hx hb dX0_find_1 rfl (lv_at hl 1 rfl) ?_
  refine vp_callSi (va_Run.run (va_runV (As := [.long key]) (rest := []) ⟨hx, hb, hml, hown, hts⟩ (c_X0_below l D cI cJ h ka va cap n K V key (by omega) (by omega) (by assumption)) (cwV 1 hts gX0_find_X0_below rfl rfl rfl (by decide +kernel) ⟨Nat.le_of_ble_eq_true rfl, Nat.le_of_ble_eq_true rfl⟩) (z_preV hK hP [0, 1, 2] rfl 0 0 rfl rfl) rfl rfl hl.1 rfl (lv_room (Nat.le_of_ble_eq_true rfl)) dX0_find_2 ⟨Nat.zero_le _, Nat.zero_le _⟩)) (fun r_1 hr_1 => ?_)
  obtain ⟨b_2, rfl, hb_2⟩ := hr_1
  have hb_2n := hb_2.1
  refine lv_istore_n (lv' := [(3, .int (nI b_2)), (0, .ref h), (1, .long key)]) hx hb dX0_find_5 rfl hl (by decide) rfl (fun ls hl => ?_)
  refine lv_aload_n hx hb dX0_find_6 rfl (lv_at hl 1 rfl) ?_
  refine lv_iload_n hx hb dX0_find_7 rfl (lv_at hl 0 rfl) ?_
  refine lv_lload_n hx hb dX0_find_8 rfl (lv_at hl 2 rfl) ?_
  refine vp_callSi (va_Run.run (va_runV (As := [.int (nI b_2), .long key]) (rest := []) ⟨hx, hb, hml, hown, hts⟩ (c_X0_isKeyAt l D cI cJ h ka va cap n K V b_2 key (by omega) (by omega) (by omega)) (cwV 2 hts gX0_find_X0_isKeyAt rfl rfl rfl (by decide +kernel) ⟨Nat.le_of_ble_eq_true rfl, Nat.le_of_ble_eq_true rfl⟩) (z_preV hK hP [0, 1, 2] rfl 0 0 rfl rfl) rfl rfl hl.1 rfl (lv_room (Nat.le_of_ble_eq_true rfl)) dX0_find_9 ⟨Nat.zero_le _, Nat.zero_le _⟩)) (fun r_3 hr_3 => ?_)
  rcases hr_3 with ⟨hk1, hk2, rfl⟩ | ⟨hk1, rfl⟩
  · refine lv_if_eq (tgt := 19) hx hb dX0_find_12 (by decide) (fun q => absurd q (by decide)) (fun _ => ?_)
    refine lv_iload_n hx hb dX0_find_15 rfl (lv_at hl 0 rfl) ?_
    refine lv_goto (tgt := 20) hx hb dX0_find_16 (by decide) ?_
    exact W.iret (v := nI b_2) hx hb hr (fun t ht hW => ⟨nI b_2, rfl, Or.inl ⟨b_2, hk1, hk2, rfl⟩, ht⟩) (fun _ h => nomatch h) dX0_find_20
  · refine lv_if_eq (tgt := 19) hx hb dX0_find_12 (by decide) (fun _ => ?_) (fun q => absurd (by decide) q)
    refine lv_iconst (v := (-1)) hx hb dX0_find_19 (by decide) ?_
    exact W.iret (v := (-1)) hx hb hr (fun t ht hW => ⟨(-1), rfl, Or.inr ⟨BL.miss hs hb_2 hk1, rfl⟩, ht⟩) (fun _ h => nomatch h) dX0_find_20

set_option maxHeartbeats 4000000 in
set_option maxRecDepth 100000 in
theorem c_X0_holds (l : Launch) (D : va_G) (cI cJ : ClassId) (h ka va cap n : Nat) (K V : Nat → Int64) (key : Int64) (hn : n ≤ cap) (hc : cap ≤ 1023) (hs : Srt n K) : Met l yX0_holds wsX0_holds { frames := 3, cells := 0, slots := 0, locals := 67 } (va_Pc [.ref h, .long key] (rP D cI cJ [(h, .inr (0, [.ref ka, .ref va, .int (nI n)])), (ka, .inl (cJ, cap, .inr (.inl K))), (va, .inl (cJ, cap, .inr (.inl V)))])) (vp_Si (fun r => ((∃ j, j < n ∧ K j = key) ∧ r = nI 1) ∨ ((∀ j, j < n → K j ≠ key) ∧ r = nI 0))) 0 0 (fun _ => False) := by
  refine Met.ofW (cc := cX0_holds) (maxL := 3) (ret := (some .boolean)) (by decide) rfl ?_
  intro p e s m args below meth c s₁ B hml hv
  obtain ⟨rfl, hP, hK⟩ := hv
  have hx := B.exec
  have hb := B.bytes
  have hr := B.returns
  have hts := atoms_spec (ws := wsX0_holds) B.pre
  have hown : s.vm.findClass RX0 = some m.cls := findClass_of_methodNamed B.named
  have hlocks := B.notSynchronized
  have hl := lv_entry ([.ref h, .long key]) (n := 3) (Nat.le_of_ble_eq_true rfl)
  rw [lg_entry_eq]
  generalize (lg_sl ([.ref h, .long key]) ++ List.replicate (3 - (lg_sl ([.ref h, .long key])).length) Slot.unset).toArray = ls at hl ⊢
  have hl : lv_has ls 3 [(0, .ref h), (1, .long key)] := hl
  refine lv_aload_n hx hb dX0_holds_0 rfl (lv_at hl 0 rfl) ?_
  refine lv_lload_n hx hb dX0_holds_1 rfl (lv_at hl 1 rfl) ?_
  refine vp_callSi (va_Run.run (va_runV (As := [.long key]) (rest := []) ⟨hx, hb, hml, hown, hts⟩ (c_X0_find l D cI cJ h ka va cap n K V key (by omega) (by omega) (by assumption)) (cwV 1 hts gX0_holds_X0_find rfl rfl rfl (by decide +kernel) ⟨Nat.le_of_ble_eq_true rfl, Nat.le_of_ble_eq_true rfl⟩) (z_preV hK hP [0, 1, 2] rfl 0 0 rfl rfl) rfl rfl hl.1 rfl (lv_room (Nat.le_of_ble_eq_true rfl)) dX0_holds_2 ⟨Nat.zero_le _, Nat.zero_le _⟩)) (fun r_1 hr_1 => ?_)
  rcases hr_1 with ⟨j_2, hj, hje, rfl⟩ | ⟨hnf, rfl⟩
  · have hj31 : j_2 < 2 ^ 31 := by omega
    refine z_if_lt (tgt := 12) hx hb dX0_holds_5 (by decide) (by omega) ?_
    refine lv_iconst (v := nI 1) hx hb dX0_holds_8 (by decide) ?_
    refine lv_goto (tgt := 13) hx hb dX0_holds_9 (by decide) ?_
    exact W.zret (v := nI 1) hx hb hr (by decide) (fun t ht hW => ⟨nI 1, rfl, Or.inl ⟨⟨j_2, hj, hje⟩, rfl⟩, ht⟩) (fun _ h => nomatch h) dX0_holds_13
  · refine lv_if_lt (tgt := 12) hx hb dX0_holds_5 (by decide) (fun _ => ?_) (fun q => absurd (by decide) q)
    refine lv_iconst (v := nI 0) hx hb dX0_holds_12 (by decide) ?_
    exact W.zret (v := nI 0) hx hb hr (by decide) (fun t ht hW => ⟨nI 0, rfl, Or.inr ⟨hnf, rfl⟩, ht⟩) (fun _ h => nomatch h) dX0_holds_13

set_option maxHeartbeats 4000000 in
set_option maxRecDepth 100000 in
theorem c_X0_findValue (l : Launch) (D : va_G) (cI cJ : ClassId) (h ka va cap n : Nat) (K V : Nat → Int64) (x : Int64) (hn : n ≤ cap) (hc : cap ≤ 1023) : Met l yX0_findValue wsX0_findValue { frames := 0, cells := 0, slots := 0, locals := 0 } (va_Pc [.ref h, .long x] (rP D cI cJ [(h, .inr (0, [.ref ka, .ref va, .int (nI n)])), (ka, .inl (cJ, cap, .inr (.inl K))), (va, .inl (cJ, cap, .inr (.inl V)))])) (vp_Si (fun r => (∃ j, j < n ∧ V j = x ∧ r = nI j) ∨ ((∀ j, j < n → V j ≠ x) ∧ r = (-1)))) 0 0 (fun _ => False) := by
  refine Met.ofW (cc := cX0_findValue) (maxL := 4) (ret := (some .int)) (by decide) rfl ?_
  intro p e s m args below meth c s₁ B hml hv
  obtain ⟨rfl, hP, hK⟩ := hv
  have hx := B.exec
  have hb := B.bytes
  have hr := B.returns
  have hts := atoms_spec (ws := wsX0_findValue) B.pre
  have hown : s.vm.findClass RX0 = some m.cls := findClass_of_methodNamed B.named
  have hlocks := B.notSynchronized
  have lk0 := hts (.fieldLink RX0 11 "KeyHall$Sorted" "held" "I") (by decide +kernel)
  have lk1 : ∀ w ∈ wsX00, w ∈ wsX0_findValue := by decide +kernel
  have lk2 := hts (.fieldLink RX0 28 "KeyHall$Sorted" "values" "[J") (by decide +kernel)
  have hl := lv_entry ([.ref h, .long x]) (n := 4) (Nat.le_of_ble_eq_true rfl)
  rw [lg_entry_eq]
  generalize (lg_sl ([.ref h, .long x]) ++ List.replicate (4 - (lg_sl ([.ref h, .long x])).length) Slot.unset).toArray = ls at hl ⊢
  have hl : lv_has ls 4 [(0, .ref h), (1, .long x)] := hl
  refine lv_iconst (v := nI 0) hx hb dX0_findValue_0 (by decide) ?_
  refine lv_istore_n (lv' := [(3, .int (nI 0)), (0, .ref h), (1, .long x)]) hx hb dX0_findValue_1 rfl hl (by decide) rfl (fun ls hl => ?_)
  refine z_loop (σ := Nat) (fun i => n - i) (fun i ls => lv_has ls 4 [(0, .ref h), (1, .long x), (3, .int (nI i))] ∧ (i ≤ n) ∧ (∀ j, j < i → V j ≠ x)) ?_ (0) _ ⟨lv_sub hl [1, 2, 0] rfl, Nat.zero_le _, fun j h => absurd h (Nat.not_lt_zero j)⟩
  rintro i ls ⟨hl, hi, h1⟩ ih
  have hl : lv_has ls 4 [(0, .ref h), (1, .long x), (3, .int (nI i))] := hl
  refine lv_iload_n hx hb dX0_findValue_2 rfl (lv_at hl 2 rfl) ?_
  refine lv_aload_n hx hb dX0_findValue_3 rfl (lv_at hl 0 rfl) ?_
  refine va_get (D := D) (ci := 0) (v := .int (nI n)) (C := RX0) (T := TX0) (N := 3) hx hb hts lk1 hown hK hP 0 rfl rfl 2 (by decide) lk0 (fun _ h9 => h9) rfl dX0_findValue_4 ?_
  refine z_icmp_ge (tgt := 29) hx hb dX0_findValue_7 (by decide) (by omega) (by omega) (fun c_7 => ?_) (fun c_7 => ?_)
  · refine lv_iconst (v := (-1)) hx hb dX0_findValue_29 (by decide) ?_
    exact W.iret (v := (-1)) hx hb hr (fun t ht hW => ⟨(-1), rfl, Or.inr ⟨fun j hj => h1 j (by omega), rfl⟩, ht⟩) (fun _ h => nomatch h) dX0_findValue_30
  · refine lv_aload_n hx hb dX0_findValue_10 rfl (lv_at hl 0 rfl) ?_
    refine va_get (D := D) (ci := 0) (v := .ref va) (C := RX0) (T := TX0) (N := 3) hx hb hts lk1 hown hK hP 0 rfl rfl 1 (by decide) lk2 (fun _ h9 => h9) rfl dX0_findValue_11 ?_
    refine lv_iload_n hx hb dX0_findValue_14 rfl (lv_at hl 2 rfl) ?_
    refine z_lald hx hb hK hP 2 rfl (j := i) (by omega) (by omega) dX0_findValue_15 ?_
    refine lv_lload_n hx hb dX0_findValue_16 rfl (lv_at hl 1 rfl) ?_
    refine z_lc_ne (tgt := 23) hx hb dX0_findValue_17 dX0_findValue_18 (by decide) (fun c_18 => ?_) (fun c_18 => ?_)
    · refine lv_iinc (v := nI (i + 1)) (lv' := [(3, .int (nI (i + 1))), (0, .ref h), (1, .long x)]) hx hb dX0_findValue_23 hl (k := 2) rfl (nI_add i 1) (by decide) rfl (fun ls hl => ?_)
      refine lv_goto (tgt := 2) hx hb dX0_findValue_26 (by decide) ?_
      exact ih (i + 1) _ ⟨lv_sub hl [1, 2, 0] rfl, c_7, fun j hj => (Nat.lt_succ_iff_lt_or_eq.mp hj).elim (h1 j) (fun q => q ▸ c_18)⟩ (by first | omega | (dsimp only; omega))
    · refine lv_iload_n hx hb dX0_findValue_21 rfl (lv_at hl 2 rfl) ?_
      exact W.iret (v := nI i) hx hb hr (fun t ht hW => ⟨nI i, rfl, Or.inl ⟨i, c_7, c_18, rfl⟩, ht⟩) (fun _ h => nomatch h) dX0_findValue_22

theorem grp_le (g : Nat → Int64) : ∀ n, grp g n ≤ n
  | 0 => Nat.le_refl _
  | n + 1 => by
    have := grp_le g n
    unfold grp
    split <;> omega

set_option maxHeartbeats 4000000 in
set_option maxRecDepth 100000 in
theorem c_X0_groups (l : Launch) (D : va_G) (cI cJ : ClassId) (h ka va cap n : Nat) (K V : Nat → Int64) (x : Int32) (hn : n ≤ cap) (hc : cap ≤ 1023) : Met l yX0_groups wsX0_groups { frames := 0, cells := 0, slots := 0, locals := 0 } (va_Pc [.ref h, .int x] (rP D cI cJ [(h, .inr (0, [.ref ka, .ref va, .int (nI n)])), (ka, .inl (cJ, cap, .inr (.inl K))), (va, .inl (cJ, cap, .inr (.inl V)))])) (vp_Si (fun r => r = nI (grp (fun i => K i >>> (x.toInt64 &&& 63)) n))) 0 0 (fun _ => False) := by
  refine Met.ofW (cc := cX0_groups) (maxL := 4) (ret := (some .int)) (by decide) rfl ?_
  intro p e s m args below meth c s₁ B hml hv
  obtain ⟨rfl, hP, hK⟩ := hv
  have hx := B.exec
  have hb := B.bytes
  have hr := B.returns
  have hts := atoms_spec (ws := wsX0_groups) B.pre
  have hown : s.vm.findClass RX0 = some m.cls := findClass_of_methodNamed B.named
  have hlocks := B.notSynchronized
  have lk0 := hts (.fieldLink RX0 11 "KeyHall$Sorted" "held" "I") (by decide +kernel)
  have lk1 : ∀ w ∈ wsX00, w ∈ wsX0_groups := by decide +kernel
  have lk2 := hts (.fieldLink RX0 24 "KeyHall$Sorted" "keys" "[J") (by decide +kernel)
  have hl := lv_entry ([.ref h, .int x]) (n := 4) (Nat.le_of_ble_eq_true rfl)
  rw [lg_entry_eq]
  generalize (lg_sl ([.ref h, .int x]) ++ List.replicate (4 - (lg_sl ([.ref h, .int x])).length) Slot.unset).toArray = ls at hl ⊢
  have hl : lv_has ls 4 [(0, .ref h), (1, .int x)] := hl
  refine lv_iconst (v := nI 0) hx hb dX0_groups_0 (by decide) ?_
  refine lv_istore_n (lv' := [(2, .int (nI 0)), (0, .ref h), (1, .int x)]) hx hb dX0_groups_1 rfl hl (by decide) rfl (fun ls hl => ?_)
  refine lv_iconst (v := nI 0) hx hb dX0_groups_2 (by decide) ?_
  refine lv_istore_n (lv' := [(3, .int (nI 0)), (2, .int (nI 0)), (0, .ref h), (1, .int x)]) hx hb dX0_groups_3 rfl hl (by decide) rfl (fun ls hl => ?_)
  refine z_loop (σ := Nat) (fun i => n - i) (fun i ls => lv_has ls 4 [(0, .ref h), (1, .int x), (2, .int (nI (grp (fun i => K i >>> (x.toInt64 &&& 63)) i))), (3, .int (nI i))] ∧ (i ≤ n)) ?_ (0) _ ⟨lv_sub hl [2, 3, 1, 0] rfl, Nat.zero_le _⟩
  rintro i ls ⟨hl, hi⟩ ih
  have hl : lv_has ls 4 [(0, .ref h), (1, .int x), (2, .int (nI (grp (fun i => K i >>> (x.toInt64 &&& 63)) i))), (3, .int (nI i))] := hl
  have hgl := grp_le (fun i => K i >>> (x.toInt64 &&& 63)) i
  refine lv_iload_n hx hb dX0_groups_4 rfl (lv_at hl 3 rfl) ?_
  refine lv_aload_n hx hb dX0_groups_5 rfl (lv_at hl 0 rfl) ?_
  refine va_get (D := D) (ci := 0) (v := .int (nI n)) (C := RX0) (T := TX0) (N := 3) hx hb hts lk1 hown hK hP 0 rfl rfl 2 (by decide) lk0 (fun _ h9 => h9) rfl dX0_groups_6 ?_
  refine z_icmp_ge (tgt := 47) hx hb dX0_groups_9 (by decide) (by omega) (by omega) (fun c_9 => ?_) (fun c_9 => ?_)
  · refine lv_iload_n hx hb dX0_groups_47 rfl (lv_at hl 2 rfl) ?_
    exact W.iret (v := nI (grp (fun i => K i >>> (x.toInt64 &&& 63)) i)) hx hb hr (fun t ht hW => ⟨nI (grp (fun i => K i >>> (x.toInt64 &&& 63)) i), rfl, congrArg nI (congrArg (grp (fun i => K i >>> (x.toInt64 &&& 63))) (Nat.le_antisymm hi c_9)), ht⟩) (fun _ h => nomatch h) dX0_groups_48
  · refine lv_iload_n hx hb dX0_groups_12 rfl (lv_at hl 3 rfl) ?_
    refine z_if_eq (tgt := 38) hx hb dX0_groups_13 (by decide) (by omega) (fun c_13 => ?_) (fun c_13 => ?_)
    · refine lv_iinc (v := nI (grp (fun i => K i >>> (x.toInt64 &&& 63)) i + 1)) (lv' := [(2, .int (nI (grp (fun i => K i >>> (x.toInt64 &&& 63)) i + 1))), (0, .ref h), (1, .int x), (3, .int (nI i))]) hx hb dX0_groups_38 hl (k := 2) rfl (nI_add (grp (fun i => K i >>> (x.toInt64 &&& 63)) i) 1) (by decide) rfl (fun ls hl => ?_)
      have hge : grp (fun i => K i >>> (x.toInt64 &&& 63)) (i + 1) = grp (fun i => K i >>> (x.toInt64 &&& 63)) i + 1 := by
        show (if i = 0 ∨ _ then _ else _) = _
        rw [if_pos (Or.inl c_13)]
      rw [← hge] at hl
      refine lv_iinc (v := nI (i + 1)) (lv' := [(3, .int (nI (i + 1))), (2, .int (nI (grp (fun i => K i >>> (x.toInt64 &&& 63)) (i + 1)))), (0, .ref h), (1, .int x)]) hx hb dX0_groups_41 hl (k := 3) rfl (nI_add i 1) (by decide) rfl (fun ls hl => ?_)
      refine lv_goto (tgt := 4) hx hb dX0_groups_44 (by decide) ?_
      exact ih (i + 1) _ ⟨lv_sub hl [2, 3, 1, 0] rfl, c_9⟩ (by first | omega | (dsimp only; omega))
    · refine lv_aload_n hx hb dX0_groups_16 rfl (lv_at hl 0 rfl) ?_
      refine va_get (D := D) (ci := 0) (v := .ref ka) (C := RX0) (T := TX0) (N := 3) hx hb hts lk1 hown hK hP 0 rfl rfl 0 (by decide) lk2 (fun _ h9 => h9) rfl dX0_groups_17 ?_
      refine lv_iload_n hx hb dX0_groups_20 rfl (lv_at hl 3 rfl) ?_
      refine z_lald hx hb hK hP 1 rfl (j := i) (by omega) (by omega) dX0_groups_21 ?_
      refine lv_iload_n hx hb dX0_groups_22 rfl (lv_at hl 1 rfl) ?_
      refine lv_lshr (v := (K i) >>> (x.toInt64 &&& 63)) hx hb dX0_groups_23 rfl ?_
      refine lv_aload_n hx hb dX0_groups_24 rfl (lv_at hl 0 rfl) ?_
      refine va_get (D := D) (ci := 0) (v := .ref ka) (C := RX0) (T := TX0) (N := 3) hx hb hts lk1 hown hK hP 0 rfl rfl 0 (by decide) lk2 (fun _ h9 => h9) rfl dX0_groups_25 ?_
      refine lv_iload_n hx hb dX0_groups_28 rfl (lv_at hl 3 rfl) ?_
      refine lv_iconst (v := nI 1) hx hb dX0_groups_29 (by decide) ?_
      refine z_isub hx hb dX0_groups_30 (by omega) ?_
      refine z_lald hx hb hK hP 1 rfl (j := i - 1) (by omega) (by omega) dX0_groups_31 ?_
      refine lv_iload_n hx hb dX0_groups_32 rfl (lv_at hl 1 rfl) ?_
      refine lv_lshr (v := (K (i - 1)) >>> (x.toInt64 &&& 63)) hx hb dX0_groups_33 rfl ?_
      refine z_lc_eq (tgt := 41) hx hb dX0_groups_34 dX0_groups_35 (by decide) (fun c_35 => ?_) (fun c_35 => ?_)
      · have hge : grp (fun i => K i >>> (x.toInt64 &&& 63)) (i + 1) = grp (fun i => K i >>> (x.toInt64 &&& 63)) i := by
          show (if i = 0 ∨ _ then _ else _) = _
          rw [if_neg (fun q => q.elim (fun z => absurd z (Nat.pos_iff_ne_zero.mp c_13)) (fun z => z c_35))]
        rw [← hge] at hl
        refine lv_iinc (v := nI (i + 1)) (lv' := [(3, .int (nI (i + 1))), (0, .ref h), (1, .int x), (2, .int (nI (grp (fun i => K i >>> (x.toInt64 &&& 63)) (i + 1))))]) hx hb dX0_groups_41 hl (k := 3) rfl (nI_add i 1) (by decide) rfl (fun ls hl => ?_)
        refine lv_goto (tgt := 4) hx hb dX0_groups_44 (by decide) ?_
        exact ih (i + 1) _ ⟨lv_sub hl [1, 2, 3, 0] rfl, c_9⟩ (by first | omega | (dsimp only; omega))
      · refine lv_iinc (v := nI (grp (fun i => K i >>> (x.toInt64 &&& 63)) i + 1)) (lv' := [(2, .int (nI (grp (fun i => K i >>> (x.toInt64 &&& 63)) i + 1))), (0, .ref h), (1, .int x), (3, .int (nI i))]) hx hb dX0_groups_38 hl (k := 2) rfl (nI_add (grp (fun i => K i >>> (x.toInt64 &&& 63)) i) 1) (by decide) rfl (fun ls hl => ?_)
        have hge : grp (fun i => K i >>> (x.toInt64 &&& 63)) (i + 1) = grp (fun i => K i >>> (x.toInt64 &&& 63)) i + 1 := by
          show (if i = 0 ∨ _ then _ else _) = _
          rw [if_pos (Or.inr c_35)]
        rw [← hge] at hl
        refine lv_iinc (v := nI (i + 1)) (lv' := [(3, .int (nI (i + 1))), (2, .int (nI (grp (fun i => K i >>> (x.toInt64 &&& 63)) (i + 1)))), (0, .ref h), (1, .int x)]) hx hb dX0_groups_41 hl (k := 3) rfl (nI_add i 1) (by decide) rfl (fun ls hl => ?_)
        refine lv_goto (tgt := 4) hx hb dX0_groups_44 (by decide) ?_
        exact ih (i + 1) _ ⟨lv_sub hl [2, 3, 1, 0] rfl, c_9⟩ (by first | omega | (dsimp only; omega))

set_option maxHeartbeats 4000000 in
set_option maxRecDepth 100000 in
theorem c_X0_insert (l : Launch) (D : va_G) (cI cJ : ClassId) (h ka va cap n : Nat) (K V : Nat → Int64) (b : Nat) (key v : Int64) (hn : n ≤ cap) (hc : cap ≤ 1023) (hb1 : b ≤ n) (hn1 : n < cap) (sz : Nat) : Met l yX0_insert wsX0_insert { frames := 1, cells := 0, slots := 0, locals := 26 } (va_Pc [.ref h, .int (nI b), .long key, .long v] (wP D cI cJ [(h, .inr (0, [.ref ka, .ref va, .int (nI n)])), (ka, .inl (cJ, cap, .inr (.inl K))), (va, .inl (cJ, cap, .inr (.inl V)))] sz)) (va_Qv (fun (u : SS) => u = (n + 1, inS K n b key, inS V n b v)) (wB D cI cJ (va_A [(h, .inr (0, [.ref ka, .ref va, .int (nI n)])), (ka, .inl (cJ, cap, .inr (.inl K))), (va, .inl (cJ, cap, .inr (.inl V)))] sz) (fun (n', K', V') => [(h, .inr (0, [.ref ka, .ref va, .int (nI n')])), (ka, .inl (cJ, cap, .inr (.inl K'))), (va, .inl (cJ, cap, .inr (.inl V')))])) (va_A [(h, .inr (0, [.ref ka, .ref va, .int (nI n)])), (ka, .inl (cJ, cap, .inr (.inl K))), (va, .inl (cJ, cap, .inr (.inl V)))] sz)) 0 0 (va_A [(h, .inr (0, [.ref ka, .ref va, .int (nI n)])), (ka, .inl (cJ, cap, .inr (.inl K))), (va, .inl (cJ, cap, .inr (.inl V)))] sz) := by
  refine Met.ofW (cc := cX0_insert) (maxL := 6) (ret := none) (by decide) rfl ?_
  intro p e s m args below meth c s₁ B hml hv
  obtain ⟨rfl, hsz, hP, hK, hD0⟩ := hv
  have hx := B.exec
  have hb := B.bytes
  have hr := B.returns
  have hts := atoms_spec (ws := wsX0_insert) B.pre
  have hown : s.vm.findClass RX0 = some m.cls := findClass_of_methodNamed B.named
  have hlocks := B.notSynchronized
  have lk0 := hts (.fieldLink RX0 11 "KeyHall$Sorted" "held" "I") (by decide +kernel)
  have lk1 : ∀ w ∈ wsX00, w ∈ wsX0_insert := by decide +kernel
  have lk2 := hts (.fieldLink RX0 24 "KeyHall$Sorted" "keys" "[J") (by decide +kernel)
  have lk3 := hts (.methodLink RX0 56 arraycopyName) (by decide +kernel)
  have lk4 := hts (.native arraycopyName) (by decide +kernel)
  have lk5 := hts (.static arraycopyName) (by decide +kernel)
  have lk6 := hts (.initialized "java/lang/System") (by decide +kernel)
  have lk7 := hts (.fieldLink RX0 28 "KeyHall$Sorted" "values" "[J") (by decide +kernel)
  subst hsz
  have hD := hD0.self (sz := s.heap.size)
  generalize hAe : va_A [(h, .inr (0, [.ref ka, .ref va, .int (nI n)])), (ka, .inl (cJ, cap, .inr (.inl K))), (va, .inl (cJ, cap, .inr (.inl V)))] s.heap.size = A at hD ⊢
  have hA : ∀ q : Nat, s.heap.size ≤ q → A q := fun q h => by rw [← hAe]; exact Or.inr h
  have hS : va_S A s.heap s.heap [] := va_S.rf
  have hP : va_P D vwCl [(h, .inr (0, [.ref ka, .ref va, .int (nI n)])), (ka, .inl (cJ, cap, .inr (.inl K))), (va, .inl (cJ, cap, .inr (.inl V)))] s.heap := hP
  have hl := lv_entry ([.ref h, .int (nI b), .long key, .long v]) (n := 6) (Nat.le_of_ble_eq_true rfl)
  rw [lg_entry_eq]
  generalize (lg_sl ([.ref h, .int (nI b), .long key, .long v]) ++ List.replicate (6 - (lg_sl ([.ref h, .int (nI b), .long key, .long v])).length) Slot.unset).toArray = ls at hl ⊢
  have hl : lv_has ls 6 [(0, .ref h), (1, .int (nI b)), (2, .long key), (4, .long v)] := hl
  refine lv_iload_n hx hb dX0_insert_0 rfl (lv_at hl 1 rfl) ?_
  refine z_if_lt (tgt := 24) hx hb dX0_insert_1 (by decide) (by omega) ?_
  refine lv_iload_n hx hb dX0_insert_4 rfl (lv_at hl 1 rfl) ?_
  refine lv_aload_n hx hb dX0_insert_5 rfl (lv_at hl 0 rfl) ?_
  refine va_get (D := D) (ci := 0) (v := .int (nI n)) (C := RX0) (T := TX0) (N := 3) hx hb hts lk1 hown hK hP 0 rfl rfl 2 (by decide) lk0 (fun _ h9 => h9) rfl dX0_insert_6 ?_
  refine z_icmp_gt (tgt := 24) hx hb dX0_insert_9 (by decide) (by omega) (by omega) (fun c_9 => ?_) (fun c_9 => ?_)
  · exact W.vret hx hb hr (fun t ht hW => ⟨⟨(n, K, V), rfl, by exfalso; omega, by rw [ht]; exact hP, va_K.moved hW.alike hK, hD⟩, hS.F ht⟩) hS.2.2 dX0_insert_24
  · refine lv_aload_n hx hb dX0_insert_12 rfl (lv_at hl 0 rfl) ?_
    refine va_get (D := D) (ci := 0) (v := .int (nI n)) (C := RX0) (T := TX0) (N := 3) hx hb hts lk1 hown hK hP 0 rfl rfl 2 (by decide) lk0 (fun _ h9 => h9) rfl dX0_insert_13 ?_
    refine lv_aload_n hx hb dX0_insert_16 rfl (lv_at hl 0 rfl) ?_
    refine va_get (D := D) (ci := 0) (v := .ref ka) (C := RX0) (T := TX0) (N := 3) hx hb hts lk1 hown hK hP 0 rfl rfl 0 (by decide) lk2 (fun _ h9 => h9) rfl dX0_insert_17 ?_
    refine va_alen (v := nI cap) hx hb hK hP 1 1 rfl rfl rfl dX0_insert_20 ?_
    refine z_icmp_lt (tgt := 25) hx hb dX0_insert_21 (by decide) (by omega) (by omega) (fun c_21 => ?_) (fun c_21 => ?_)
    · refine lv_aload_n hx hb dX0_insert_25 rfl (lv_at hl 0 rfl) ?_
      refine va_get (D := D) (ci := 0) (v := .ref ka) (C := RX0) (T := TX0) (N := 3) hx hb hts lk1 hown hK hP 0 rfl rfl 0 (by decide) lk2 (fun _ h9 => h9) rfl dX0_insert_26 ?_
      refine lv_iload_n hx hb dX0_insert_29 rfl (lv_at hl 1 rfl) ?_
      refine lv_aload_n hx hb dX0_insert_30 rfl (lv_at hl 0 rfl) ?_
      refine va_get (D := D) (ci := 0) (v := .ref ka) (C := RX0) (T := TX0) (N := 3) hx hb hts lk1 hown hK hP 0 rfl rfl 0 (by decide) lk2 (fun _ h9 => h9) rfl dX0_insert_31 ?_
      refine lv_iload_n hx hb dX0_insert_34 rfl (lv_at hl 1 rfl) ?_
      refine lv_iconst (v := nI 1) hx hb dX0_insert_35 (by decide) ?_
      refine z_iadd hx hb dX0_insert_36 ?_
      refine lv_aload_n hx hb dX0_insert_37 rfl (lv_at hl 0 rfl) ?_
      refine va_get (D := D) (ci := 0) (v := .int (nI n)) (C := RX0) (T := TX0) (N := 3) hx hb hts lk1 hown hK hP 0 rfl rfl 2 (by decide) lk0 (fun _ h9 => h9) rfl dX0_insert_38 ?_
      refine lv_iload_n hx hb dX0_insert_41 rfl (lv_at hl 1 rfl) ?_
      refine z_isub hx hb dX0_insert_42 (by omega) ?_
      refine z_copyl hx hb (by rw [hml]; exact hl.1.symm) hown lk3 lk4 lk5 lk6 hK hP hD hS 1 rfl (sp := b) (dp := (b + 1)) (n := (n - b)) (by omega) (by omega) (by omega) (Nat.le_of_ble_eq_true rfl) (Nat.le_of_ble_eq_true rfl) dX0_insert_43 (fun H locs hP hD hS => ?_)
      have hP : va_P D vwCl [(h, .inr (0, [.ref ka, .ref va, .int (nI n)])), (ka, .inl (cJ, cap, .inr (.inl (va_cpy K K b (b + 1) (n - b))))), (va, .inl (cJ, cap, .inr (.inl V)))] H := hP
      have hD : va_D A [(h, .inr (0, [.ref ka, .ref va, .int (nI n)])), (ka, .inl (cJ, cap, .inr (.inl (va_cpy K K b (b + 1) (n - b))))), (va, .inl (cJ, cap, .inr (.inl V)))] := hD
      refine lv_aload_n hx hb dX0_insert_46 rfl (lv_at hl 0 rfl) ?_
      refine va_get (D := D) (ci := 0) (v := .ref va) (C := RX0) (T := TX0) (N := 3) hx hb hts lk1 hown hK hP 0 rfl rfl 1 (by decide) lk7 (fun _ h9 => h9) rfl dX0_insert_47 ?_
      refine lv_iload_n hx hb dX0_insert_50 rfl (lv_at hl 1 rfl) ?_
      refine lv_aload_n hx hb dX0_insert_51 rfl (lv_at hl 0 rfl) ?_
      refine va_get (D := D) (ci := 0) (v := .ref va) (C := RX0) (T := TX0) (N := 3) hx hb hts lk1 hown hK hP 0 rfl rfl 1 (by decide) lk7 (fun _ h9 => h9) rfl dX0_insert_52 ?_
      refine lv_iload_n hx hb dX0_insert_55 rfl (lv_at hl 1 rfl) ?_
      refine lv_iconst (v := nI 1) hx hb dX0_insert_56 (by decide) ?_
      refine z_iadd hx hb dX0_insert_57 ?_
      refine lv_aload_n hx hb dX0_insert_58 rfl (lv_at hl 0 rfl) ?_
      refine va_get (D := D) (ci := 0) (v := .int (nI n)) (C := RX0) (T := TX0) (N := 3) hx hb hts lk1 hown hK hP 0 rfl rfl 2 (by decide) lk0 (fun _ h9 => h9) rfl dX0_insert_59 ?_
      refine lv_iload_n hx hb dX0_insert_62 rfl (lv_at hl 1 rfl) ?_
      refine z_isub hx hb dX0_insert_63 (by omega) ?_
      refine z_copyl hx hb (by rw [hml]; exact hl.1.symm) hown lk3 lk4 lk5 lk6 hK hP hD hS 2 rfl (sp := b) (dp := (b + 1)) (n := (n - b)) (by omega) (by omega) (by omega) (Nat.le_of_ble_eq_true rfl) (Nat.le_of_ble_eq_true rfl) dX0_insert_64 (fun H locs hP hD hS => ?_)
      have hP : va_P D vwCl [(h, .inr (0, [.ref ka, .ref va, .int (nI n)])), (ka, .inl (cJ, cap, .inr (.inl (va_cpy K K b (b + 1) (n - b))))), (va, .inl (cJ, cap, .inr (.inl (va_cpy V V b (b + 1) (n - b)))))] H := hP
      have hD : va_D A [(h, .inr (0, [.ref ka, .ref va, .int (nI n)])), (ka, .inl (cJ, cap, .inr (.inl (va_cpy K K b (b + 1) (n - b))))), (va, .inl (cJ, cap, .inr (.inl (va_cpy V V b (b + 1) (n - b)))))] := hD
      refine lv_aload_n hx hb dX0_insert_67 rfl (lv_at hl 0 rfl) ?_
      refine va_get (D := D) (ci := 0) (v := .ref ka) (C := RX0) (T := TX0) (N := 3) hx hb hts lk1 hown hK hP 0 rfl rfl 0 (by decide) lk2 (fun _ h9 => h9) rfl dX0_insert_68 ?_
      refine lv_iload_n hx hb dX0_insert_71 rfl (lv_at hl 1 rfl) ?_
      refine lv_lload_n hx hb dX0_insert_72 rfl (lv_at hl 2 rfl) ?_
      refine z_last hx hb hK hP hD hS 1 rfl (j := b) (by omega) (by omega) dX0_insert_73 (fun H locs hP hD hS => ?_)
      have hP : va_P D vwCl [(h, .inr (0, [.ref ka, .ref va, .int (nI n)])), (ka, .inl (cJ, cap, .inr (.inl (vp_updL (va_cpy K K b (b + 1) (n - b)) b key)))), (va, .inl (cJ, cap, .inr (.inl (va_cpy V V b (b + 1) (n - b)))))] H := hP
      have hD : va_D A [(h, .inr (0, [.ref ka, .ref va, .int (nI n)])), (ka, .inl (cJ, cap, .inr (.inl (vp_updL (va_cpy K K b (b + 1) (n - b)) b key)))), (va, .inl (cJ, cap, .inr (.inl (va_cpy V V b (b + 1) (n - b)))))] := hD
      refine lv_aload_n hx hb dX0_insert_74 rfl (lv_at hl 0 rfl) ?_
      refine va_get (D := D) (ci := 0) (v := .ref va) (C := RX0) (T := TX0) (N := 3) hx hb hts lk1 hown hK hP 0 rfl rfl 1 (by decide) lk7 (fun _ h9 => h9) rfl dX0_insert_75 ?_
      refine lv_iload_n hx hb dX0_insert_78 rfl (lv_at hl 1 rfl) ?_
      refine lv_lload hx hb dX0_insert_79 (lv_at hl 3 rfl) ?_
      refine z_last hx hb hK hP hD hS 2 rfl (j := b) (by omega) (by omega) dX0_insert_81 (fun H locs hP hD hS => ?_)
      have hP : va_P D vwCl [(h, .inr (0, [.ref ka, .ref va, .int (nI n)])), (ka, .inl (cJ, cap, .inr (.inl (vp_updL (va_cpy K K b (b + 1) (n - b)) b key)))), (va, .inl (cJ, cap, .inr (.inl (vp_updL (va_cpy V V b (b + 1) (n - b)) b v))))] H := hP
      have hD : va_D A [(h, .inr (0, [.ref ka, .ref va, .int (nI n)])), (ka, .inl (cJ, cap, .inr (.inl (vp_updL (va_cpy K K b (b + 1) (n - b)) b key)))), (va, .inl (cJ, cap, .inr (.inl (vp_updL (va_cpy V V b (b + 1) (n - b)) b v))))] := hD
      refine lv_aload_n hx hb dX0_insert_82 rfl (lv_at hl 0 rfl) ?_
      refine lv_dup hx hb dX0_insert_83 rfl ?_
      refine va_get (D := D) (ci := 0) (v := .int (nI n)) (C := RX0) (T := TX0) (N := 3) hx hb hts lk1 hown hK hP 0 rfl rfl 2 (by decide) lk0 (fun _ h9 => h9) rfl dX0_insert_84 ?_
      refine lv_iconst (v := nI 1) hx hb dX0_insert_87 (by decide) ?_
      refine z_iadd hx hb dX0_insert_88 ?_
      refine va_put (D := D) (ci := 0) (v := .int (nI (n + 1))) (ty := .int) (C := RX0) (T := TX0) (N := 3) hx hb hts lk1 tyX0 tyX0_ok nmX0 hown hK hP hD hS 0 rfl rfl 2 (by decide) lk0 (fun _ h9 => h9) rfl (by decide +kernel) rfl rfl (Nat.le_of_ble_eq_true rfl) dX0_insert_89 (fun H locs hP hD hS => ?_)
      have hP : va_P D vwCl [(h, .inr (0, [.ref ka, .ref va, .int (nI (n + 1))])), (ka, .inl (cJ, cap, .inr (.inl (vp_updL (va_cpy K K b (b + 1) (n - b)) b key)))), (va, .inl (cJ, cap, .inr (.inl (vp_updL (va_cpy V V b (b + 1) (n - b)) b v))))] H := hP
      have hD : va_D A [(h, .inr (0, [.ref ka, .ref va, .int (nI (n + 1))])), (ka, .inl (cJ, cap, .inr (.inl (vp_updL (va_cpy K K b (b + 1) (n - b)) b key)))), (va, .inl (cJ, cap, .inr (.inl (vp_updL (va_cpy V V b (b + 1) (n - b)) b v))))] := hD
      exact W.vret hx hb hr (fun t ht hW => ⟨⟨(n + 1, inS K n b key, inS V n b v), rfl, rfl, by rw [ht]; exact hP, va_K.moved hW.alike hK, hD⟩, hS.F ht⟩) hS.2.2 dX0_insert_92
    · exact W.vret hx hb hr (fun t ht hW => ⟨⟨(n, K, V), rfl, by exfalso; omega, by rw [ht]; exact hP, va_K.moved hW.alike hK, hD⟩, hS.F ht⟩) hS.2.2 dX0_insert_24

set_option maxHeartbeats 4000000 in
set_option maxRecDepth 100000 in
theorem c_X0_takeOut (l : Launch) (D : va_G) (cI cJ : ClassId) (h ka va cap n : Nat) (K V : Nat → Int64) (x y : Int32) (hn : n ≤ cap) (hc : cap ≤ 1023) (sz : Nat) : Met l yX0_takeOut wsX0_takeOut { frames := 1, cells := 0, slots := 0, locals := 26 } (va_Pc [.ref h, .int x, .int y] (wP D cI cJ [(h, .inr (0, [.ref ka, .ref va, .int (nI n)])), (ka, .inl (cJ, cap, .inr (.inl K))), (va, .inl (cJ, cap, .inr (.inl V)))] sz)) (va_Qv (fun (u : SS) => ToR n K V x y u) (wB D cI cJ (va_A [(h, .inr (0, [.ref ka, .ref va, .int (nI n)])), (ka, .inl (cJ, cap, .inr (.inl K))), (va, .inl (cJ, cap, .inr (.inl V)))] sz) (fun (n', K', V') => [(h, .inr (0, [.ref ka, .ref va, .int (nI n')])), (ka, .inl (cJ, cap, .inr (.inl K'))), (va, .inl (cJ, cap, .inr (.inl V')))])) (va_A [(h, .inr (0, [.ref ka, .ref va, .int (nI n)])), (ka, .inl (cJ, cap, .inr (.inl K))), (va, .inl (cJ, cap, .inr (.inl V)))] sz)) 0 0 (va_A [(h, .inr (0, [.ref ka, .ref va, .int (nI n)])), (ka, .inl (cJ, cap, .inr (.inl K))), (va, .inl (cJ, cap, .inr (.inl V)))] sz) := by
  refine Met.ofW (cc := cX0_takeOut) (maxL := 3) (ret := none) (by decide) rfl ?_
  intro p e s m args below meth c s₁ B hml hv
  obtain ⟨rfl, hsz, hP, hK, hD0⟩ := hv
  have hx := B.exec
  have hb := B.bytes
  have hr := B.returns
  have hts := atoms_spec (ws := wsX0_takeOut) B.pre
  have hown : s.vm.findClass RX0 = some m.cls := findClass_of_methodNamed B.named
  have hlocks := B.notSynchronized
  have lk0 := hts (.fieldLink RX0 11 "KeyHall$Sorted" "held" "I") (by decide +kernel)
  have lk1 : ∀ w ∈ wsX00, w ∈ wsX0_takeOut := by decide +kernel
  have lk2 := hts (.fieldLink RX0 24 "KeyHall$Sorted" "keys" "[J") (by decide +kernel)
  have lk3 := hts (.methodLink RX0 56 arraycopyName) (by decide +kernel)
  have lk4 := hts (.native arraycopyName) (by decide +kernel)
  have lk5 := hts (.static arraycopyName) (by decide +kernel)
  have lk6 := hts (.initialized "java/lang/System") (by decide +kernel)
  have lk7 := hts (.fieldLink RX0 28 "KeyHall$Sorted" "values" "[J") (by decide +kernel)
  subst hsz
  have hD := hD0.self (sz := s.heap.size)
  generalize hAe : va_A [(h, .inr (0, [.ref ka, .ref va, .int (nI n)])), (ka, .inl (cJ, cap, .inr (.inl K))), (va, .inl (cJ, cap, .inr (.inl V)))] s.heap.size = A at hD ⊢
  have hA : ∀ q : Nat, s.heap.size ≤ q → A q := fun q h => by rw [← hAe]; exact Or.inr h
  have hS : va_S A s.heap s.heap [] := va_S.rf
  have hP : va_P D vwCl [(h, .inr (0, [.ref ka, .ref va, .int (nI n)])), (ka, .inl (cJ, cap, .inr (.inl K))), (va, .inl (cJ, cap, .inr (.inl V)))] s.heap := hP
  have hl := lv_entry ([.ref h, .int x, .int y]) (n := 3) (Nat.le_of_ble_eq_true rfl)
  rw [lg_entry_eq]
  generalize (lg_sl ([.ref h, .int x, .int y]) ++ List.replicate (3 - (lg_sl ([.ref h, .int x, .int y])).length) Slot.unset).toArray = ls at hl ⊢
  have hl : lv_has ls 3 [(0, .ref h), (1, .int x), (2, .int y)] := hl
  refine lv_iload_n hx hb dX0_takeOut_0 rfl (lv_at hl 1 rfl) ?_
  refine lv_if_lt (tgt := 17) hx hb dX0_takeOut_1 (by decide) (fun c_1 => ?_) (fun c_1 => ?_)
  · exact W.vret hx hb hr (fun t ht hW => ⟨⟨(n, K, V), rfl, Or.inr ⟨fun q => q.1 c_1, rfl⟩, by rw [ht]; exact hP, va_K.moved hW.alike hK, hD⟩, hS.F ht⟩) hS.2.2 dX0_takeOut_17
  · refine lv_iload_n hx hb dX0_takeOut_4 rfl (lv_at hl 2 rfl) ?_
    refine lv_iload_n hx hb dX0_takeOut_5 rfl (lv_at hl 1 rfl) ?_
    refine lv_icmp_le (tgt := 17) hx hb dX0_takeOut_6 (by decide) (fun c_6 => ?_) (fun c_6 => ?_)
    · exact W.vret hx hb hr (fun t ht hW => ⟨⟨(n, K, V), rfl, Or.inr ⟨fun q => q.2.1 c_6, rfl⟩, by rw [ht]; exact hP, va_K.moved hW.alike hK, hD⟩, hS.F ht⟩) hS.2.2 dX0_takeOut_17
    · refine lv_iload_n hx hb dX0_takeOut_9 rfl (lv_at hl 2 rfl) ?_
      refine lv_aload_n hx hb dX0_takeOut_10 rfl (lv_at hl 0 rfl) ?_
      refine va_get (D := D) (ci := 0) (v := .int (nI n)) (C := RX0) (T := TX0) (N := 3) hx hb hts lk1 hown hK hP 0 rfl rfl 2 (by decide) lk0 (fun _ h9 => h9) rfl dX0_takeOut_11 ?_
      refine lv_icmp_le (tgt := 18) hx hb dX0_takeOut_14 (by decide) (fun c_14 => ?_) (fun c_14 => ?_)
      · obtain ⟨i, hi, rfl⟩ := nI_of c_1
        obtain ⟨j, hj, rfl⟩ : ∃ j, j < 2 ^ 31 ∧ y = nI j := nI_of (fun q => c_6 (Int32.le_trans (Int32.le_of_lt q) (nI_pos' hi)))
        have hij : i < j := Nat.not_le.mp fun q => c_6 (nI_le q hi)
        have hjn : j ≤ n := Nat.not_lt.mp fun q => absurd c_14 (nI_ge q hj)
        refine lv_aload_n hx hb dX0_takeOut_18 rfl (lv_at hl 0 rfl) ?_
        refine va_get (D := D) (ci := 0) (v := .ref ka) (C := RX0) (T := TX0) (N := 3) hx hb hts lk1 hown hK hP 0 rfl rfl 0 (by decide) lk2 (fun _ h9 => h9) rfl dX0_takeOut_19 ?_
        refine lv_iload_n hx hb dX0_takeOut_22 rfl (lv_at hl 2 rfl) ?_
        refine lv_aload_n hx hb dX0_takeOut_23 rfl (lv_at hl 0 rfl) ?_
        refine va_get (D := D) (ci := 0) (v := .ref ka) (C := RX0) (T := TX0) (N := 3) hx hb hts lk1 hown hK hP 0 rfl rfl 0 (by decide) lk2 (fun _ h9 => h9) rfl dX0_takeOut_24 ?_
        refine lv_iload_n hx hb dX0_takeOut_27 rfl (lv_at hl 1 rfl) ?_
        refine lv_aload_n hx hb dX0_takeOut_28 rfl (lv_at hl 0 rfl) ?_
        refine va_get (D := D) (ci := 0) (v := .int (nI n)) (C := RX0) (T := TX0) (N := 3) hx hb hts lk1 hown hK hP 0 rfl rfl 2 (by decide) lk0 (fun _ h9 => h9) rfl dX0_takeOut_29 ?_
        refine lv_iload_n hx hb dX0_takeOut_32 rfl (lv_at hl 2 rfl) ?_
        refine z_isub hx hb dX0_takeOut_33 (by omega) ?_
        refine z_copyl hx hb (by rw [hml]; exact hl.1.symm) hown lk3 lk4 lk5 lk6 hK hP hD hS 1 rfl (sp := j) (dp := i) (n := (n - j)) (by omega) (by omega) (by omega) (Nat.le_of_ble_eq_true rfl) (Nat.le_of_ble_eq_true rfl) dX0_takeOut_34 (fun H locs hP hD hS => ?_)
        have hP : va_P D vwCl [(h, .inr (0, [.ref ka, .ref va, .int (nI n)])), (ka, .inl (cJ, cap, .inr (.inl (va_cpy K K j i (n - j))))), (va, .inl (cJ, cap, .inr (.inl V)))] H := hP
        have hD : va_D A [(h, .inr (0, [.ref ka, .ref va, .int (nI n)])), (ka, .inl (cJ, cap, .inr (.inl (va_cpy K K j i (n - j))))), (va, .inl (cJ, cap, .inr (.inl V)))] := hD
        refine lv_aload_n hx hb dX0_takeOut_37 rfl (lv_at hl 0 rfl) ?_
        refine va_get (D := D) (ci := 0) (v := .ref va) (C := RX0) (T := TX0) (N := 3) hx hb hts lk1 hown hK hP 0 rfl rfl 1 (by decide) lk7 (fun _ h9 => h9) rfl dX0_takeOut_38 ?_
        refine lv_iload_n hx hb dX0_takeOut_41 rfl (lv_at hl 2 rfl) ?_
        refine lv_aload_n hx hb dX0_takeOut_42 rfl (lv_at hl 0 rfl) ?_
        refine va_get (D := D) (ci := 0) (v := .ref va) (C := RX0) (T := TX0) (N := 3) hx hb hts lk1 hown hK hP 0 rfl rfl 1 (by decide) lk7 (fun _ h9 => h9) rfl dX0_takeOut_43 ?_
        refine lv_iload_n hx hb dX0_takeOut_46 rfl (lv_at hl 1 rfl) ?_
        refine lv_aload_n hx hb dX0_takeOut_47 rfl (lv_at hl 0 rfl) ?_
        refine va_get (D := D) (ci := 0) (v := .int (nI n)) (C := RX0) (T := TX0) (N := 3) hx hb hts lk1 hown hK hP 0 rfl rfl 2 (by decide) lk0 (fun _ h9 => h9) rfl dX0_takeOut_48 ?_
        refine lv_iload_n hx hb dX0_takeOut_51 rfl (lv_at hl 2 rfl) ?_
        refine z_isub hx hb dX0_takeOut_52 (by omega) ?_
        refine z_copyl hx hb (by rw [hml]; exact hl.1.symm) hown lk3 lk4 lk5 lk6 hK hP hD hS 2 rfl (sp := j) (dp := i) (n := (n - j)) (by omega) (by omega) (by omega) (Nat.le_of_ble_eq_true rfl) (Nat.le_of_ble_eq_true rfl) dX0_takeOut_53 (fun H locs hP hD hS => ?_)
        have hP : va_P D vwCl [(h, .inr (0, [.ref ka, .ref va, .int (nI n)])), (ka, .inl (cJ, cap, .inr (.inl (va_cpy K K j i (n - j))))), (va, .inl (cJ, cap, .inr (.inl (va_cpy V V j i (n - j)))))] H := hP
        have hD : va_D A [(h, .inr (0, [.ref ka, .ref va, .int (nI n)])), (ka, .inl (cJ, cap, .inr (.inl (va_cpy K K j i (n - j))))), (va, .inl (cJ, cap, .inr (.inl (va_cpy V V j i (n - j)))))] := hD
        refine lv_aload_n hx hb dX0_takeOut_56 rfl (lv_at hl 0 rfl) ?_
        refine lv_dup hx hb dX0_takeOut_57 rfl ?_
        refine va_get (D := D) (ci := 0) (v := .int (nI n)) (C := RX0) (T := TX0) (N := 3) hx hb hts lk1 hown hK hP 0 rfl rfl 2 (by decide) lk0 (fun _ h9 => h9) rfl dX0_takeOut_58 ?_
        refine lv_iload_n hx hb dX0_takeOut_61 rfl (lv_at hl 2 rfl) ?_
        refine lv_iload_n hx hb dX0_takeOut_62 rfl (lv_at hl 1 rfl) ?_
        refine z_isub hx hb dX0_takeOut_63 (by omega) ?_
        refine z_isub hx hb dX0_takeOut_64 (by omega) ?_
        refine va_put (D := D) (ci := 0) (v := .int (nI (n - (j - i)))) (ty := .int) (C := RX0) (T := TX0) (N := 3) hx hb hts lk1 tyX0 tyX0_ok nmX0 hown hK hP hD hS 0 rfl rfl 2 (by decide) lk0 (fun _ h9 => h9) rfl (by decide +kernel) rfl rfl (Nat.le_of_ble_eq_true rfl) dX0_takeOut_65 (fun H locs hP hD hS => ?_)
        have hP : va_P D vwCl [(h, .inr (0, [.ref ka, .ref va, .int (nI (n - (j - i)))])), (ka, .inl (cJ, cap, .inr (.inl (va_cpy K K j i (n - j))))), (va, .inl (cJ, cap, .inr (.inl (va_cpy V V j i (n - j)))))] H := hP
        have hD : va_D A [(h, .inr (0, [.ref ka, .ref va, .int (nI (n - (j - i)))])), (ka, .inl (cJ, cap, .inr (.inl (va_cpy K K j i (n - j))))), (va, .inl (cJ, cap, .inr (.inl (va_cpy V V j i (n - j)))))] := hD
        exact W.vret hx hb hr (fun t ht hW => ⟨⟨(n - (j - i), va_cpy K K j i (n - j), va_cpy V V j i (n - j)), rfl, Or.inl ⟨i, j, rfl, rfl, hij, hjn, rfl⟩, by rw [ht]; exact hP, va_K.moved hW.alike hK, hD⟩, hS.F ht⟩) hS.2.2 dX0_takeOut_68
      · exact W.vret hx hb hr (fun t ht hW => ⟨⟨(n, K, V), rfl, Or.inr ⟨fun q => c_14 q.2.2, rfl⟩, by rw [ht]; exact hP, va_K.moved hW.alike hK, hD⟩, hS.F ht⟩) hS.2.2 dX0_takeOut_17

theorem m1_out (n : Nat) : ¬ (¬ (-1 : Int32) < 0 ∧ ¬ nI n ≤ (-1 : Int32)) := fun q => q.1 (by decide)
theorem j_in {j n : Nat} (h : j < n) (hn : n < 2 ^ 31) : ¬ nI j < 0 ∧ ¬ nI n ≤ nI j := ⟨nI_pos (by omega), nI_ge h hn⟩

theorem tk_at {n cap : Nat} {K V : Nat → Int64} {x : Int32} (hn : n ≤ cap) (hc : cap ≤ 1023) (hx0 : x = (-1) ∨ ∃ j, j < 100000 ∧ x = nI j) {u : Nat × (Nat → Int64) × (Nat → Int64)} (h : (∃ i j, x = nI i ∧ x + nI 1 = nI j ∧ i < j ∧ j ≤ n ∧ u = (n - (j - i), va_cpy K K j i (n - j), va_cpy V V j i (n - j))) ∨ (¬ (¬ x < 0 ∧ ¬ x + nI 1 ≤ x ∧ x + nI 1 ≤ nI n) ∧ u = (n, K, V))) : (∃ j, x = nI j ∧ j < n ∧ vAt n V x = V j ∧ u = (n - 1, va_cpy K K (j + 1) j (n - (j + 1)), va_cpy V V (j + 1) j (n - (j + 1)))) ∨ (¬ (¬ x < 0 ∧ ¬ nI n ≤ x) ∧ vAt n V x = NO ∧ u = (n, K, V)) := by
  rcases hx0 with rfl | ⟨j, hj, rfl⟩
  · rcases h with ⟨i, j, h1, h2, h3, h4, -⟩ | ⟨h1, h2⟩
    · exfalso
      have : (nI i) < 0 := by rw [← h1]; decide
      exact nI_pos (by omega) this
    · exact Or.inr ⟨m1_out n, vAt_out (m1_out n), h2⟩
  · rw [nI_add] at h
    rcases h with ⟨i, k, h1, h2, h3, h4, h5⟩ | ⟨h1, h2⟩
    · have e1 : j = i := (nI_eq (by omega) (by omega)).mp h1
      have e2 : j + 1 = k := (nI_eq (by omega) (by omega)).mp h2
      subst e1; subst e2
      refine Or.inl ⟨j, rfl, by omega, vAt_N (by omega) (by omega), ?_⟩
      rw [h5, show n - (j + 1 - j) = n - 1 by omega]
    · have hnj : n ≤ j := Nat.not_lt.mp fun q => h1 ⟨nI_pos (by omega), nI_ge (by omega) (by omega), nI_le (by omega) (by omega)⟩
      have ho : ¬ (¬ nI j < 0 ∧ ¬ nI n ≤ nI j) := fun q => q.2 (nI_le hnj (by omega))
      exact Or.inr ⟨ho, vAt_out ho, h2⟩

set_option maxHeartbeats 4000000 in
set_option maxRecDepth 100000 in
theorem c_X0_takeAt (l : Launch) (D : va_G) (cI cJ : ClassId) (h ka va cap n : Nat) (K V : Nat → Int64) (x : Int32) (hn : n ≤ cap) (hc : cap ≤ 1023) (hx0 : x = (-1) ∨ ∃ j, j < 100000 ∧ x = nI j) (sz : Nat) : Met l yX0_takeAt wsX0_takeAt { frames := 2, cells := 0, slots := 0, locals := 48 } (va_Pc [.ref h, .int x] (wP D cI cJ [(h, .inr (0, [.ref ka, .ref va, .int (nI n)])), (ka, .inl (cJ, cap, .inr (.inl K))), (va, .inl (cJ, cap, .inr (.inl V)))] sz)) (va_Ql (fun r (u : SS) => TkR n K V x r u) (wB D cI cJ (va_A [(h, .inr (0, [.ref ka, .ref va, .int (nI n)])), (ka, .inl (cJ, cap, .inr (.inl K))), (va, .inl (cJ, cap, .inr (.inl V)))] sz) (fun (n', K', V') => [(h, .inr (0, [.ref ka, .ref va, .int (nI n')])), (ka, .inl (cJ, cap, .inr (.inl K'))), (va, .inl (cJ, cap, .inr (.inl V')))])) (va_A [(h, .inr (0, [.ref ka, .ref va, .int (nI n)])), (ka, .inl (cJ, cap, .inr (.inl K))), (va, .inl (cJ, cap, .inr (.inl V)))] sz)) 0 0 (va_A [(h, .inr (0, [.ref ka, .ref va, .int (nI n)])), (ka, .inl (cJ, cap, .inr (.inl K))), (va, .inl (cJ, cap, .inr (.inl V)))] sz) := by
  refine Met.ofW (cc := cX0_takeAt) (maxL := 4) (ret := (some .long)) (by decide) rfl ?_
  intro p e s m args below meth c s₁ B hml hv
  obtain ⟨rfl, hsz, hP, hK, hD0⟩ := hv
  have hx := B.exec
  have hb := B.bytes
  have hr := B.returns
  have hts := atoms_spec (ws := wsX0_takeAt) B.pre
  have hown : s.vm.findClass RX0 = some m.cls := findClass_of_methodNamed B.named
  have hlocks := B.notSynchronized
  subst hsz
  have hD := hD0.self (sz := s.heap.size)
  generalize hAe : va_A [(h, .inr (0, [.ref ka, .ref va, .int (nI n)])), (ka, .inl (cJ, cap, .inr (.inl K))), (va, .inl (cJ, cap, .inr (.inl V)))] s.heap.size = A at hD ⊢
  have hA : ∀ q : Nat, s.heap.size ≤ q → A q := fun q h => by rw [← hAe]; exact Or.inr h
  have hS : va_S A s.heap s.heap [] := va_S.rf
  have hP : va_P D vwCl [(h, .inr (0, [.ref ka, .ref va, .int (nI n)])), (ka, .inl (cJ, cap, .inr (.inl K))), (va, .inl (cJ, cap, .inr (.inl V)))] s.heap := hP
  have hl := lv_entry ([.ref h, .int x]) (n := 4) (Nat.le_of_ble_eq_true rfl)
  rw [lg_entry_eq]
  generalize (lg_sl ([.ref h, .int x]) ++ List.replicate (4 - (lg_sl ([.ref h, .int x])).length) Slot.unset).toArray = ls at hl ⊢
  have hl : lv_has ls 4 [(0, .ref h), (1, .int x)] := hl
  refine lv_aload_n hx hb dX0_takeAt_0 rfl (lv_at hl 0 rfl) ?_
  refine lv_iload_n hx hb dX0_takeAt_1 rfl (lv_at hl 1 rfl) ?_
  refine vp_callSl (va_Run.run (va_runV (As := [.int x]) (rest := []) ⟨hx, hb, hml, hown, hts⟩ (c_X0_valueAt l D cI cJ h ka va cap n K V x (by omega) (by omega)) (cwV 1 hts gX0_takeAt_X0_valueAt rfl rfl rfl (by decide +kernel) ⟨Nat.le_of_ble_eq_true rfl, Nat.le_of_ble_eq_true rfl⟩) (z_preV hK hP [0, 1, 2] rfl 0 0 rfl rfl) rfl rfl hl.1 rfl (lv_room (Nat.le_of_ble_eq_true rfl)) dX0_takeAt_2 ⟨Nat.zero_le _, Nat.zero_le _⟩)) (fun r_1 hr_1 => ?_)
  subst hr_1
  refine lv_lstore_n (lv' := [(2, .long (vAt n V x)), (0, .ref h), (1, .int x)]) hx hb dX0_takeAt_5 rfl hl (by decide) rfl (fun ls hl => ?_)
  refine lv_aload_n hx hb dX0_takeAt_6 rfl (lv_at hl 1 rfl) ?_
  refine lv_iload_n hx hb dX0_takeAt_7 rfl (lv_at hl 2 rfl) ?_
  refine lv_iload_n hx hb dX0_takeAt_8 rfl (lv_at hl 2 rfl) ?_
  refine lv_iconst (v := nI 1) hx hb dX0_takeAt_9 (by decide) ?_
  refine lv_iadd hx hb dX0_takeAt_10 ?_
  have hFc := va_free (wc := [(h, .inr (0, [.ref ka, .ref va, .int (nI n)])), (ka, .inl (cJ, cap, .inr (.inl K))), (va, .inl (cJ, cap, .inr (.inl V)))]) hD hS hA [0, 1, 2] rfl
  refine va_callv (va_runV (As := [.int x, .int (x + (nI 1))]) (rest := []) ⟨hx, hb, hml, hown, hts⟩ (c_X0_takeOut l D cI cJ h ka va cap n K V x (x + (nI 1)) (by omega) (by omega) s.heap.size) (cwV 2 hts gX0_takeAt_X0_takeOut rfl rfl rfl (by decide +kernel) ⟨Nat.le_of_ble_eq_true rfl, Nat.le_of_ble_eq_true rfl⟩) (z_preVw hK hP hD [0, 1, 2] (by decide) rfl rfl 0 0 rfl rfl) rfl rfl hl.1 rfl (lv_room (Nat.le_of_ble_eq_true rfl)) dX0_takeAt_11 ⟨Nat.zero_le _, Nat.zero_le _⟩) hS (fun q _ h => hFc q h) hFc (fun u_2 t H1 locs ht hvm hr_3 hB hzz1 hkk1 hS => ?_)
  obtain ⟨n4, K4, V4⟩ := u_2
  obtain ⟨hP1, hK1, hD1⟩ := hB
  rw [ht] at hP1
  try dsimp only at hr_3
  obtain ⟨hP, hD⟩ := va_join (wr := []) (w1 := [(h, .inr (0, [.ref ka, .ref va, .int (nI n4)])), (ka, .inl (cJ, cap, .inr (.inl K4))), (va, .inl (cJ, cap, .inr (.inl V4)))]) hP hD [0, 1, 2] [] rfl rfl (by decide) (by decide) hkk1 hFc hP1 hD1
  generalize H1 = H at hP hS ⊢
  have hP : va_P D vwCl [(h, .inr (0, [.ref ka, .ref va, .int (nI n4)])), (ka, .inl (cJ, cap, .inr (.inl K4))), (va, .inl (cJ, cap, .inr (.inl V4)))] H := hP.sub [0, 1, 2] rfl
  have hD : va_D A [(h, .inr (0, [.ref ka, .ref va, .int (nI n4)])), (ka, .inl (cJ, cap, .inr (.inl K4))), (va, .inl (cJ, cap, .inr (.inl V4)))] := hD.sub [0, 1, 2] (by decide) rfl
  refine lv_lload_n hx hb dX0_takeAt_14 rfl (lv_at hl 0 rfl) ?_
  exact W.lret (v := vAt n V x) hx hb hr (fun t ht hW => ⟨⟨vAt n V x, (n4, K4, V4), rfl, tk_at hn hc hx0 hr_3, by rw [ht]; exact hP, va_K.moved hW.alike hK, hD⟩, hS.F ht⟩) hS.2.2 dX0_takeAt_15

set_option maxHeartbeats 4000000 in
set_option maxRecDepth 100000 in
theorem c_X0_move (l : Launch) (D : va_G) (cI cJ : ClassId) (h ka va cap n : Nat) (K V : Nat → Int64) (i j : Nat) (hn : n ≤ cap) (hc : cap ≤ 1023) (hi : i < n) (hji : j ≤ i) (sz : Nat) : Met l yX0_move wsX0_move { frames := 1, cells := 0, slots := 0, locals := 21 } (va_Pc [.ref h, .int (nI i), .int (nI j)] (wP D cI cJ [(h, .inr (0, [.ref ka, .ref va, .int (nI n)])), (ka, .inl (cJ, cap, .inr (.inl K))), (va, .inl (cJ, cap, .inr (.inl V)))] sz)) (va_Qv (fun (u : SS) => u = (n, vp_updL K j (K i), vp_updL V j (V i))) (wB D cI cJ (va_A [(h, .inr (0, [.ref ka, .ref va, .int (nI n)])), (ka, .inl (cJ, cap, .inr (.inl K))), (va, .inl (cJ, cap, .inr (.inl V)))] sz) (fun (n', K', V') => [(h, .inr (0, [.ref ka, .ref va, .int (nI n')])), (ka, .inl (cJ, cap, .inr (.inl K'))), (va, .inl (cJ, cap, .inr (.inl V')))])) (va_A [(h, .inr (0, [.ref ka, .ref va, .int (nI n)])), (ka, .inl (cJ, cap, .inr (.inl K))), (va, .inl (cJ, cap, .inr (.inl V)))] sz)) 0 0 (va_A [(h, .inr (0, [.ref ka, .ref va, .int (nI n)])), (ka, .inl (cJ, cap, .inr (.inl K))), (va, .inl (cJ, cap, .inr (.inl V)))] sz) := by
  refine Met.ofW (cc := cX0_move) (maxL := 3) (ret := none) (by decide) rfl ?_
  intro p e s m args below meth c s₁ B hml hv
  obtain ⟨rfl, hsz, hP, hK, hD0⟩ := hv
  have hx := B.exec
  have hb := B.bytes
  have hr := B.returns
  have hts := atoms_spec (ws := wsX0_move) B.pre
  have hown : s.vm.findClass RX0 = some m.cls := findClass_of_methodNamed B.named
  have hlocks := B.notSynchronized
  have lk0 := hts (.fieldLink RX0 24 "KeyHall$Sorted" "keys" "[J") (by decide +kernel)
  have lk1 : ∀ w ∈ wsX00, w ∈ wsX0_move := by decide +kernel
  have lk2 := hts (.fieldLink RX0 28 "KeyHall$Sorted" "values" "[J") (by decide +kernel)
  subst hsz
  have hD := hD0.self (sz := s.heap.size)
  generalize hAe : va_A [(h, .inr (0, [.ref ka, .ref va, .int (nI n)])), (ka, .inl (cJ, cap, .inr (.inl K))), (va, .inl (cJ, cap, .inr (.inl V)))] s.heap.size = A at hD ⊢
  have hA : ∀ q : Nat, s.heap.size ≤ q → A q := fun q h => by rw [← hAe]; exact Or.inr h
  have hS : va_S A s.heap s.heap [] := va_S.rf
  have hP : va_P D vwCl [(h, .inr (0, [.ref ka, .ref va, .int (nI n)])), (ka, .inl (cJ, cap, .inr (.inl K))), (va, .inl (cJ, cap, .inr (.inl V)))] s.heap := hP
  have hl := lv_entry ([.ref h, .int (nI i), .int (nI j)]) (n := 3) (Nat.le_of_ble_eq_true rfl)
  rw [lg_entry_eq]
  generalize (lg_sl ([.ref h, .int (nI i), .int (nI j)]) ++ List.replicate (3 - (lg_sl ([.ref h, .int (nI i), .int (nI j)])).length) Slot.unset).toArray = ls at hl ⊢
  have hl : lv_has ls 3 [(0, .ref h), (1, .int (nI i)), (2, .int (nI j))] := hl
  refine lv_aload_n hx hb dX0_move_0 rfl (lv_at hl 0 rfl) ?_
  refine lv_iload_n hx hb dX0_move_1 rfl (lv_at hl 1 rfl) ?_
  refine vp_callSi (va_Run.run (va_runV (As := [.int (nI i)]) (rest := []) ⟨hx, hb, hml, hown, hts⟩ (c_X0_isInside l D cI cJ h ka va cap n K V (nI i) ) (cwV 1 hts gX0_move_X0_isInside rfl rfl rfl (by decide +kernel) ⟨Nat.le_of_ble_eq_true rfl, Nat.le_of_ble_eq_true rfl⟩) (z_preV hK hP [0, 1, 2] rfl 0 0 rfl rfl) rfl rfl hl.1 rfl (lv_room (Nat.le_of_ble_eq_true rfl)) dX0_move_2 ⟨Nat.zero_le _, Nat.zero_le _⟩)) (fun r_1 hr_1 => ?_)
  rcases hr_1 with ⟨hi1, hi2, rfl⟩ | ⟨hi1, rfl⟩
  · have hj : i < n := Nat.not_le.mp fun q => hi2 (nI_le q (by omega))
    refine lv_if_eq (tgt := 40) hx hb dX0_move_5 (by decide) (fun q => absurd q (by decide)) (fun _ => ?_)
    refine lv_aload_n hx hb dX0_move_8 rfl (lv_at hl 0 rfl) ?_
    refine lv_iload_n hx hb dX0_move_9 rfl (lv_at hl 2 rfl) ?_
    refine vp_callSi (va_Run.run (va_runV (As := [.int (nI j)]) (rest := []) ⟨hx, hb, hml, hown, hts⟩ (c_X0_isInside l D cI cJ h ka va cap n K V (nI j) ) (cwV 1 hts gX0_move_X0_isInside rfl rfl rfl (by decide +kernel) ⟨Nat.le_of_ble_eq_true rfl, Nat.le_of_ble_eq_true rfl⟩) (z_preV hK hP [0, 1, 2] rfl 0 0 rfl rfl) rfl rfl hl.1 rfl (lv_room (Nat.le_of_ble_eq_true rfl)) dX0_move_10 ⟨Nat.zero_le _, Nat.zero_le _⟩)) (fun r_3 hr_3 => ?_)
    rcases hr_3 with ⟨hi1, hi2, rfl⟩ | ⟨hi1, rfl⟩
    · have hj : j < n := Nat.not_le.mp fun q => hi2 (nI_le q (by omega))
      refine lv_if_eq (tgt := 40) hx hb dX0_move_13 (by decide) (fun q => absurd q (by decide)) (fun _ => ?_)
      refine lv_aload_n hx hb dX0_move_16 rfl (lv_at hl 0 rfl) ?_
      refine va_get (D := D) (ci := 0) (v := .ref ka) (C := RX0) (T := TX0) (N := 3) hx hb hts lk1 hown hK hP 0 rfl rfl 0 (by decide) lk0 (fun _ h9 => h9) rfl dX0_move_17 ?_
      refine lv_iload_n hx hb dX0_move_20 rfl (lv_at hl 2 rfl) ?_
      refine lv_aload_n hx hb dX0_move_21 rfl (lv_at hl 0 rfl) ?_
      refine va_get (D := D) (ci := 0) (v := .ref ka) (C := RX0) (T := TX0) (N := 3) hx hb hts lk1 hown hK hP 0 rfl rfl 0 (by decide) lk0 (fun _ h9 => h9) rfl dX0_move_22 ?_
      refine lv_iload_n hx hb dX0_move_25 rfl (lv_at hl 1 rfl) ?_
      refine z_lald hx hb hK hP 1 rfl (j := i) (by omega) (by omega) dX0_move_26 ?_
      refine z_last hx hb hK hP hD hS 1 rfl (j := j) (by omega) (by omega) dX0_move_27 (fun H locs hP hD hS => ?_)
      have hP : va_P D vwCl [(h, .inr (0, [.ref ka, .ref va, .int (nI n)])), (ka, .inl (cJ, cap, .inr (.inl (vp_updL K j (K i))))), (va, .inl (cJ, cap, .inr (.inl V)))] H := hP
      have hD : va_D A [(h, .inr (0, [.ref ka, .ref va, .int (nI n)])), (ka, .inl (cJ, cap, .inr (.inl (vp_updL K j (K i))))), (va, .inl (cJ, cap, .inr (.inl V)))] := hD
      refine lv_aload_n hx hb dX0_move_28 rfl (lv_at hl 0 rfl) ?_
      refine va_get (D := D) (ci := 0) (v := .ref va) (C := RX0) (T := TX0) (N := 3) hx hb hts lk1 hown hK hP 0 rfl rfl 1 (by decide) lk2 (fun _ h9 => h9) rfl dX0_move_29 ?_
      refine lv_iload_n hx hb dX0_move_32 rfl (lv_at hl 2 rfl) ?_
      refine lv_aload_n hx hb dX0_move_33 rfl (lv_at hl 0 rfl) ?_
      refine va_get (D := D) (ci := 0) (v := .ref va) (C := RX0) (T := TX0) (N := 3) hx hb hts lk1 hown hK hP 0 rfl rfl 1 (by decide) lk2 (fun _ h9 => h9) rfl dX0_move_34 ?_
      refine lv_iload_n hx hb dX0_move_37 rfl (lv_at hl 1 rfl) ?_
      refine z_lald hx hb hK hP 2 rfl (j := i) (by omega) (by omega) dX0_move_38 ?_
      refine z_last hx hb hK hP hD hS 2 rfl (j := j) (by omega) (by omega) dX0_move_39 (fun H locs hP hD hS => ?_)
      have hP : va_P D vwCl [(h, .inr (0, [.ref ka, .ref va, .int (nI n)])), (ka, .inl (cJ, cap, .inr (.inl (vp_updL K j (K i))))), (va, .inl (cJ, cap, .inr (.inl (vp_updL V j (V i)))))] H := hP
      have hD : va_D A [(h, .inr (0, [.ref ka, .ref va, .int (nI n)])), (ka, .inl (cJ, cap, .inr (.inl (vp_updL K j (K i))))), (va, .inl (cJ, cap, .inr (.inl (vp_updL V j (V i)))))] := hD
      exact W.vret hx hb hr (fun t ht hW => ⟨⟨(n, vp_updL K j (K i), vp_updL V j (V i)), rfl, rfl, by rw [ht]; exact hP, va_K.moved hW.alike hK, hD⟩, hS.F ht⟩) hS.2.2 dX0_move_40
    · have hj : n ≤ j := Nat.not_lt.mp fun q => hi1 ⟨nI_pos (by omega), nI_ge q (by omega)⟩
      refine lv_if_eq (tgt := 40) hx hb dX0_move_13 (by decide) (fun _ => ?_) (fun q => absurd (by decide) q)
      exact W.vret hx hb hr (fun t ht hW => ⟨⟨(n, K, V), rfl, by exfalso; omega, by rw [ht]; exact hP, va_K.moved hW.alike hK, hD⟩, hS.F ht⟩) hS.2.2 dX0_move_40
  · have hj : n ≤ i := Nat.not_lt.mp fun q => hi1 ⟨nI_pos (by omega), nI_ge q (by omega)⟩
    refine lv_if_eq (tgt := 40) hx hb dX0_move_5 (by decide) (fun _ => ?_) (fun q => absurd (by decide) q)
    exact W.vret hx hb hr (fun t ht hW => ⟨⟨(n, K, V), rfl, by exfalso; omega, by rw [ht]; exact hP, va_K.moved hW.alike hK, hD⟩, hS.F ht⟩) hS.2.2 dX0_move_40

set_option maxHeartbeats 4000000 in
set_option maxRecDepth 100000 in
theorem c_X0_shorten (l : Launch) (D : va_G) (cI cJ : ClassId) (h ka va cap n : Nat) (K V : Nat → Int64) (j : Nat) (hn : n ≤ cap) (hc : cap ≤ 1023) (hj : j ≤ n) (sz : Nat) : Met l yX0_shorten wsX0_shorten { frames := 0, cells := 0, slots := 0, locals := 0 } (va_Pc [.ref h, .int (nI j)] (wP D cI cJ [(h, .inr (0, [.ref ka, .ref va, .int (nI n)])), (ka, .inl (cJ, cap, .inr (.inl K))), (va, .inl (cJ, cap, .inr (.inl V)))] sz)) (va_Qv (fun (u : SS) => u = (j, K, V)) (wB D cI cJ (va_A [(h, .inr (0, [.ref ka, .ref va, .int (nI n)])), (ka, .inl (cJ, cap, .inr (.inl K))), (va, .inl (cJ, cap, .inr (.inl V)))] sz) (fun (n', K', V') => [(h, .inr (0, [.ref ka, .ref va, .int (nI n')])), (ka, .inl (cJ, cap, .inr (.inl K'))), (va, .inl (cJ, cap, .inr (.inl V')))])) (va_A [(h, .inr (0, [.ref ka, .ref va, .int (nI n)])), (ka, .inl (cJ, cap, .inr (.inl K))), (va, .inl (cJ, cap, .inr (.inl V)))] sz)) 0 0 (va_A [(h, .inr (0, [.ref ka, .ref va, .int (nI n)])), (ka, .inl (cJ, cap, .inr (.inl K))), (va, .inl (cJ, cap, .inr (.inl V)))] sz) := by
  refine Met.ofW (cc := cX0_shorten) (maxL := 2) (ret := none) (by decide) rfl ?_
  intro p e s m args below meth c s₁ B hml hv
  obtain ⟨rfl, hsz, hP, hK, hD0⟩ := hv
  have hx := B.exec
  have hb := B.bytes
  have hr := B.returns
  have hts := atoms_spec (ws := wsX0_shorten) B.pre
  have hown : s.vm.findClass RX0 = some m.cls := findClass_of_methodNamed B.named
  have hlocks := B.notSynchronized
  have lk0 := hts (.fieldLink RX0 11 "KeyHall$Sorted" "held" "I") (by decide +kernel)
  have lk1 : ∀ w ∈ wsX00, w ∈ wsX0_shorten := by decide +kernel
  subst hsz
  have hD := hD0.self (sz := s.heap.size)
  generalize hAe : va_A [(h, .inr (0, [.ref ka, .ref va, .int (nI n)])), (ka, .inl (cJ, cap, .inr (.inl K))), (va, .inl (cJ, cap, .inr (.inl V)))] s.heap.size = A at hD ⊢
  have hA : ∀ q : Nat, s.heap.size ≤ q → A q := fun q h => by rw [← hAe]; exact Or.inr h
  have hS : va_S A s.heap s.heap [] := va_S.rf
  have hP : va_P D vwCl [(h, .inr (0, [.ref ka, .ref va, .int (nI n)])), (ka, .inl (cJ, cap, .inr (.inl K))), (va, .inl (cJ, cap, .inr (.inl V)))] s.heap := hP
  have hl := lv_entry ([.ref h, .int (nI j)]) (n := 2) (Nat.le_of_ble_eq_true rfl)
  rw [lg_entry_eq]
  generalize (lg_sl ([.ref h, .int (nI j)]) ++ List.replicate (2 - (lg_sl ([.ref h, .int (nI j)])).length) Slot.unset).toArray = ls at hl ⊢
  have hl : lv_has ls 2 [(0, .ref h), (1, .int (nI j))] := hl
  refine lv_iload_n hx hb dX0_shorten_0 rfl (lv_at hl 1 rfl) ?_
  refine z_if_lt (tgt := 17) hx hb dX0_shorten_1 (by decide) (by omega) ?_
  refine lv_iload_n hx hb dX0_shorten_4 rfl (lv_at hl 1 rfl) ?_
  refine lv_aload_n hx hb dX0_shorten_5 rfl (lv_at hl 0 rfl) ?_
  refine va_get (D := D) (ci := 0) (v := .int (nI n)) (C := RX0) (T := TX0) (N := 3) hx hb hts lk1 hown hK hP 0 rfl rfl 2 (by decide) lk0 (fun _ h9 => h9) rfl dX0_shorten_6 ?_
  refine z_icmp_ge (tgt := 17) hx hb dX0_shorten_9 (by decide) (by omega) (by omega) (fun c_9 => ?_) (fun c_9 => ?_)
  · exact W.vret hx hb hr (fun t ht hW => ⟨⟨(n, K, V), rfl, by rw [Nat.le_antisymm hj c_9], by rw [ht]; exact hP, va_K.moved hW.alike hK, hD⟩, hS.F ht⟩) hS.2.2 dX0_shorten_17
  · refine lv_aload_n hx hb dX0_shorten_12 rfl (lv_at hl 0 rfl) ?_
    refine lv_iload_n hx hb dX0_shorten_13 rfl (lv_at hl 1 rfl) ?_
    refine va_put (D := D) (ci := 0) (v := .int (nI j)) (ty := .int) (C := RX0) (T := TX0) (N := 3) hx hb hts lk1 tyX0 tyX0_ok nmX0 hown hK hP hD hS 0 rfl rfl 2 (by decide) lk0 (fun _ h9 => h9) rfl (by decide +kernel) rfl rfl (Nat.le_of_ble_eq_true rfl) dX0_shorten_14 (fun H locs hP hD hS => ?_)
    have hP : va_P D vwCl [(h, .inr (0, [.ref ka, .ref va, .int (nI j)])), (ka, .inl (cJ, cap, .inr (.inl K))), (va, .inl (cJ, cap, .inr (.inl V)))] H := hP
    have hD : va_D A [(h, .inr (0, [.ref ka, .ref va, .int (nI j)])), (ka, .inl (cJ, cap, .inr (.inl K))), (va, .inl (cJ, cap, .inr (.inl V)))] := hD
    exact W.vret hx hb hr (fun t ht hW => ⟨⟨(j, K, V), rfl, rfl, by rw [ht]; exact hP, va_K.moved hW.alike hK, hD⟩, hS.F ht⟩) hS.2.2 dX0_shorten_17

set_option maxHeartbeats 4000000 in
set_option maxRecDepth 100000 in
theorem c_X0_store (l : Launch) (D : va_G) (cI cJ : ClassId) (h ka va cap n : Nat) (K V : Nat → Int64) (key v : Int64) (hn : n ≤ cap) (hc : cap ≤ 1023) (hs : Srt n K) (hn1 : n < cap) (sz : Nat) : Met l yX0_store wsX0_store { frames := 2, cells := 0, slots := 0, locals := 51 } (va_Pc [.ref h, .long key, .long v] (wP D cI cJ [(h, .inr (0, [.ref ka, .ref va, .int (nI n)])), (ka, .inl (cJ, cap, .inr (.inl K))), (va, .inl (cJ, cap, .inr (.inl V)))] sz)) (va_Ql (fun r (u : SS) => StR n K V key v r u) (wB D cI cJ (va_A [(h, .inr (0, [.ref ka, .ref va, .int (nI n)])), (ka, .inl (cJ, cap, .inr (.inl K))), (va, .inl (cJ, cap, .inr (.inl V)))] sz) (fun (n', K', V') => [(h, .inr (0, [.ref ka, .ref va, .int (nI n')])), (ka, .inl (cJ, cap, .inr (.inl K'))), (va, .inl (cJ, cap, .inr (.inl V')))])) (va_A [(h, .inr (0, [.ref ka, .ref va, .int (nI n)])), (ka, .inl (cJ, cap, .inr (.inl K))), (va, .inl (cJ, cap, .inr (.inl V)))] sz)) 0 0 (va_A [(h, .inr (0, [.ref ka, .ref va, .int (nI n)])), (ka, .inl (cJ, cap, .inr (.inl K))), (va, .inl (cJ, cap, .inr (.inl V)))] sz) := by
  refine Met.ofW (cc := cX0_store) (maxL := 8) (ret := (some .long)) (by decide) rfl ?_
  intro p e s m args below meth c s₁ B hml hv
  obtain ⟨rfl, hsz, hP, hK, hD0⟩ := hv
  have hx := B.exec
  have hb := B.bytes
  have hr := B.returns
  have hts := atoms_spec (ws := wsX0_store) B.pre
  have hown : s.vm.findClass RX0 = some m.cls := findClass_of_methodNamed B.named
  have hlocks := B.notSynchronized
  have lk0 := hts (.fieldLink RX0 28 "KeyHall$Sorted" "values" "[J") (by decide +kernel)
  have lk1 : ∀ w ∈ wsX00, w ∈ wsX0_store := by decide +kernel
  have lk2 := hts (.constantLong RX0 50 (4611686018427387904)) (by decide +kernel)
  subst hsz
  have hD := hD0.self (sz := s.heap.size)
  generalize hAe : va_A [(h, .inr (0, [.ref ka, .ref va, .int (nI n)])), (ka, .inl (cJ, cap, .inr (.inl K))), (va, .inl (cJ, cap, .inr (.inl V)))] s.heap.size = A at hD ⊢
  have hA : ∀ q : Nat, s.heap.size ≤ q → A q := fun q h => by rw [← hAe]; exact Or.inr h
  have hS : va_S A s.heap s.heap [] := va_S.rf
  have hP : va_P D vwCl [(h, .inr (0, [.ref ka, .ref va, .int (nI n)])), (ka, .inl (cJ, cap, .inr (.inl K))), (va, .inl (cJ, cap, .inr (.inl V)))] s.heap := hP
  have hl := lv_entry ([.ref h, .long key, .long v]) (n := 8) (Nat.le_of_ble_eq_true rfl)
  rw [lg_entry_eq]
  generalize (lg_sl ([.ref h, .long key, .long v]) ++ List.replicate (8 - (lg_sl ([.ref h, .long key, .long v])).length) Slot.unset).toArray = ls at hl ⊢
  have hl : lv_has ls 8 [(0, .ref h), (1, .long key), (3, .long v)] := hl
  refine lv_aload_n hx hb dX0_store_0 rfl (lv_at hl 0 rfl) ?_
  refine lv_lload_n hx hb dX0_store_1 rfl (lv_at hl 1 rfl) ?_
  refine vp_callSi (va_Run.run (va_runV (As := [.long key]) (rest := []) ⟨hx, hb, hml, hown, hts⟩ (c_X0_below l D cI cJ h ka va cap n K V key (by omega) (by omega) (by assumption)) (cwV 1 hts gX0_store_X0_below rfl rfl rfl (by decide +kernel) ⟨Nat.le_of_ble_eq_true rfl, Nat.le_of_ble_eq_true rfl⟩) (z_preV hK hP [0, 1, 2] rfl 0 0 rfl rfl) rfl rfl hl.1 rfl (lv_room (Nat.le_of_ble_eq_true rfl)) dX0_store_2 ⟨Nat.zero_le _, Nat.zero_le _⟩)) (fun r_1 hr_1 => ?_)
  obtain ⟨b_2, rfl, hb_2⟩ := hr_1
  have hb_2n := hb_2.1
  refine lv_istore (lv' := [(5, .int (nI b_2)), (0, .ref h), (1, .long key), (3, .long v)]) hx hb dX0_store_5 hl (by decide) rfl (fun ls hl => ?_)
  refine lv_aload_n hx hb dX0_store_7 rfl (lv_at hl 1 rfl) ?_
  refine lv_iload hx hb dX0_store_8 (lv_at hl 0 rfl) ?_
  refine lv_lload_n hx hb dX0_store_10 rfl (lv_at hl 2 rfl) ?_
  refine vp_callSi (va_Run.run (va_runV (As := [.int (nI b_2), .long key]) (rest := []) ⟨hx, hb, hml, hown, hts⟩ (c_X0_isKeyAt l D cI cJ h ka va cap n K V b_2 key (by omega) (by omega) (by omega)) (cwV 2 hts gX0_store_X0_isKeyAt rfl rfl rfl (by decide +kernel) ⟨Nat.le_of_ble_eq_true rfl, Nat.le_of_ble_eq_true rfl⟩) (z_preV hK hP [0, 1, 2] rfl 0 0 rfl rfl) rfl rfl hl.1 rfl (lv_room (Nat.le_of_ble_eq_true rfl)) dX0_store_11 ⟨Nat.zero_le _, Nat.zero_le _⟩)) (fun r_3 hr_3 => ?_)
  rcases hr_3 with ⟨hk1, hk2, rfl⟩ | ⟨hk1, rfl⟩
  · refine lv_if_ne (tgt := 29) hx hb dX0_store_14 (by decide) (fun _ => ?_) (fun q => absurd q (by decide))
    refine lv_aload_n hx hb dX0_store_29 rfl (lv_at hl 1 rfl) ?_
    refine va_get (D := D) (ci := 0) (v := .ref va) (C := RX0) (T := TX0) (N := 3) hx hb hts lk1 hown hK hP 0 rfl rfl 1 (by decide) lk0 (fun _ h9 => h9) rfl dX0_store_30 ?_
    refine lv_iload hx hb dX0_store_33 (lv_at hl 0 rfl) ?_
    refine z_lald hx hb hK hP 2 rfl (j := b_2) (by omega) (by omega) dX0_store_35 ?_
    refine lv_lstore (lv' := [(6, .long (V b_2)), (5, .int (nI b_2)), (0, .ref h), (1, .long key), (3, .long v)]) hx hb dX0_store_36 hl (by decide) rfl (fun ls hl => ?_)
    refine lv_aload_n hx hb dX0_store_38 rfl (lv_at hl 2 rfl) ?_
    refine va_get (D := D) (ci := 0) (v := .ref va) (C := RX0) (T := TX0) (N := 3) hx hb hts lk1 hown hK hP 0 rfl rfl 1 (by decide) lk0 (fun _ h9 => h9) rfl dX0_store_39 ?_
    refine lv_iload hx hb dX0_store_42 (lv_at hl 1 rfl) ?_
    refine lv_lload_n hx hb dX0_store_44 rfl (lv_at hl 4 rfl) ?_
    refine z_last hx hb hK hP hD hS 2 rfl (j := b_2) (by omega) (by omega) dX0_store_45 (fun H locs hP hD hS => ?_)
    have hP : va_P D vwCl [(h, .inr (0, [.ref ka, .ref va, .int (nI n)])), (ka, .inl (cJ, cap, .inr (.inl K))), (va, .inl (cJ, cap, .inr (.inl (vp_updL V b_2 v))))] H := hP
    have hD : va_D A [(h, .inr (0, [.ref ka, .ref va, .int (nI n)])), (ka, .inl (cJ, cap, .inr (.inl K))), (va, .inl (cJ, cap, .inr (.inl (vp_updL V b_2 v))))] := hD
    refine lv_lload hx hb dX0_store_46 (lv_at hl 0 rfl) ?_
    exact W.lret (v := V b_2) hx hb hr (fun t ht hW => ⟨⟨V b_2, (n, K, vp_updL V b_2 v), rfl, Or.inl ⟨b_2, hb_2, hk1, hk2, rfl, rfl⟩, by rw [ht]; exact hP, va_K.moved hW.alike hK, hD⟩, hS.F ht⟩) hS.2.2 dX0_store_48
  · refine lv_if_ne (tgt := 29) hx hb dX0_store_14 (by decide) (fun q => absurd (by decide) q) (fun _ => ?_)
    refine lv_aload_n hx hb dX0_store_17 rfl (lv_at hl 1 rfl) ?_
    refine lv_iload hx hb dX0_store_18 (lv_at hl 0 rfl) ?_
    refine lv_lload_n hx hb dX0_store_20 rfl (lv_at hl 2 rfl) ?_
    refine lv_lload_n hx hb dX0_store_21 rfl (lv_at hl 3 rfl) ?_
    have hFc := va_free (wc := [(h, .inr (0, [.ref ka, .ref va, .int (nI n)])), (ka, .inl (cJ, cap, .inr (.inl K))), (va, .inl (cJ, cap, .inr (.inl V)))]) hD hS hA [0, 1, 2] rfl
    refine va_callv (va_runV (As := [.int (nI b_2), .long key, .long v]) (rest := []) ⟨hx, hb, hml, hown, hts⟩ (c_X0_insert l D cI cJ h ka va cap n K V b_2 key v (by omega) (by omega) (by omega) (by omega) s.heap.size) (cwV 3 hts gX0_store_X0_insert rfl rfl rfl (by decide +kernel) ⟨Nat.le_of_ble_eq_true rfl, Nat.le_of_ble_eq_true rfl⟩) (z_preVw hK hP hD [0, 1, 2] (by decide) rfl rfl 0 0 rfl rfl) rfl rfl hl.1 rfl (lv_room (Nat.le_of_ble_eq_true rfl)) dX0_store_22 ⟨Nat.zero_le _, Nat.zero_le _⟩) hS (fun q _ h => hFc q h) hFc (fun u_4 t H1 locs ht hvm hr_5 hB hzz1 hkk1 hS => ?_)
    obtain ⟨n6, K6, V6⟩ := u_4
    obtain ⟨hP1, hK1, hD1⟩ := hB
    rw [ht] at hP1
    try dsimp only at hr_5
    obtain ⟨hP, hD⟩ := va_join (wr := []) (w1 := [(h, .inr (0, [.ref ka, .ref va, .int (nI n6)])), (ka, .inl (cJ, cap, .inr (.inl K6))), (va, .inl (cJ, cap, .inr (.inl V6)))]) hP hD [0, 1, 2] [] rfl rfl (by decide) (by decide) hkk1 hFc hP1 hD1
    generalize H1 = H at hP hS ⊢
    have hP : va_P D vwCl [(h, .inr (0, [.ref ka, .ref va, .int (nI n6)])), (ka, .inl (cJ, cap, .inr (.inl K6))), (va, .inl (cJ, cap, .inr (.inl V6)))] H := hP.sub [0, 1, 2] rfl
    have hD : va_D A [(h, .inr (0, [.ref ka, .ref va, .int (nI n6)])), (ka, .inl (cJ, cap, .inr (.inl K6))), (va, .inl (cJ, cap, .inr (.inl V6)))] := hD.sub [0, 1, 2] (by decide) rfl
    obtain ⟨rfl, rfl, rfl⟩ : n6 = n + 1 ∧ K6 = inS K n b_2 key ∧ V6 = inS V n b_2 v := by injection hr_5 with a1 a2; injection a2 with a2 a3; exact ⟨a1, a2, a3⟩
    refine lv_ldc2 hx hb hown lk2 dX0_store_25 ?_
    exact W.lret (v := 4611686018427387904) hx hb hr (fun t ht hW => ⟨⟨4611686018427387904, (n + 1, inS K n b_2 key, inS V n b_2 v), rfl, Or.inr ⟨b_2, hb_2, hk1, rfl, rfl⟩, by rw [ht]; exact hP, va_K.moved hW.alike hK, hD⟩, hS.F ht⟩) hS.2.2 dX0_store_28

set_option maxHeartbeats 4000000 in
set_option maxRecDepth 100000 in
theorem c_X0_raise (l : Launch) (D : va_G) (cI cJ : ClassId) (h ka va cap n : Nat) (K V : Nat → Int64) (key v : Int64) (hn : n ≤ cap) (hc : cap ≤ 1023) (hs : Srt n K) (hn1 : n < cap) (sz : Nat) : Met l yX0_raise wsX0_raise { frames := 2, cells := 0, slots := 0, locals := 51 } (va_Pc [.ref h, .long key, .long v] (wP D cI cJ [(h, .inr (0, [.ref ka, .ref va, .int (nI n)])), (ka, .inl (cJ, cap, .inr (.inl K))), (va, .inl (cJ, cap, .inr (.inl V)))] sz)) (va_Ql (fun r (u : SS) => RaR n K V key v r u) (wB D cI cJ (va_A [(h, .inr (0, [.ref ka, .ref va, .int (nI n)])), (ka, .inl (cJ, cap, .inr (.inl K))), (va, .inl (cJ, cap, .inr (.inl V)))] sz) (fun (n', K', V') => [(h, .inr (0, [.ref ka, .ref va, .int (nI n')])), (ka, .inl (cJ, cap, .inr (.inl K'))), (va, .inl (cJ, cap, .inr (.inl V')))])) (va_A [(h, .inr (0, [.ref ka, .ref va, .int (nI n)])), (ka, .inl (cJ, cap, .inr (.inl K))), (va, .inl (cJ, cap, .inr (.inl V)))] sz)) 0 0 (va_A [(h, .inr (0, [.ref ka, .ref va, .int (nI n)])), (ka, .inl (cJ, cap, .inr (.inl K))), (va, .inl (cJ, cap, .inr (.inl V)))] sz) := by
  refine Met.ofW (cc := cX0_raise) (maxL := 6) (ret := (some .long)) (by decide) rfl ?_
  intro p e s m args below meth c s₁ B hml hv
  obtain ⟨rfl, hsz, hP, hK, hD0⟩ := hv
  have hx := B.exec
  have hb := B.bytes
  have hr := B.returns
  have hts := atoms_spec (ws := wsX0_raise) B.pre
  have hown : s.vm.findClass RX0 = some m.cls := findClass_of_methodNamed B.named
  have hlocks := B.notSynchronized
  have lk0 := hts (.fieldLink RX0 28 "KeyHall$Sorted" "values" "[J") (by decide +kernel)
  have lk1 : ∀ w ∈ wsX00, w ∈ wsX0_raise := by decide +kernel
  subst hsz
  have hD := hD0.self (sz := s.heap.size)
  generalize hAe : va_A [(h, .inr (0, [.ref ka, .ref va, .int (nI n)])), (ka, .inl (cJ, cap, .inr (.inl K))), (va, .inl (cJ, cap, .inr (.inl V)))] s.heap.size = A at hD ⊢
  have hA : ∀ q : Nat, s.heap.size ≤ q → A q := fun q h => by rw [← hAe]; exact Or.inr h
  have hS : va_S A s.heap s.heap [] := va_S.rf
  have hP : va_P D vwCl [(h, .inr (0, [.ref ka, .ref va, .int (nI n)])), (ka, .inl (cJ, cap, .inr (.inl K))), (va, .inl (cJ, cap, .inr (.inl V)))] s.heap := hP
  have hl := lv_entry ([.ref h, .long key, .long v]) (n := 6) (Nat.le_of_ble_eq_true rfl)
  rw [lg_entry_eq]
  generalize (lg_sl ([.ref h, .long key, .long v]) ++ List.replicate (6 - (lg_sl ([.ref h, .long key, .long v])).length) Slot.unset).toArray = ls at hl ⊢
  have hl : lv_has ls 6 [(0, .ref h), (1, .long key), (3, .long v)] := hl
  refine lv_aload_n hx hb dX0_raise_0 rfl (lv_at hl 0 rfl) ?_
  refine lv_lload_n hx hb dX0_raise_1 rfl (lv_at hl 1 rfl) ?_
  refine vp_callSi (va_Run.run (va_runV (As := [.long key]) (rest := []) ⟨hx, hb, hml, hown, hts⟩ (c_X0_below l D cI cJ h ka va cap n K V key (by omega) (by omega) (by assumption)) (cwV 1 hts gX0_raise_X0_below rfl rfl rfl (by decide +kernel) ⟨Nat.le_of_ble_eq_true rfl, Nat.le_of_ble_eq_true rfl⟩) (z_preV hK hP [0, 1, 2] rfl 0 0 rfl rfl) rfl rfl hl.1 rfl (lv_room (Nat.le_of_ble_eq_true rfl)) dX0_raise_2 ⟨Nat.zero_le _, Nat.zero_le _⟩)) (fun r_1 hr_1 => ?_)
  obtain ⟨b_2, rfl, hb_2⟩ := hr_1
  have hb_2n := hb_2.1
  refine lv_istore (lv' := [(5, .int (nI b_2)), (0, .ref h), (1, .long key), (3, .long v)]) hx hb dX0_raise_5 hl (by decide) rfl (fun ls hl => ?_)
  refine lv_aload_n hx hb dX0_raise_7 rfl (lv_at hl 1 rfl) ?_
  refine lv_iload hx hb dX0_raise_8 (lv_at hl 0 rfl) ?_
  refine lv_lload_n hx hb dX0_raise_10 rfl (lv_at hl 2 rfl) ?_
  refine vp_callSi (va_Run.run (va_runV (As := [.int (nI b_2), .long key]) (rest := []) ⟨hx, hb, hml, hown, hts⟩ (c_X0_isKeyAt l D cI cJ h ka va cap n K V b_2 key (by omega) (by omega) (by omega)) (cwV 2 hts gX0_raise_X0_isKeyAt rfl rfl rfl (by decide +kernel) ⟨Nat.le_of_ble_eq_true rfl, Nat.le_of_ble_eq_true rfl⟩) (z_preV hK hP [0, 1, 2] rfl 0 0 rfl rfl) rfl rfl hl.1 rfl (lv_room (Nat.le_of_ble_eq_true rfl)) dX0_raise_11 ⟨Nat.zero_le _, Nat.zero_le _⟩)) (fun r_3 hr_3 => ?_)
  rcases hr_3 with ⟨hk1, hk2, rfl⟩ | ⟨hk1, rfl⟩
  · refine lv_if_ne (tgt := 27) hx hb dX0_raise_14 (by decide) (fun _ => ?_) (fun q => absurd q (by decide))
    refine lv_aload_n hx hb dX0_raise_27 rfl (lv_at hl 1 rfl) ?_
    refine va_get (D := D) (ci := 0) (v := .ref va) (C := RX0) (T := TX0) (N := 3) hx hb hts lk1 hown hK hP 0 rfl rfl 1 (by decide) lk0 (fun _ h9 => h9) rfl dX0_raise_28 ?_
    refine lv_iload hx hb dX0_raise_31 (lv_at hl 0 rfl) ?_
    refine lv_dup2_11 hx hb dX0_raise_33 rfl rfl ?_
    refine z_lald hx hb hK hP 2 rfl (j := b_2) (by omega) (by omega) dX0_raise_34 ?_
    refine lv_lload_n hx hb dX0_raise_35 rfl (lv_at hl 3 rfl) ?_
    refine lv_ladd hx hb dX0_raise_36 ?_
    refine z_last hx hb hK hP hD hS 2 rfl (j := b_2) (by omega) (by omega) dX0_raise_37 (fun H locs hP hD hS => ?_)
    have hP : va_P D vwCl [(h, .inr (0, [.ref ka, .ref va, .int (nI n)])), (ka, .inl (cJ, cap, .inr (.inl K))), (va, .inl (cJ, cap, .inr (.inl (vp_updL V b_2 ((V b_2) + v)))))] H := hP
    have hD : va_D A [(h, .inr (0, [.ref ka, .ref va, .int (nI n)])), (ka, .inl (cJ, cap, .inr (.inl K))), (va, .inl (cJ, cap, .inr (.inl (vp_updL V b_2 ((V b_2) + v)))))] := hD
    refine lv_aload_n hx hb dX0_raise_38 rfl (lv_at hl 1 rfl) ?_
    refine va_get (D := D) (ci := 0) (v := .ref va) (C := RX0) (T := TX0) (N := 3) hx hb hts lk1 hown hK hP 0 rfl rfl 1 (by decide) lk0 (fun _ h9 => h9) rfl dX0_raise_39 ?_
    refine lv_iload hx hb dX0_raise_42 (lv_at hl 0 rfl) ?_
    refine z_lald hx hb hK hP 2 rfl (j := b_2) (by omega) (by omega) dX0_raise_44 ?_
    exact W.lret (v := (vp_updL V b_2 ((V b_2) + v)) b_2) hx hb hr (fun t ht hW => ⟨⟨(vp_updL V b_2 ((V b_2) + v)) b_2, (n, K, vp_updL V b_2 (V b_2 + v)), rfl, Or.inl ⟨b_2, hb_2, hk1, hk2, pk_uLs, rfl⟩, by rw [ht]; exact hP, va_K.moved hW.alike hK, hD⟩, hS.F ht⟩) hS.2.2 dX0_raise_45
  · refine lv_if_ne (tgt := 27) hx hb dX0_raise_14 (by decide) (fun q => absurd (by decide) q) (fun _ => ?_)
    refine lv_aload_n hx hb dX0_raise_17 rfl (lv_at hl 1 rfl) ?_
    refine lv_iload hx hb dX0_raise_18 (lv_at hl 0 rfl) ?_
    refine lv_lload_n hx hb dX0_raise_20 rfl (lv_at hl 2 rfl) ?_
    refine lv_lload_n hx hb dX0_raise_21 rfl (lv_at hl 3 rfl) ?_
    have hFc := va_free (wc := [(h, .inr (0, [.ref ka, .ref va, .int (nI n)])), (ka, .inl (cJ, cap, .inr (.inl K))), (va, .inl (cJ, cap, .inr (.inl V)))]) hD hS hA [0, 1, 2] rfl
    refine va_callv (va_runV (As := [.int (nI b_2), .long key, .long v]) (rest := []) ⟨hx, hb, hml, hown, hts⟩ (c_X0_insert l D cI cJ h ka va cap n K V b_2 key v (by omega) (by omega) (by omega) (by omega) s.heap.size) (cwV 3 hts gX0_raise_X0_insert rfl rfl rfl (by decide +kernel) ⟨Nat.le_of_ble_eq_true rfl, Nat.le_of_ble_eq_true rfl⟩) (z_preVw hK hP hD [0, 1, 2] (by decide) rfl rfl 0 0 rfl rfl) rfl rfl hl.1 rfl (lv_room (Nat.le_of_ble_eq_true rfl)) dX0_raise_22 ⟨Nat.zero_le _, Nat.zero_le _⟩) hS (fun q _ h => hFc q h) hFc (fun u_4 t H1 locs ht hvm hr_5 hB hzz1 hkk1 hS => ?_)
    obtain ⟨n6, K6, V6⟩ := u_4
    obtain ⟨hP1, hK1, hD1⟩ := hB
    rw [ht] at hP1
    try dsimp only at hr_5
    obtain ⟨hP, hD⟩ := va_join (wr := []) (w1 := [(h, .inr (0, [.ref ka, .ref va, .int (nI n6)])), (ka, .inl (cJ, cap, .inr (.inl K6))), (va, .inl (cJ, cap, .inr (.inl V6)))]) hP hD [0, 1, 2] [] rfl rfl (by decide) (by decide) hkk1 hFc hP1 hD1
    generalize H1 = H at hP hS ⊢
    have hP : va_P D vwCl [(h, .inr (0, [.ref ka, .ref va, .int (nI n6)])), (ka, .inl (cJ, cap, .inr (.inl K6))), (va, .inl (cJ, cap, .inr (.inl V6)))] H := hP.sub [0, 1, 2] rfl
    have hD : va_D A [(h, .inr (0, [.ref ka, .ref va, .int (nI n6)])), (ka, .inl (cJ, cap, .inr (.inl K6))), (va, .inl (cJ, cap, .inr (.inl V6)))] := hD.sub [0, 1, 2] (by decide) rfl
    obtain ⟨rfl, rfl, rfl⟩ : n6 = n + 1 ∧ K6 = inS K n b_2 key ∧ V6 = inS V n b_2 v := by injection hr_5 with a1 a2; injection a2 with a2 a3; exact ⟨a1, a2, a3⟩
    refine lv_lload_n hx hb dX0_raise_25 rfl (lv_at hl 3 rfl) ?_
    exact W.lret (v := v) hx hb hr (fun t ht hW => ⟨⟨v, (n + 1, inS K n b_2 key, inS V n b_2 v), rfl, Or.inr ⟨b_2, hb_2, hk1, rfl, rfl⟩, by rw [ht]; exact hP, va_K.moved hW.alike hK, hD⟩, hS.F ht⟩) hS.2.2 dX0_raise_26

theorem mx_0 {a : Nat} (h : a < 2 ^ 31) : (if nI 0 < nI a then nI a else nI 0) = nI a := by
  by_cases q : 0 < a
  · rw [if_pos ((nI_ltI (by omega) (by omega)).mpr q)]
  · rw [show a = 0 by omega]; rfl

set_option maxHeartbeats 4000000 in
set_option maxRecDepth 100000 in
theorem c_X0_init (l : Launch) (D : va_G) (cI cJ : ClassId) (h rm : Nat) (hrm : rm ≤ 1023) (sz : Nat) : Met l yX0_init wsX0_init { frames := 1, cells := 2, slots := 2 * rm, locals := 22 } (va_Pc [.ref h, .int (nI rm)] (wP D cI cJ [(h, .inr (0, [.null, .null, .int (nI 0)]))] sz)) (va_Qv (fun (_ : Nat × Nat) => True) (wB D cI cJ (va_A [(h, .inr (0, [.null, .null, .int (nI 0)]))] sz) (fun (ka, va) => [(h, .inr (0, [.ref ka, .ref va, .int (nI 0)])), (ka, .inl (cJ, rm, .inr (.inl (fun _ => 0)))), (va, .inl (cJ, rm, .inr (.inl (fun _ => 0))))])) (va_A [(h, .inr (0, [.null, .null, .int (nI 0)]))] sz)) 2 (2 * rm) (va_A [(h, .inr (0, [.null, .null, .int (nI 0)]))] sz) := by
  refine Met.ofW (cc := cX0_init) (maxL := 3) (ret := none) (by decide) rfl ?_
  intro p e s m args below meth c s₁ B hml hv
  obtain ⟨rfl, hsz, hP, hK, hD0⟩ := hv
  have hx := B.exec
  have hb := B.bytes
  have hr := B.returns
  have hts := atoms_spec (ws := wsX0_init) B.pre
  have hown : s.vm.findClass RX0 = some m.cls := findClass_of_methodNamed B.named
  have hlocks := B.notSynchronized
  have hin : meth.name = "<init>" := (name_of_methodNamed B.named B.method).1
  have lk0 := hts (.methodLink RX0 5 objectInit) (by decide +kernel)
  have lk1 := hts (.instanceMethod objectInit) (by decide +kernel)
  have lk2 := hts (.code objectInit ⟨#[0xb1]⟩ 1 none) (by decide +kernel)
  have lk3 := hts (.fieldLink RX0 11 "KeyHall$Sorted" "held" "I") (by decide +kernel)
  have lk4 : ∀ w ∈ wsX00, w ∈ wsX0_init := by decide +kernel
  have lk5 := hts (.methodLink RX0 15 Lib.Math.min.name) (by decide +kernel)
  have lk6 := hts (.static Lib.Math.min.name) (by decide +kernel)
  have lk7 := hts (.initialized "java/lang/Math") (by decide +kernel)
  have lk8 := hts (.code Lib.Math.min.name Lib.Math.min.code 2 (some .int)) (by decide +kernel)
  have lk9 := hts (.methodLink RX0 21 Lib.Math.max.name) (by decide +kernel)
  have lk10 := hts (.static Lib.Math.max.name) (by decide +kernel)
  have lk11 := hts (.code Lib.Math.max.name Lib.Math.max.code 2 (some .int)) (by decide +kernel)
  have lk12 := hts (.arrayClass .long) (by decide +kernel)
  have lk13 := hts (.fieldLink RX0 24 "KeyHall$Sorted" "keys" "[J") (by decide +kernel)
  have lk14 := hts (.fieldLink RX0 28 "KeyHall$Sorted" "values" "[J") (by decide +kernel)
  subst hsz
  have hD := hD0.self (sz := s.heap.size)
  generalize hAe : va_A [(h, .inr (0, [.null, .null, .int (nI 0)]))] s.heap.size = A at hD ⊢
  have hA : ∀ q : Nat, s.heap.size ≤ q → A q := fun q h => by rw [← hAe]; exact Or.inr h
  have hS : va_S A s.heap s.heap [] := va_S.rf
  have hP : va_P D vwCl [(h, .inr (0, [.null, .null, .int (nI 0)]))] s.heap := hP
  have hl := lv_entry ([.ref h, .int (nI rm)]) (n := 3) (Nat.le_of_ble_eq_true rfl)
  rw [lg_entry_eq]
  generalize (lg_sl ([.ref h, .int (nI rm)]) ++ List.replicate (3 - (lg_sl ([.ref h, .int (nI rm)])).length) Slot.unset).toArray = ls at hl ⊢
  have hl : lv_has ls 3 [(0, .ref h), (1, .int (nI rm))] := hl
  refine lv_aload_n hx hb dX0_init_0 rfl (lv_at hl 0 rfl) ?_
  refine W.objInit hx hb hown lk0 lk1 lk2 rfl (by rw [hml]; exact hl.1) rfl dX0_init_1 (Nat.le_of_ble_eq_true rfl) (Nat.le_of_ble_eq_true rfl) ?_
  refine W.eq (g2 := F0 m 4 ls []) rfl ?_
  refine lv_aload_n hx hb dX0_init_4 rfl (lv_at hl 0 rfl) ?_
  refine lv_iconst (v := nI 0) hx hb dX0_init_5 (by decide) ?_
  refine va_put (D := D) (ci := 0) (v := .int (nI 0)) (ty := .int) (C := RX0) (T := TX0) (N := 3) hx hb hts lk4 tyX0 tyX0_ok nmX0 hown hK hP hD hS 0 rfl rfl 2 (by decide) lk3 (fun _ h9 => h9) rfl (by decide +kernel) rfl rfl (Nat.le_of_ble_eq_true rfl) dX0_init_6 (fun H locs hP hD hS => ?_)
  have hP : va_P D vwCl [(h, .inr (0, [.null, .null, .int (nI 0)]))] H := hP
  have hD : va_D A [(h, .inr (0, [.null, .null, .int (nI 0)]))] := hD
  refine lv_iconst (v := nI 0) hx hb dX0_init_9 (by decide) ?_
  refine lv_iload_n hx hb dX0_init_10 rfl (lv_at hl 1 rfl) ?_
  refine lv_sipush (v := nI 1023) hx hb dX0_init_11 (by decide) ?_
  refine va_mmin hx hb (by rw [hml]; exact hl.1.symm) hown lk5 lk6 lk7 lk8 (Nat.le_of_ble_eq_true rfl) (Nat.le_of_ble_eq_true rfl) (Nat.zero_le _) (Nat.zero_le _) dX0_init_14 ?_
  refine z_topi (y := nI rm) (by rw [if_neg (fun q => absurd ((nI_ltI (by omega) (by omega)).mp q) (by omega))]) ?_
  refine va_mmax hx hb (by rw [hml]; exact hl.1.symm) hown lk9 lk10 lk7 lk11 (Nat.le_of_ble_eq_true rfl) (Nat.le_of_ble_eq_true rfl) (Nat.zero_le _) (Nat.zero_le _) dX0_init_17 ?_
  refine z_topi (y := nI rm) (mx_0 (by omega)) ?_
  refine lv_istore_n (lv' := [(2, .int (nI rm)), (0, .ref h), (1, .int (nI rm))]) hx hb dX0_init_20 rfl hl (by decide) rfl (fun ls hl => ?_)
  refine lv_aload_n hx hb dX0_init_21 rfl (lv_at hl 1 rfl) ?_
  refine lv_iload_n hx hb dX0_init_22 rfl (lv_at hl 0 rfl) ?_
  refine z_newJ (N := rm) hx hb lk12 hK hP hD hS hA (by omega) (by show _ ≤ 2; omega) (by show _ ≤ 2 * rm; omega) dX0_init_23 (fun q_1 H hP hD hS => ?_)
  have hP : va_P D vwCl [(h, .inr (0, [.null, .null, .int (nI 0)])), (q_1, .inl (cJ, rm, .inr (.inl (fun _ => 0))))] H := hP
  have hD : va_D A [(h, .inr (0, [.null, .null, .int (nI 0)])), (q_1, .inl (cJ, rm, .inr (.inl (fun _ => 0))))] := hD
  refine va_putF (D := D) (ci := 0) (v := .ref q_1) (ty := .array .long) (C := RX0) (T := TX0) (N := 3) hx hb hts lk4 tyX0 tyX0_ok nmX0 hown hK hP hD hS 0 rfl rfl 0 (by decide) lk13 (fun _ h9 => h9) rfl hin rfl (by decide +kernel) rfl rfl (Nat.le_of_ble_eq_true rfl) dX0_init_25 (fun H locs hP hD hS => ?_)
  have hP : va_P D vwCl [(h, .inr (0, [.ref q_1, .null, .int (nI 0)])), (q_1, .inl (cJ, rm, .inr (.inl (fun _ => 0))))] H := hP
  have hD : va_D A [(h, .inr (0, [.ref q_1, .null, .int (nI 0)])), (q_1, .inl (cJ, rm, .inr (.inl (fun _ => 0))))] := hD
  refine lv_aload_n hx hb dX0_init_28 rfl (lv_at hl 1 rfl) ?_
  refine lv_iload_n hx hb dX0_init_29 rfl (lv_at hl 0 rfl) ?_
  refine z_newJ (N := rm) hx hb lk12 hK hP hD hS hA (by omega) (by show _ ≤ 2; omega) (by show _ ≤ 2 * rm; omega) dX0_init_30 (fun q_2 H hP hD hS => ?_)
  have hP : va_P D vwCl [(h, .inr (0, [.ref q_1, .null, .int (nI 0)])), (q_1, .inl (cJ, rm, .inr (.inl (fun _ => 0)))), (q_2, .inl (cJ, rm, .inr (.inl (fun _ => 0))))] H := hP
  have hD : va_D A [(h, .inr (0, [.ref q_1, .null, .int (nI 0)])), (q_1, .inl (cJ, rm, .inr (.inl (fun _ => 0)))), (q_2, .inl (cJ, rm, .inr (.inl (fun _ => 0))))] := hD
  refine va_putF (D := D) (ci := 0) (v := .ref q_2) (ty := .array .long) (C := RX0) (T := TX0) (N := 3) hx hb hts lk4 tyX0 tyX0_ok nmX0 hown hK hP hD hS 0 rfl rfl 1 (by decide) lk14 (fun _ h9 => h9) rfl hin rfl (by decide +kernel) rfl rfl (Nat.le_of_ble_eq_true rfl) dX0_init_32 (fun H locs hP hD hS => ?_)
  have hP : va_P D vwCl [(h, .inr (0, [.ref q_1, .ref q_2, .int (nI 0)])), (q_1, .inl (cJ, rm, .inr (.inl (fun _ => 0)))), (q_2, .inl (cJ, rm, .inr (.inl (fun _ => 0))))] H := hP
  have hD : va_D A [(h, .inr (0, [.ref q_1, .ref q_2, .int (nI 0)])), (q_1, .inl (cJ, rm, .inr (.inl (fun _ => 0)))), (q_2, .inl (cJ, rm, .inr (.inl (fun _ => 0))))] := hD
  refine W.widen (k := 2) (n := 2 * rm) (by omega) (by omega) ?_
  exact W.vret hx hb hr (fun t ht hW => ⟨⟨(q_1, q_2), rfl, trivial, by rw [ht]; exact hP, va_K.moved hW.alike hK, hD⟩, hS.F ht⟩) hS.2.2 dX0_init_35
end

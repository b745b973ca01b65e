section
-- ===== PART A: goes FIRST, ahead of the names: the tables' words, and 'selects' of the private methods out of them =====
/-- a private method of a class that the tables say can be made, by its rows of tables_1 -/
def lw_okq (q : MethodName × Nat) : Prop := (q.1.cls ≠ "java/lang/invoke/MethodHandle" ∧ q.1.cls ≠ "java/lang/invoke/VarHandle") ∧ Cond.instantiable q.1.cls q.2 ∈ tables_1 ∧ Cond.privateMethod q.1 ∈ tables_1 ∧ Cond.instanceMethod q.1 ∈ tables_1
theorem lw_p0 : lw_okq (⟨"PaperWalls", "find", "(I)I"⟩, 12) := ⟨⟨by decide +kernel, by decide +kernel⟩, List.mem_of_getElem? (i := 14) (by decide +kernel), List.mem_of_getElem? (i := 224) (by decide +kernel), List.mem_of_getElem? (i := 225) (by decide +kernel)⟩
theorem lw_p1 : lw_okq (⟨"PaperWalls", "areTwo", "(II)Z"⟩, 12) := ⟨⟨by decide +kernel, by decide +kernel⟩, List.mem_of_getElem? (i := 14) (by decide +kernel), List.mem_of_getElem? (i := 244) (by decide +kernel), List.mem_of_getElem? (i := 245) (by decide +kernel)⟩
theorem lw_p2 : lw_okq (⟨"PaperWalls", "isOne", "(I)Z"⟩, 12) := ⟨⟨by decide +kernel, by decide +kernel⟩, List.mem_of_getElem? (i := 14) (by decide +kernel), List.mem_of_getElem? (i := 248) (by decide +kernel), List.mem_of_getElem? (i := 249) (by decide +kernel)⟩
theorem lw_p3 : lw_okq (⟨"PaperWalls", "isSet", "(I)Z"⟩, 12) := ⟨⟨by decide +kernel, by decide +kernel⟩, List.mem_of_getElem? (i := 14) (by decide +kernel), List.mem_of_getElem? (i := 275) (by decide +kernel), List.mem_of_getElem? (i := 276) (by decide +kernel)⟩
theorem lw_p4 : lw_okq (⟨"PaperWalls$Street", "whoHearOf", "(IIII)I"⟩, 11) := ⟨⟨by decide +kernel, by decide +kernel⟩, List.mem_of_getElem? (i := 26) (by decide +kernel), List.mem_of_getElem? (i := 288) (by decide +kernel), List.mem_of_getElem? (i := 289) (by decide +kernel)⟩
theorem lw_p5 : lw_okq (⟨"PaperWalls$Street", "loudestIn", "(II[I)I"⟩, 11) := ⟨⟨by decide +kernel, by decide +kernel⟩, List.mem_of_getElem? (i := 26) (by decide +kernel), List.mem_of_getElem? (i := 294) (by decide +kernel), List.mem_of_getElem? (i := 295) (by decide +kernel)⟩
theorem lw_p6 : lw_okq (⟨"PaperWalls", "tellSet", "(I)I"⟩, 12) := ⟨⟨by decide +kernel, by decide +kernel⟩, List.mem_of_getElem? (i := 14) (by decide +kernel), List.mem_of_getElem? (i := 314) (by decide +kernel), List.mem_of_getElem? (i := 315) (by decide +kernel)⟩
theorem lw_p7 : lw_okq (⟨"PaperWalls$Street", "isHeardRightly", "(IIII)Z"⟩, 11) := ⟨⟨by decide +kernel, by decide +kernel⟩, List.mem_of_getElem? (i := 26) (by decide +kernel), List.mem_of_getElem? (i := 330) (by decide +kernel), List.mem_of_getElem? (i := 331) (by decide +kernel)⟩
theorem lw_p8 : lw_okq (⟨"PaperWalls$Plan", "fewestOf", "(I)I"⟩, 2) := ⟨⟨by decide +kernel, by decide +kernel⟩, List.mem_of_getElem? (i := 105) (by decide +kernel), List.mem_of_getElem? (i := 360) (by decide +kernel), List.mem_of_getElem? (i := 361) (by decide +kernel)⟩
theorem lw_p9 : lw_okq (⟨"PaperWalls", "isSafeByPasting", "(II)Z"⟩, 12) := ⟨⟨by decide +kernel, by decide +kernel⟩, List.mem_of_getElem? (i := 14) (by decide +kernel), List.mem_of_getElem? (i := 400) (by decide +kernel), List.mem_of_getElem? (i := 401) (by decide +kernel)⟩
theorem lw_p10 : lw_okq (⟨"PaperWalls$Street", "readPeople", "(LPaperWalls$Text;I)I"⟩, 11) := ⟨⟨by decide +kernel, by decide +kernel⟩, List.mem_of_getElem? (i := 26) (by decide +kernel), List.mem_of_getElem? (i := 591) (by decide +kernel), List.mem_of_getElem? (i := 592) (by decide +kernel)⟩
theorem lw_p11 : lw_okq (⟨"PaperWalls", "howManyRows", "()I"⟩, 12) := ⟨⟨by decide +kernel, by decide +kernel⟩, List.mem_of_getElem? (i := 14) (by decide +kernel), List.mem_of_getElem? (i := 617) (by decide +kernel), List.mem_of_getElem? (i := 618) (by decide +kernel)⟩
theorem lw_p12 : lw_okq (⟨"PaperWalls", "howManyTexts", "()I"⟩, 12) := ⟨⟨by decide +kernel, by decide +kernel⟩, List.mem_of_getElem? (i := 14) (by decide +kernel), List.mem_of_getElem? (i := 621) (by decide +kernel), List.mem_of_getElem? (i := 622) (by decide +kernel)⟩
theorem lw_p13 : lw_okq (⟨"PaperWalls", "howManyKept", "()I"⟩, 12) := ⟨⟨by decide +kernel, by decide +kernel⟩, List.mem_of_getElem? (i := 14) (by decide +kernel), List.mem_of_getElem? (i := 625) (by decide +kernel), List.mem_of_getElem? (i := 626) (by decide +kernel)⟩
def lw_privs_1 : List (MethodName × Nat) := [(⟨"PaperWalls", "find", "(I)I"⟩, 12), (⟨"PaperWalls", "areTwo", "(II)Z"⟩, 12), (⟨"PaperWalls", "isOne", "(I)Z"⟩, 12), (⟨"PaperWalls", "isSet", "(I)Z"⟩, 12), (⟨"PaperWalls$Street", "whoHearOf", "(IIII)I"⟩, 11), (⟨"PaperWalls$Street", "loudestIn", "(II[I)I"⟩, 11), (⟨"PaperWalls", "tellSet", "(I)I"⟩, 12), (⟨"PaperWalls$Street", "isHeardRightly", "(IIII)Z"⟩, 11), (⟨"PaperWalls$Plan", "fewestOf", "(I)I"⟩, 2), (⟨"PaperWalls", "isSafeByPasting", "(II)Z"⟩, 12), (⟨"PaperWalls$Street", "readPeople", "(LPaperWalls$Text;I)I"⟩, 11), (⟨"PaperWalls", "howManyRows", "()I"⟩, 12), (⟨"PaperWalls", "howManyTexts", "()I"⟩, 12), (⟨"PaperWalls", "howManyKept", "()I"⟩, 12)]
theorem lw_r1 : ∀ q ∈ lw_privs_1, lw_okq q := List.forall_mem_cons.mpr ⟨lw_p0, List.forall_mem_cons.mpr ⟨lw_p1, List.forall_mem_cons.mpr ⟨lw_p2, List.forall_mem_cons.mpr ⟨lw_p3, List.forall_mem_cons.mpr ⟨lw_p4, List.forall_mem_cons.mpr ⟨lw_p5, List.forall_mem_cons.mpr ⟨lw_p6, List.forall_mem_cons.mpr ⟨lw_p7, List.forall_mem_cons.mpr ⟨lw_p8, List.forall_mem_cons.mpr ⟨lw_p9, List.forall_mem_cons.mpr ⟨lw_p10, List.forall_mem_cons.mpr ⟨lw_p11, List.forall_mem_cons.mpr ⟨lw_p12, List.forall_mem_cons.mpr ⟨lw_p13, fun _ h => absurd h List.not_mem_nil⟩⟩⟩⟩⟩⟩⟩⟩⟩⟩⟩⟩⟩⟩
def lw_privs : List (MethodName × Nat) := lw_privs_1
def lw_tbl : List Cond := k2_sels lw_privs ++ tables_1
theorem lw_privs_ok : ∀ q ∈ lw_privs, lw_okq q := lw_r1
end
section
/-! ===== BEGIN words of one list among another's, by their places ===== -/
theorem goodIn_r {big : List Cond} (ws : List Cond) (ps : List Nat) (hp : ws = ps.filterMap (fun i => big[i]?)) (h : ws.all goodWord = true) : GoodIn big ws := by
  intro w hw
  have h1 := List.all_eq_true.mp h w hw
  rw [hp] at hw
  obtain ⟨i, -, hi⟩ := List.mem_filterMap.mp hw
  have hm : w ∈ big := by first | exact List.mem_of_getElem? hi | exact List.getElem?_mem hi
  exact ⟨hm, good_of_word h1⟩
theorem goodIn_app {big a b : List Cond} (ha : GoodIn big a) (hb : GoodIn big b) : GoodIn big (a ++ b) := fun w h => (List.mem_append.mp h).elim (ha w) (hb w)
theorem goodIn_ca {big a b : List Cond} {c : Cond} (ha : GoodIn big (c :: a)) (hb : GoodIn big b) : GoodIn big (c :: (a ++ b)) := fun w h => (List.mem_cons.mp h).elim (fun e => ha w (List.mem_cons.mpr (Or.inl e))) (fun h => (List.mem_append.mp h).elim (fun h => ha w (List.mem_cons.mpr (Or.inr h))) (hb w))
theorem goodIn_sub {big ws : List Cond} (hm : ∀ w ∈ ws, w ∈ big) (h : ws.all goodWord = true) : GoodIn big ws := fun w hw => ⟨hm w hw, good_of_word (List.all_eq_true.mp h w hw)⟩
/-! ===== END ===== -/

/-! ===== BEGIN printed: names, fields, word lists, decode rows ===== -/
def RX0 : String := "PaperWalls$Change"
def TX0 : u_T := fun k => match k with
  | 0 => ("PaperWalls$Change", "whose", "[I", true)
  | 1 => ("PaperWalls$Change", "best", "[I", true)
  | _ => ("PaperWalls$Change", "most", "I", false)
def tyX0 : Nat → FieldType := fun k => match k with
  | 0 => .array .int
  | 1 => .array .int
  | _ => .int
abbrev wsX00 : List Cond := u_ws RX0 TX0 3
theorem nmX0 : ∀ a, a < 3 → ∀ b, b < 3 → a ≠ b → (TX0 a).2.1 ≠ (TX0 b).2.1 := by decide +kernel
theorem tyX0_ok : ∀ k, k < 3 → parseFieldDescriptor (TX0 k).2.2.1 = some (tyX0 k) := by decide +kernel
abbrev cX0_init : ByteArray := prog_2_method_1_code
def yX0_init : MethodName := ⟨RX0, "<init>", "()V"⟩
def RX1 : String := "PaperWalls$Hours"
def TX1 : u_T := fun k => match k with
  | 0 => ("PaperWalls$Hours", "tellers", "[I", true)
  | 1 => ("PaperWalls$Hours", "things", "[I", true)
  | 2 => ("PaperWalls$Hours", "heardBy", "[I", true)
  | 3 => ("PaperWalls$Hours", "ahead", "[J", true)
  | 4 => ("PaperWalls$Hours", "known", "J", false)
  | _ => ("PaperWalls$Hours", "size", "I", false)
def tyX1 : Nat → FieldType := fun k => match k with
  | 0 => .array .int
  | 1 => .array .int
  | 2 => .array .int
  | 3 => .array .long
  | 4 => .long
  | _ => .int
abbrev wsX10 : List Cond := u_ws RX1 TX1 6
theorem nmX1 : ∀ a, a < 6 → ∀ b, b < 6 → a ≠ b → (TX1 a).2.1 ≠ (TX1 b).2.1 := by decide +kernel
theorem tyX1_ok : ∀ k, k < 6 → parseFieldDescriptor (TX1 k).2.2.1 = some (tyX1 k) := by decide +kernel
abbrev cX1_init : ByteArray := prog_3_method_1_code
def yX1_init : MethodName := ⟨RX1, "<init>", "()V"⟩
abbrev cX1_begin : ByteArray := prog_3_method_2_code
def yX1_begin : MethodName := ⟨RX1, "begin", "()V"⟩
abbrev cX1_become : ByteArray := prog_3_method_3_code
def yX1_become : MethodName := ⟨RX1, "become", "(LPaperWalls$Hours;)V"⟩
abbrev cX1_whoKnow : ByteArray := prog_3_method_4_code
def yX1_whoKnow : MethodName := ⟨RX1, "whoKnow", "(I)I"⟩
abbrev cX1_learn : ByteArray := prog_3_method_6_code
def yX1_learn : MethodName := ⟨RX1, "learn", "(II)V"⟩
abbrev cX1_add : ByteArray := prog_3_method_7_code
def yX1_add : MethodName := ⟨RX1, "add", "(III)V"⟩
abbrev cX1_backTo : ByteArray := prog_3_method_8_code
def yX1_backTo : MethodName := ⟨RX1, "backTo", "(I)V"⟩
abbrev cX1_showed : ByteArray := prog_3_method_9_code
def yX1_showed : MethodName := ⟨RX1, "showed", "(IIIZ)Z"⟩
def RX2 : String := "PaperWalls$Kinds"
def TX2 : u_T := fun k => match k with
  | _ => ("", "", "", false)
def tyX2 : Nat → FieldType := fun k => match k with
  | _ => .int
abbrev wsX20 : List Cond := u_ws RX2 TX2 0
theorem nmX2 : ∀ a, a < 0 → ∀ b, b < 0 → a ≠ b → (TX2 a).2.1 ≠ (TX2 b).2.1 := by decide +kernel
theorem tyX2_ok : ∀ k, k < 0 → parseFieldDescriptor (TX2 k).2.2.1 = some (tyX2 k) := by decide +kernel
abbrev cX2_isOf : ByteArray := prog_4_method_2_code
def yX2_isOf : MethodName := ⟨RX2, "isOf", "(II)Z"⟩
abbrev cX2_isEnough : ByteArray := prog_4_method_3_code
def yX2_isEnough : MethodName := ⟨RX2, "isEnough", "(III)Z"⟩
abbrev cX2_byLetter : ByteArray := prog_4_method_4_code
def yX2_byLetter : MethodName := ⟨RX2, "byLetter", "(I)I"⟩
def RX3 : String := "PaperWalls$Plan"
def TX3 : u_T := fun k => match k with
  | 0 => ("PaperWalls$Plan", "together", "[Z", true)
  | _ => ("PaperWalls$Plan", "fewest", "[I", true)
def tyX3 : Nat → FieldType := fun k => match k with
  | 0 => .array .boolean
  | _ => .array .int
abbrev wsX30 : List Cond := u_ws RX3 TX3 2
theorem nmX3 : ∀ a, a < 2 → ∀ b, b < 2 → a ≠ b → (TX3 a).2.1 ≠ (TX3 b).2.1 := by decide +kernel
theorem tyX3_ok : ∀ k, k < 2 → parseFieldDescriptor (TX3 k).2.2.1 = some (tyX3 k) := by decide +kernel
abbrev cX3_init : ByteArray := prog_5_method_1_code
def yX3_init : MethodName := ⟨RX3, "<init>", "()V"⟩
abbrev cX3_draw : ByteArray := prog_5_method_2_code
def yX3_draw : MethodName := ⟨RX3, "draw", "(LPaperWalls$Street;)V"⟩
abbrev cX3_fewestOf : ByteArray := prog_5_method_3_code
def yX3_fewestOf : MethodName := ⟨RX3, "fewestOf", "(I)I"⟩
abbrev cX3_hours : ByteArray := prog_5_method_4_code
def yX3_hours : MethodName := ⟨RX3, "hours", "(LPaperWalls$Street;)I"⟩
abbrev cX3_firstHour : ByteArray := prog_5_method_5_code
def yX3_firstHour : MethodName := ⟨RX3, "firstHour", "(LPaperWalls$Street;)I"⟩
abbrev cX3_largest : ByteArray := prog_5_method_6_code
def yX3_largest : MethodName := ⟨RX3, "largest", "(LPaperWalls$Street;)I"⟩
def RX4 : String := "PaperWalls$Row"
def TX4 : u_T := fun k => match k with
  | 0 => ("PaperWalls$Row", "ints", "[I", true)
  | _ => ("PaperWalls$Row", "size", "I", false)
def tyX4 : Nat → FieldType := fun k => match k with
  | 0 => .array .int
  | _ => .int
abbrev wsX40 : List Cond := u_ws RX4 TX4 2
theorem nmX4 : ∀ a, a < 2 → ∀ b, b < 2 → a ≠ b → (TX4 a).2.1 ≠ (TX4 b).2.1 := by decide +kernel
theorem tyX4_ok : ∀ k, k < 2 → parseFieldDescriptor (TX4 k).2.2.1 = some (tyX4 k) := by decide +kernel
abbrev cX4_init : ByteArray := prog_6_method_1_code
def yX4_init : MethodName := ⟨RX4, "<init>", "()V"⟩
abbrev cX4_isMissing : ByteArray := prog_6_method_2_code
def yX4_isMissing : MethodName := ⟨RX4, "isMissing", "()Z"⟩
abbrev cX4_has : ByteArray := prog_6_method_3_code
def yX4_has : MethodName := ⟨RX4, "has", "(I)Z"⟩
abbrev cX4_begin : ByteArray := prog_6_method_5_code
def yX4_begin : MethodName := ⟨RX4, "begin", "(I)V"⟩
abbrev cX4_fill : ByteArray := prog_6_method_6_code
def yX4_fill : MethodName := ⟨RX4, "fill", "([II)V"⟩
def RX5 : String := "PaperWalls$Shares"
def TX5 : u_T := fun k => match k with
  | 0 => ("PaperWalls$Shares", "of", "[I", true)
  | _ => ("PaperWalls$Shares", "size", "I", false)
def tyX5 : Nat → FieldType := fun k => match k with
  | 0 => .array .int
  | _ => .int
abbrev wsX50 : List Cond := u_ws RX5 TX5 2
theorem nmX5 : ∀ a, a < 2 → ∀ b, b < 2 → a ≠ b → (TX5 a).2.1 ≠ (TX5 b).2.1 := by decide +kernel
theorem tyX5_ok : ∀ k, k < 2 → parseFieldDescriptor (TX5 k).2.2.1 = some (tyX5 k) := by decide +kernel
abbrev cX5_init : ByteArray := prog_7_method_1_code
def yX5_init : MethodName := ⟨RX5, "<init>", "()V"⟩
abbrev cX5_begin : ByteArray := prog_7_method_2_code
def yX5_begin : MethodName := ⟨RX5, "begin", "(II)V"⟩
abbrev cX5_advance : ByteArray := prog_7_method_3_code
def yX5_advance : MethodName := ⟨RX5, "advance", "()Z"⟩
def RX6 : String := "PaperWalls$Street"
def TX6 : u_T := fun k => match k with
  | 0 => ("PaperWalls$Street", "layers", "[I", true)
  | 1 => ("PaperWalls$Street", "depth", "[I", true)
  | 2 => ("PaperWalls$Street", "kinds", "[I", true)
  | 3 => ("PaperWalls$Street", "rooms", "[I", true)
  | 4 => ("PaperWalls$Street", "speaker", "[I", true)
  | 5 => ("PaperWalls$Street", "hearer", "[I", true)
  | 6 => ("PaperWalls$Street", "barred", "[I", true)
  | 7 => ("PaperWalls$Street", "hours", "LPaperWalls$Hours;", true)
  | 8 => ("PaperWalls$Street", "walls", "I", false)
  | 9 => ("PaperWalls$Street", "people", "I", false)
  | _ => ("PaperWalls$Street", "talks", "I", false)
def tyX6 : Nat → FieldType := fun k => match k with
  | 0 => .array .int
  | 1 => .array .int
  | 2 => .array .int
  | 3 => .array .int
  | 4 => .array .int
  | 5 => .array .int
  | 6 => .array .int
  | 7 => .object "PaperWalls$Hours"
  | 8 => .int
  | 9 => .int
  | _ => .int
abbrev wsX60 : List Cond := u_ws RX6 TX6 11
theorem nmX6 : ∀ a, a < 11 → ∀ b, b < 11 → a ≠ b → (TX6 a).2.1 ≠ (TX6 b).2.1 := by decide +kernel
theorem tyX6_ok : ∀ k, k < 11 → parseFieldDescriptor (TX6 k).2.2.1 = some (tyX6 k) := by decide +kernel
abbrev cX6_init : ByteArray := prog_8_method_1_code
def yX6_init : MethodName := ⟨RX6, "<init>", "()V"⟩
abbrev cX6_become : ByteArray := prog_8_method_2_code
def yX6_become : MethodName := ⟨RX6, "become", "(LPaperWalls$Street;)V"⟩
abbrev cX6_readFrom : ByteArray := prog_8_method_3_code
def yX6_readFrom : MethodName := ⟨RX6, "readFrom", "(LPaperWalls$Text;)I"⟩
abbrev cX6_readPeople : ByteArray := prog_8_method_4_code
def yX6_readPeople : MethodName := ⟨RX6, "readPeople", "(LPaperWalls$Text;I)I"⟩
abbrev cX6_measure : ByteArray := prog_8_method_5_code
def yX6_measure : MethodName := ⟨RX6, "measure", "()V"⟩
abbrev cX6_everyone : ByteArray := prog_8_method_6_code
def yX6_everyone : MethodName := ⟨RX6, "everyone", "()I"⟩
abbrev cX6_everyTalk : ByteArray := prog_8_method_7_code
def yX6_everyTalk : MethodName := ⟨RX6, "everyTalk", "()I"⟩
abbrev cX6_howManyOf : ByteArray := prog_8_method_9_code
def yX6_howManyOf : MethodName := ⟨RX6, "howManyOf", "(I)I"⟩
abbrev cX6_comesTo : ByteArray := prog_8_method_11_code
def yX6_comesTo : MethodName := ⟨RX6, "comesTo", "(II)I"⟩
abbrev cX6_loudestIn : ByteArray := prog_8_method_13_code
def yX6_loudestIn : MethodName := ⟨RX6, "loudestIn", "(II[I)I"⟩
abbrev cX6_isHeardBy : ByteArray := prog_8_method_14_code
def yX6_isHeardBy : MethodName := ⟨RX6, "isHeardBy", "(II)Z"⟩
abbrev cX6_whoHear : ByteArray := prog_8_method_15_code
def yX6_whoHear : MethodName := ⟨RX6, "whoHear", "(II)I"⟩
abbrev cX6_whoHearOf : ByteArray := prog_8_method_16_code
def yX6_whoHearOf : MethodName := ⟨RX6, "whoHearOf", "(IIII)I"⟩
abbrev cX6_circleOf : ByteArray := prog_8_method_17_code
def yX6_circleOf : MethodName := ⟨RX6, "circleOf", "(I)I"⟩
abbrev cX6_heardPairs : ByteArray := prog_8_method_19_code
def yX6_heardPairs : MethodName := ⟨RX6, "heardPairs", "()I"⟩
abbrev cX6_pairs : ByteArray := prog_8_method_20_code
def yX6_pairs : MethodName := ⟨RX6, "pairs", "()I"⟩
abbrev cX6_addTalk : ByteArray := prog_8_method_21_code
def yX6_addTalk : MethodName := ⟨RX6, "addTalk", "(III)I"⟩
abbrev cX6_bothOf : ByteArray := prog_8_method_23_code
def yX6_bothOf : MethodName := ⟨RX6, "bothOf", "(I)I"⟩
abbrev cX6_isSafe : ByteArray := prog_8_method_24_code
def yX6_isSafe : MethodName := ⟨RX6, "isSafe", "(II)Z"⟩
abbrev cX6_isHeardRightly : ByteArray := prog_8_method_25_code
def yX6_isHeardRightly : MethodName := ⟨RX6, "isHeardRightly", "(IIII)Z"⟩
abbrev cX6_goTogether : ByteArray := prog_8_method_28_code
def yX6_goTogether : MethodName := ⟨RX6, "goTogether", "(I)Z"⟩
def RX7 : String := "PaperWalls$Text"
def TX7 : u_T := fun k => match k with
  | 0 => ("PaperWalls$Text", "bytes", "[B", true)
  | _ => ("PaperWalls$Text", "size", "I", false)
def tyX7 : Nat → FieldType := fun k => match k with
  | 0 => .array .byte
  | _ => .int
abbrev wsX70 : List Cond := u_ws RX7 TX7 2
theorem nmX7 : ∀ a, a < 2 → ∀ b, b < 2 → a ≠ b → (TX7 a).2.1 ≠ (TX7 b).2.1 := by decide +kernel
theorem tyX7_ok : ∀ k, k < 2 → parseFieldDescriptor (TX7 k).2.2.1 = some (tyX7 k) := by decide +kernel
abbrev cX7_init : ByteArray := prog_9_method_1_code
def yX7_init : MethodName := ⟨RX7, "<init>", "()V"⟩
abbrev cX7_isMissing : ByteArray := prog_9_method_2_code
def yX7_isMissing : MethodName := ⟨RX7, "isMissing", "()Z"⟩
abbrev cX7_has : ByteArray := prog_9_method_3_code
def yX7_has : MethodName := ⟨RX7, "has", "(I)Z"⟩
abbrev cX7_begin : ByteArray := prog_9_method_4_code
def yX7_begin : MethodName := ⟨RX7, "begin", "(I)V"⟩
abbrev cX7_sign : ByteArray := prog_9_method_5_code
def yX7_sign : MethodName := ⟨RX7, "sign", "(I)I"⟩
abbrev cX7_isFigure : ByteArray := prog_9_method_6_code
def yX7_isFigure : MethodName := ⟨RX7, "isFigure", "(I)Z"⟩
abbrev cX7_pastBlanks : ByteArray := prog_9_method_7_code
def yX7_pastBlanks : MethodName := ⟨RX7, "pastBlanks", "(I)I"⟩
def RX8 : String := "PaperWalls"
def TX8 : u_T := fun k => match k with
  | 0 => ("PaperWalls", "rows", "[LPaperWalls$Row;", true)
  | 1 => ("PaperWalls", "texts", "[LPaperWalls$Text;", true)
  | 2 => ("PaperWalls", "now", "LPaperWalls$Street;", true)
  | 3 => ("PaperWalls", "trial", "LPaperWalls$Street;", true)
  | 4 => ("PaperWalls", "places", "[LPaperWalls$Street;", true)
  | 5 => ("PaperWalls", "isKept", "[Z", true)
  | 6 => ("PaperWalls", "plan", "LPaperWalls$Plan;", true)
  | 7 => ("PaperWalls", "change", "LPaperWalls$Change;", true)
  | 8 => ("PaperWalls", "shares", "LPaperWalls$Shares;", true)
  | 9 => ("PaperWalls", "tally", "[I", true)
  | 10 => ("PaperWalls", "told", "I", false)
  | _ => ("PaperWalls", "latest", "I", false)
def tyX8 : Nat → FieldType := fun k => match k with
  | 0 => .array (.object "PaperWalls$Row")
  | 1 => .array (.object "PaperWalls$Text")
  | 2 => .object "PaperWalls$Street"
  | 3 => .object "PaperWalls$Street"
  | 4 => .array (.object "PaperWalls$Street")
  | 5 => .array .boolean
  | 6 => .object "PaperWalls$Plan"
  | 7 => .object "PaperWalls$Change"
  | 8 => .object "PaperWalls$Shares"
  | 9 => .array .int
  | 10 => .int
  | _ => .int
abbrev wsX80 : List Cond := u_ws RX8 TX8 12
theorem nmX8 : ∀ a, a < 12 → ∀ b, b < 12 → a ≠ b → (TX8 a).2.1 ≠ (TX8 b).2.1 := by decide +kernel
theorem tyX8_ok : ∀ k, k < 12 → parseFieldDescriptor (TX8 k).2.2.1 = some (tyX8 k) := by decide +kernel
abbrev cX8_init : ByteArray := prog_1_method_1_code
def yX8_init : MethodName := ⟨RX8, "<init>", "()V"⟩
abbrev cX8_at : ByteArray := prog_1_method_4_code
def yX8_at : MethodName := ⟨RX8, "at", "(II)I"⟩
abbrev cX8_text : ByteArray := prog_1_method_8_code
def yX8_text : MethodName := ⟨RX8, "text", "(II)I"⟩
abbrev cX8_put : ByteArray := prog_1_method_9_code
def yX8_put : MethodName := ⟨RX8, "put", "(III)I"⟩
abbrev cX8_fault : ByteArray := prog_1_method_10_code
def yX8_fault : MethodName := ⟨RX8, "fault", "(I)I"⟩
abbrev cX8_street : ByteArray := prog_1_method_11_code
def yX8_street : MethodName := ⟨RX8, "street", "(I)I"⟩
abbrev cX8_wall : ByteArray := prog_1_method_14_code
def yX8_wall : MethodName := ⟨RX8, "wall", "(II)I"⟩
abbrev cX8_hears : ByteArray := prog_1_method_16_code
def yX8_hears : MethodName := ⟨RX8, "hears", "(II)I"⟩
abbrev cX8_heard : ByteArray := prog_1_method_17_code
def yX8_heard : MethodName := ⟨RX8, "heard", "(II)I"⟩
abbrev cX8_hush : ByteArray := prog_1_method_19_code
def yX8_hush : MethodName := ⟨RX8, "hush", "(I)I"⟩
abbrev cX8_talk : ByteArray := prog_1_method_20_code
def yX8_talk : MethodName := ⟨RX8, "talk", "(III)I"⟩
abbrev cX8_safe : ByteArray := prog_1_method_23_code
def yX8_safe : MethodName := ⟨RX8, "safe", "(II)I"⟩
abbrev cX8_cover : ByteArray := prog_1_method_24_code
def yX8_cover : MethodName := ⟨RX8, "cover", "(I)I"⟩
abbrev cX8_beside : ByteArray := prog_1_method_25_code
def yX8_beside : MethodName := ⟨RX8, "beside", "(I)I"⟩
abbrev cX8_turns : ByteArray := prog_1_method_26_code
def yX8_turns : MethodName := ⟨RX8, "turns", "()I"⟩
abbrev cX8_most : ByteArray := prog_1_method_27_code
def yX8_most : MethodName := ⟨RX8, "most", "()I"⟩
abbrev cX8_paste : ByteArray := prog_1_method_31_code
def yX8_paste : MethodName := ⟨RX8, "paste", "(II)I"⟩
abbrev cX8_tearOff : ByteArray := prog_1_method_32_code
def yX8_tearOff : MethodName := ⟨RX8, "tearOff", "(II)I"⟩
abbrev cX8_comes : ByteArray := prog_1_method_34_code
def yX8_comes : MethodName := ⟨RX8, "comes", "(II)I"⟩
abbrev cX8_tell : ByteArray := prog_1_method_35_code
def yX8_tell : MethodName := ⟨RX8, "tell", "(II)I"⟩
abbrev cX8_undo : ByteArray := prog_1_method_36_code
def yX8_undo : MethodName := ⟨RX8, "undo", "(I)I"⟩
abbrev cX8_know : ByteArray := prog_1_method_37_code
def yX8_know : MethodName := ⟨RX8, "know", "(I)I"⟩
abbrev cX8_knowsThat : ByteArray := prog_1_method_38_code
def yX8_knowsThat : MethodName := ⟨RX8, "knowsThat", "(III)I"⟩
abbrev cX8_spread : ByteArray := prog_1_method_39_code
def yX8_spread : MethodName := ⟨RX8, "spread", "(II)I"⟩
abbrev cX8_leak : ByteArray := prog_1_method_40_code
def yX8_leak : MethodName := ⟨RX8, "leak", "(I)I"⟩
abbrev cX8_leaks : ByteArray := prog_1_method_41_code
def yX8_leaks : MethodName := ⟨RX8, "leaks", "(I)I"⟩
abbrev cX8_keep : ByteArray := prog_1_method_42_code
def yX8_keep : MethodName := ⟨RX8, "keep", "(I)I"⟩
abbrev cX8_on : ByteArray := prog_1_method_43_code
def yX8_on : MethodName := ⟨RX8, "on", "(I)I"⟩
abbrev cX8_asked : ByteArray := prog_1_method_45_code
def yX8_asked : MethodName := ⟨RX8, "asked", "()I"⟩
abbrev cX8_upper : ByteArray := prog_1_method_46_code
def yX8_upper : MethodName := ⟨RX8, "upper", "()J"⟩
abbrev cX8_lower : ByteArray := prog_1_method_47_code
def yX8_lower : MethodName := ⟨RX8, "lower", "()J"⟩
abbrev cX8_count : ByteArray := prog_1_method_48_code
def yX8_count : MethodName := ⟨RX8, "count", "(I)I"⟩
abbrev cX8_isRow : ByteArray := prog_1_method_52_code
def yX8_isRow : MethodName := ⟨RX8, "isRow", "(I)Z"⟩
abbrev cX8_isText : ByteArray := prog_1_method_53_code
def yX8_isText : MethodName := ⟨RX8, "isText", "(I)Z"⟩
abbrev cX8_isPlace : ByteArray := prog_1_method_54_code
def yX8_isPlace : MethodName := ⟨RX8, "isPlace", "(I)Z"⟩
abbrev cX8_isThing : ByteArray := prog_1_method_55_code
def yX8_isThing : MethodName := ⟨RX8, "isThing", "(I)Z"⟩
abbrev cX8_isOne : ByteArray := prog_1_method_56_code
def yX8_isOne : MethodName := ⟨RX8, "isOne", "(I)Z"⟩
abbrev cX8_areTwo : ByteArray := prog_1_method_57_code
def yX8_areTwo : MethodName := ⟨RX8, "areTwo", "(II)Z"⟩
abbrev cX8_isSet : ByteArray := prog_1_method_59_code
def yX8_isSet : MethodName := ⟨RX8, "isSet", "(I)Z"⟩
abbrev cX8_find : ByteArray := prog_1_method_60_code
def yX8_find : MethodName := ⟨RX8, "find", "(I)I"⟩
abbrev cX8_isFewer : ByteArray := prog_1_method_61_code
def yX8_isFewer : MethodName := ⟨RX8, "isFewer", "(II)Z"⟩
abbrev cX8_tellSet : ByteArray := prog_1_method_62_code
def yX8_tellSet : MethodName := ⟨RX8, "tellSet", "(I)I"⟩
abbrev cX8_isSafeByPasting : ByteArray := prog_1_method_63_code
def yX8_isSafeByPasting : MethodName := ⟨RX8, "isSafeByPasting", "(II)Z"⟩
abbrev cX8_commonDivisor : ByteArray := prog_1_method_64_code
def yX8_commonDivisor : MethodName := ⟨RX8, "commonDivisor", "(II)I"⟩
abbrev cX8_howManyRows : ByteArray := prog_1_method_65_code
def yX8_howManyRows : MethodName := ⟨RX8, "howManyRows", "()I"⟩
abbrev cX8_howManyTexts : ByteArray := prog_1_method_66_code
def yX8_howManyTexts : MethodName := ⟨RX8, "howManyTexts", "()I"⟩
abbrev cX8_howManyKept : ByteArray := prog_1_method_67_code
def yX8_howManyKept : MethodName := ⟨RX8, "howManyKept", "()I"⟩
def RX9 : String := "PaperWallsModel"
def TX9 : u_T := fun k => match k with
  | _ => ("", "", "", false)
def tyX9 : Nat → FieldType := fun k => match k with
  | _ => .int
abbrev wsX90 : List Cond := u_ws RX9 TX9 0
theorem nmX9 : ∀ a, a < 0 → ∀ b, b < 0 → a ≠ b → (TX9 a).2.1 ≠ (TX9 b).2.1 := by decide +kernel
theorem tyX9_ok : ∀ k, k < 0 → parseFieldDescriptor (TX9 k).2.2.1 = some (tyX9 k) := by decide +kernel
def RJ6 : String := "java/lang/Integer"
def TJ6 : u_T := fun k => match k with
  | _ => ("", "", "", false)
def tyJ6 : Nat → FieldType := fun k => match k with
  | _ => .int
abbrev wsJ60 : List Cond := u_ws RJ6 TJ6 0
theorem nmJ6 : ∀ a, a < 0 → ∀ b, b < 0 → a ≠ b → (TJ6 a).2.1 ≠ (TJ6 b).2.1 := by decide +kernel
theorem tyJ6_ok : ∀ k, k < 0 → parseFieldDescriptor (TJ6 k).2.2.1 = some (tyJ6 k) := by decide +kernel
abbrev cJ6_bitCount_0f7a4 : ByteArray := prog_12_method_49_code
def yJ6_bitCount_0f7a4 : MethodName := ⟨RJ6, "bitCount", "(I)I"⟩
def RJ9 : String := "java/lang/Math"
def TJ9 : u_T := fun k => match k with
  | _ => ("", "", "", false)
def tyJ9 : Nat → FieldType := fun k => match k with
  | _ => .int
abbrev wsJ90 : List Cond := u_ws RJ9 TJ9 0
theorem nmJ9 : ∀ a, a < 0 → ∀ b, b < 0 → a ≠ b → (TJ9 a).2.1 ≠ (TJ9 b).2.1 := by decide +kernel
theorem tyJ9_ok : ∀ k, k < 0 → parseFieldDescriptor (TJ9 k).2.2.1 = some (tyJ9 k) := by decide +kernel
abbrev cJ9_abs_0f7a4 : ByteArray := prog_13_method_59_code
def yJ9_abs_0f7a4 : MethodName := ⟨RJ9, "abs", "(I)I"⟩
abbrev cJ9_max_7cf53 : ByteArray := prog_13_method_65_code
def yJ9_max_7cf53 : MethodName := ⟨RJ9, "max", "(II)I"⟩
abbrev cJ9_min_7cf53 : ByteArray := prog_13_method_69_code
def yJ9_min_7cf53 : MethodName := ⟨RJ9, "min", "(II)I"⟩
def RJ10 : String := "java/lang/System"
def TJ10 : u_T := fun k => match k with
  | _ => ("", "", "", false)
def tyJ10 : Nat → FieldType := fun k => match k with
  | _ => .int
abbrev wsJ100 : List Cond := u_ws RJ10 TJ10 0
theorem nmJ10 : ∀ a, a < 0 → ∀ b, b < 0 → a ≠ b → (TJ10 a).2.1 ≠ (TJ10 b).2.1 := by decide +kernel
theorem tyJ10_ok : ∀ k, k < 0 → parseFieldDescriptor (TJ10 k).2.2.1 = some (tyJ10 k) := by decide +kernel
def RL : String := "PaperWallsLaw"
abbrev cL_cell : ByteArray := method_2_code
def yL_cell : MethodName := ⟨RL, "cell", "([II)I"⟩
abbrev cL_some : ByteArray := method_3_code
def yL_some : MethodName := ⟨RL, "some", "(II)I"⟩
abbrev cL_size : ByteArray := method_10_code
def yL_size : MethodName := ⟨RL, "size", "(I)I"⟩
abbrev cL_letter : ByteArray := method_11_code
def yL_letter : MethodName := ⟨RL, "letter", "(I)I"⟩
abbrev cL_build : ByteArray := method_12_code
def yL_build : MethodName := ⟨RL, "build", "(LPaperWalls;[II[I[I[I[III)Z"⟩
abbrev cL_talks : ByteArray := method_13_code
def yL_talks : MethodName := ⟨RL, "talks", "(LPaperWalls;[II[I[II)Z"⟩
abbrev cL_law : ByteArray := code
def yL_law : MethodName := ⟨RL, "law", "([I)Z"⟩
def wsX0_init : List Cond := .code yX0_init cX0_init 1 none :: ([.methodLink RX0 3 objectInit, .instanceMethod objectInit, .code objectInit ⟨#[0xb1]⟩ 1 none, .arrayClass .int, .fieldLink RX0 11 "PaperWalls$Change" "whose" "[I", .fieldLink RX0 17 "PaperWalls$Change" "best" "[I"] ++ wsX00)
def wsX1_init : List Cond := .code yX1_init cX1_init 1 none :: ([.methodLink RX1 1 objectInit, .instanceMethod objectInit, .code objectInit ⟨#[0xb1]⟩ 1 none, .arrayClass .int, .fieldLink RX1 9 "PaperWalls$Hours" "tellers" "[I", .fieldLink RX1 13 "PaperWalls$Hours" "things" "[I", .fieldLink RX1 16 "PaperWalls$Hours" "heardBy" "[I", .arrayClass .long, .fieldLink RX1 19 "PaperWalls$Hours" "ahead" "[J"] ++ wsX10)
def wsX1_begin : List Cond := .code yX1_begin cX1_begin 1 none :: ([.fieldLink RX1 23 "PaperWalls$Hours" "known" "J", .fieldLink RX1 27 "PaperWalls$Hours" "size" "I"] ++ wsX10)
def wsX1_become : List Cond := .code yX1_become cX1_become 2 none :: ([.fieldLink RX1 9 "PaperWalls$Hours" "tellers" "[I", .methodLink RX1 31 arraycopyName, .native arraycopyName, .static arraycopyName, .initialized "java/lang/System", .fieldLink RX1 13 "PaperWalls$Hours" "things" "[I", .fieldLink RX1 16 "PaperWalls$Hours" "heardBy" "[I", .fieldLink RX1 19 "PaperWalls$Hours" "ahead" "[J", .fieldLink RX1 23 "PaperWalls$Hours" "known" "J", .fieldLink RX1 27 "PaperWalls$Hours" "size" "I"] ++ wsX10)
def wsX1_whoKnow : List Cond := .code yX1_whoKnow cX1_whoKnow 2 (some .int) :: ([.fieldLink RX1 23 "PaperWalls$Hours" "known" "J"] ++ wsX10)
def wsX1_learn : List Cond := .code yX1_learn cX1_learn 3 none :: ([.fieldLink RX1 23 "PaperWalls$Hours" "known" "J"] ++ wsX10)
def wsX1_add : List Cond := .code yX1_add cX1_add 4 none :: ([.fieldLink RX1 9 "PaperWalls$Hours" "tellers" "[I", .fieldLink RX1 27 "PaperWalls$Hours" "size" "I", .fieldLink RX1 13 "PaperWalls$Hours" "things" "[I", .fieldLink RX1 16 "PaperWalls$Hours" "heardBy" "[I", .fieldLink RX1 19 "PaperWalls$Hours" "ahead" "[J", .fieldLink RX1 23 "PaperWalls$Hours" "known" "J", .methodLink RX1 41 yX1_learn, .instanceMethod yX1_learn, .selects RX1 yX1_learn yX1_learn, .initialized RX1, .code yX1_learn cX1_learn 3 none] ++ wsX10)
def wsX1_backTo : List Cond := .code yX1_backTo cX1_backTo 2 none :: ([.fieldLink RX1 27 "PaperWalls$Hours" "size" "I", .fieldLink RX1 19 "PaperWalls$Hours" "ahead" "[J", .fieldLink RX1 23 "PaperWalls$Hours" "known" "J"] ++ wsX10)
def wsX1_showed : List Cond := .code yX1_showed cX1_showed 7 (some .boolean) :: ([.fieldLink RX1 16 "PaperWalls$Hours" "heardBy" "[I", .fieldLink RX1 9 "PaperWalls$Hours" "tellers" "[I"] ++ wsX10)
def wsX2_isOf : List Cond := .code yX2_isOf cX2_isOf 2 (some .boolean) :: ([.fieldLink RX2 9 "PaperWalls$Kinds" "WIDER" "[I"])
def wsX2_isEnough : List Cond := .code yX2_isEnough cX2_isEnough 4 (some .boolean) :: ([.fieldLink RX2 15 "PaperWalls$Kinds" "LEAST" "[I"])
def wsX2_byLetter : List Cond := .code yX2_byLetter cX2_byLetter 2 (some .int) :: ([.fieldLink RX2 18 "PaperWalls$Kinds" "LETTERS" "[I"])
def wsX3_init : List Cond := .code yX3_init cX3_init 1 none :: ([.methodLink RX3 5 objectInit, .instanceMethod objectInit, .code objectInit ⟨#[0xb1]⟩ 1 none, .arrayClass .boolean, .fieldLink RX3 13 "PaperWalls$Plan" "together" "[Z", .arrayClass .int, .fieldLink RX3 17 "PaperWalls$Plan" "fewest" "[I"] ++ wsX30)
def wsX6_everyTalk : List Cond := .code yX6_everyTalk cX6_everyTalk 1 (some .int) :: ([.fieldLink RX6 47 "PaperWalls$Street" "talks" "I"] ++ wsX60)
def wsX6_bothOf : List Cond := .code yX6_bothOf cX6_bothOf 2 (some .int) :: ([.fieldLink RX6 24 "PaperWalls$Street" "speaker" "[I", .fieldLink RX6 27 "PaperWalls$Street" "hearer" "[I"] ++ wsX60)
def wsX6_everyone : List Cond := .code yX6_everyone cX6_everyone 1 (some .int) :: ([.fieldLink RX6 44 "PaperWalls$Street" "people" "I"] ++ wsX60)
def wsX6_loudestIn : List Cond := .code yX6_loudestIn cX6_loudestIn 7 (some .int) :: ([.fieldLink RX6 44 "PaperWalls$Street" "people" "I", .fieldLink RX6 18 "PaperWalls$Street" "kinds" "[I", .fieldLink RX6 15 "PaperWalls$Street" "depth" "[I", .fieldLink RX6 21 "PaperWalls$Street" "rooms" "[I", .methodLink RX6 104 Lib.Math.abs.name, .static Lib.Math.abs.name, .initialized "java/lang/Math", .code Lib.Math.abs.name Lib.Math.abs.code 1 (some .int), .methodLink RX6 113 Lib.Math.max.name, .static Lib.Math.max.name, .code Lib.Math.max.name Lib.Math.max.code 2 (some .int)] ++ wsX60)
def wsX6_comesTo : List Cond := .code yX6_comesTo cX6_comesTo 3 (some .int) :: ([.fieldLink RX6 91 "PaperWalls$Kinds" "SPEAKS" "[I", .fieldLink RX6 18 "PaperWalls$Street" "kinds" "[I", .fieldLink RX6 15 "PaperWalls$Street" "depth" "[I", .fieldLink RX6 21 "PaperWalls$Street" "rooms" "[I", .methodLink RX6 104 Lib.Math.abs.name, .static Lib.Math.abs.name, .initialized "java/lang/Math", .code Lib.Math.abs.name Lib.Math.abs.code 1 (some .int)] ++ wsX60)
def wsX6_whoHearOf_r1 : List Cond := [Cond.fieldLink RX6 44 "PaperWalls$Street" "people" "I", Cond.fieldLink RX6 21 "PaperWalls$Street" "rooms" "[I", Cond.fieldLink RX6 94 "PaperWalls$Kinds" "SINGS" "[I", Cond.fieldLink RX6 91 "PaperWalls$Kinds" "SPEAKS" "[I", Cond.methodLink RX6 113 Lib.Math.max.name, Cond.static Lib.Math.max.name, Cond.initialized "java/lang/Math", Cond.code Lib.Math.max.name Lib.Math.max.code 2 (some .int), Cond.fieldLink RX6 18 "PaperWalls$Street" "kinds" "[I", Cond.methodLink RX6 109 yX6_loudestIn, Cond.instanceMethod yX6_loudestIn, Cond.selects RX6 yX6_loudestIn yX6_loudestIn, Cond.initialized RX6, Cond.code yX6_loudestIn cX6_loudestIn 7 (some .int), Cond.fieldLink RX6 15 "PaperWalls$Street" "depth" "[I", Cond.methodLink RX6 104 Lib.Math.abs.name, Cond.static Lib.Math.abs.name, Cond.code Lib.Math.abs.name Lib.Math.abs.code 1 (some .int), Cond.methodLink RX6 117 yX6_comesTo, Cond.instanceMethod yX6_comesTo, Cond.selects RX6 yX6_comesTo yX6_comesTo, Cond.code yX6_comesTo cX6_comesTo 3 (some .int), Cond.methodLink RX6 120 yX2_isEnough, Cond.static yX2_isEnough]
def wsX6_whoHearOf_r2 : List Cond := [Cond.initialized RX2, Cond.code yX2_isEnough cX2_isEnough 4 (some .boolean), Cond.fieldLink RX2 15 "PaperWalls$Kinds" "LEAST" "[I"]
def wsX6_whoHearOf : List Cond := .code yX6_whoHearOf cX6_whoHearOf 10 (some .int) :: ((wsX6_whoHearOf_r1 ++ wsX6_whoHearOf_r2) ++ wsX60)
def wsX6_isHeardRightly_r1 : List Cond := [Cond.fieldLink RX6 27 "PaperWalls$Street" "hearer" "[I", Cond.fieldLink RX6 30 "PaperWalls$Street" "barred" "[I", Cond.fieldLink RX6 24 "PaperWalls$Street" "speaker" "[I", Cond.methodLink RX6 128 yX6_whoHearOf, Cond.instanceMethod yX6_whoHearOf, Cond.selects RX6 yX6_whoHearOf yX6_whoHearOf, Cond.initialized RX6, Cond.code yX6_whoHearOf cX6_whoHearOf 10 (some .int), Cond.fieldLink RX6 44 "PaperWalls$Street" "people" "I", Cond.fieldLink RX6 21 "PaperWalls$Street" "rooms" "[I", Cond.fieldLink RX6 94 "PaperWalls$Kinds" "SINGS" "[I", Cond.fieldLink RX6 91 "PaperWalls$Kinds" "SPEAKS" "[I", Cond.methodLink RX6 113 Lib.Math.max.name, Cond.static Lib.Math.max.name, Cond.initialized "java/lang/Math", Cond.code Lib.Math.max.name Lib.Math.max.code 2 (some .int), Cond.fieldLink RX6 18 "PaperWalls$Street" "kinds" "[I", Cond.methodLink RX6 109 yX6_loudestIn, Cond.instanceMethod yX6_loudestIn, Cond.selects RX6 yX6_loudestIn yX6_loudestIn, Cond.code yX6_loudestIn cX6_loudestIn 7 (some .int), Cond.fieldLink RX6 15 "PaperWalls$Street" "depth" "[I", Cond.methodLink RX6 104 Lib.Math.abs.name, Cond.static Lib.Math.abs.name]
def wsX6_isHeardRightly_r2 : List Cond := [Cond.code Lib.Math.abs.name Lib.Math.abs.code 1 (some .int), Cond.methodLink RX6 117 yX6_comesTo, Cond.instanceMethod yX6_comesTo, Cond.selects RX6 yX6_comesTo yX6_comesTo, Cond.code yX6_comesTo cX6_comesTo 3 (some .int), Cond.methodLink RX6 120 yX2_isEnough, Cond.static yX2_isEnough, Cond.initialized RX2, Cond.code yX2_isEnough cX2_isEnough 4 (some .boolean), Cond.fieldLink RX2 15 "PaperWalls$Kinds" "LEAST" "[I"]
def wsX6_isHeardRightly : List Cond := .code yX6_isHeardRightly cX6_isHeardRightly 6 (some .boolean) :: ((wsX6_isHeardRightly_r1 ++ wsX6_isHeardRightly_r2) ++ wsX60)
def wsX6_goTogether_r1 : List Cond := [Cond.fieldLink RX6 47 "PaperWalls$Street" "talks" "I", Cond.fieldLink RX6 24 "PaperWalls$Street" "speaker" "[I", Cond.methodLink RX6 140 yX6_bothOf, Cond.instanceMethod yX6_bothOf, Cond.selects RX6 yX6_bothOf yX6_bothOf, Cond.initialized RX6, Cond.code yX6_bothOf cX6_bothOf 2 (some .int), Cond.fieldLink RX6 27 "PaperWalls$Street" "hearer" "[I", Cond.methodLink RX6 124 yX6_everyone, Cond.instanceMethod yX6_everyone, Cond.selects RX6 yX6_everyone yX6_everyone, Cond.code yX6_everyone cX6_everyone 1 (some .int), Cond.fieldLink RX6 44 "PaperWalls$Street" "people" "I", Cond.methodLink RX6 143 yX6_isHeardRightly, Cond.instanceMethod yX6_isHeardRightly, Cond.selects RX6 yX6_isHeardRightly yX6_isHeardRightly, Cond.code yX6_isHeardRightly cX6_isHeardRightly 6 (some .boolean), Cond.fieldLink RX6 30 "PaperWalls$Street" "barred" "[I", Cond.methodLink RX6 128 yX6_whoHearOf, Cond.instanceMethod yX6_whoHearOf, Cond.selects RX6 yX6_whoHearOf yX6_whoHearOf, Cond.code yX6_whoHearOf cX6_whoHearOf 10 (some .int), Cond.fieldLink RX6 21 "PaperWalls$Street" "rooms" "[I", Cond.fieldLink RX6 94 "PaperWalls$Kinds" "SINGS" "[I"]
def wsX6_goTogether_r2 : List Cond := [Cond.fieldLink RX6 91 "PaperWalls$Kinds" "SPEAKS" "[I", Cond.methodLink RX6 113 Lib.Math.max.name, Cond.static Lib.Math.max.name, Cond.initialized "java/lang/Math", Cond.code Lib.Math.max.name Lib.Math.max.code 2 (some .int), Cond.fieldLink RX6 18 "PaperWalls$Street" "kinds" "[I", Cond.methodLink RX6 109 yX6_loudestIn, Cond.instanceMethod yX6_loudestIn, Cond.selects RX6 yX6_loudestIn yX6_loudestIn, Cond.code yX6_loudestIn cX6_loudestIn 7 (some .int), Cond.fieldLink RX6 15 "PaperWalls$Street" "depth" "[I", Cond.methodLink RX6 104 Lib.Math.abs.name, Cond.static Lib.Math.abs.name, Cond.code Lib.Math.abs.name Lib.Math.abs.code 1 (some .int), Cond.methodLink RX6 117 yX6_comesTo, Cond.instanceMethod yX6_comesTo, Cond.selects RX6 yX6_comesTo yX6_comesTo, Cond.code yX6_comesTo cX6_comesTo 3 (some .int), Cond.methodLink RX6 120 yX2_isEnough, Cond.static yX2_isEnough, Cond.initialized RX2, Cond.code yX2_isEnough cX2_isEnough 4 (some .boolean), Cond.fieldLink RX2 15 "PaperWalls$Kinds" "LEAST" "[I"]
def wsX6_goTogether : List Cond := .code yX6_goTogether cX6_goTogether 6 (some .boolean) :: ((wsX6_goTogether_r1 ++ wsX6_goTogether_r2) ++ wsX60)
def wsX3_fewestOf : List Cond := .code yX3_fewestOf cX3_fewestOf 5 (some .int) :: ([.fieldLink RX3 13 "PaperWalls$Plan" "together" "[Z", .fieldLink RX3 17 "PaperWalls$Plan" "fewest" "[I", .methodLink RX3 33 Lib.Math.min.name, .static Lib.Math.min.name, .initialized "java/lang/Math", .code Lib.Math.min.name Lib.Math.min.code 2 (some .int)] ++ wsX30)
def wsX3_draw_r1 : List Cond := [Cond.fieldLink RX3 13 "PaperWalls$Plan" "together" "[Z", Cond.fieldLink RX3 17 "PaperWalls$Plan" "fewest" "[I", Cond.methodLink RX3 21 yX6_everyTalk, Cond.instanceMethod yX6_everyTalk, Cond.selects RX6 yX6_everyTalk yX6_everyTalk, Cond.initialized RX6, Cond.code yX6_everyTalk cX6_everyTalk 1 (some .int), Cond.fieldLink RX6 47 "PaperWalls$Street" "talks" "I", Cond.methodLink RX3 25 yX6_goTogether, Cond.instanceMethod yX6_goTogether, Cond.selects RX6 yX6_goTogether yX6_goTogether, Cond.code yX6_goTogether cX6_goTogether 6 (some .boolean), Cond.fieldLink RX6 24 "PaperWalls$Street" "speaker" "[I", Cond.methodLink RX6 140 yX6_bothOf, Cond.instanceMethod yX6_bothOf, Cond.selects RX6 yX6_bothOf yX6_bothOf, Cond.code yX6_bothOf cX6_bothOf 2 (some .int), Cond.fieldLink RX6 27 "PaperWalls$Street" "hearer" "[I", Cond.methodLink RX6 124 yX6_everyone, Cond.instanceMethod yX6_everyone, Cond.selects RX6 yX6_everyone yX6_everyone, Cond.code yX6_everyone cX6_everyone 1 (some .int), Cond.fieldLink RX6 44 "PaperWalls$Street" "people" "I", Cond.methodLink RX6 143 yX6_isHeardRightly]
def wsX3_draw_r2 : List Cond := [Cond.instanceMethod yX6_isHeardRightly, Cond.selects RX6 yX6_isHeardRightly yX6_isHeardRightly, Cond.code yX6_isHeardRightly cX6_isHeardRightly 6 (some .boolean), Cond.fieldLink RX6 30 "PaperWalls$Street" "barred" "[I", Cond.methodLink RX6 128 yX6_whoHearOf, Cond.instanceMethod yX6_whoHearOf, Cond.selects RX6 yX6_whoHearOf yX6_whoHearOf, Cond.code yX6_whoHearOf cX6_whoHearOf 10 (some .int), Cond.fieldLink RX6 21 "PaperWalls$Street" "rooms" "[I", Cond.fieldLink RX6 94 "PaperWalls$Kinds" "SINGS" "[I", Cond.fieldLink RX6 91 "PaperWalls$Kinds" "SPEAKS" "[I", Cond.methodLink RX6 113 Lib.Math.max.name, Cond.static Lib.Math.max.name, Cond.initialized "java/lang/Math", Cond.code Lib.Math.max.name Lib.Math.max.code 2 (some .int), Cond.fieldLink RX6 18 "PaperWalls$Street" "kinds" "[I", Cond.methodLink RX6 109 yX6_loudestIn, Cond.instanceMethod yX6_loudestIn, Cond.selects RX6 yX6_loudestIn yX6_loudestIn, Cond.code yX6_loudestIn cX6_loudestIn 7 (some .int), Cond.fieldLink RX6 15 "PaperWalls$Street" "depth" "[I", Cond.methodLink RX6 104 Lib.Math.abs.name, Cond.static Lib.Math.abs.name, Cond.code Lib.Math.abs.name Lib.Math.abs.code 1 (some .int)]
def wsX3_draw_r3 : List Cond := [Cond.methodLink RX6 117 yX6_comesTo, Cond.instanceMethod yX6_comesTo, Cond.selects RX6 yX6_comesTo yX6_comesTo, Cond.code yX6_comesTo cX6_comesTo 3 (some .int), Cond.methodLink RX6 120 yX2_isEnough, Cond.static yX2_isEnough, Cond.initialized RX2, Cond.code yX2_isEnough cX2_isEnough 4 (some .boolean), Cond.fieldLink RX2 15 "PaperWalls$Kinds" "LEAST" "[I", Cond.methodLink RX3 29 yX3_fewestOf, Cond.instanceMethod yX3_fewestOf, Cond.selects RX3 yX3_fewestOf yX3_fewestOf, Cond.initialized RX3, Cond.code yX3_fewestOf cX3_fewestOf 5 (some .int), Cond.methodLink RX3 33 Lib.Math.min.name, Cond.static Lib.Math.min.name, Cond.code Lib.Math.min.name Lib.Math.min.code 2 (some .int)]
def wsX3_draw : List Cond := .code yX3_draw cX3_draw 3 none :: ((wsX3_draw_r1 ++ (wsX3_draw_r2 ++ wsX3_draw_r3)) ++ wsX30 ++ wsX60)
def wsX3_hours : List Cond := .code yX3_hours cX3_hours 3 (some .int) :: ([.fieldLink RX3 17 "PaperWalls$Plan" "fewest" "[I", .methodLink RX3 21 yX6_everyTalk, .instanceMethod yX6_everyTalk, .selects RX6 yX6_everyTalk yX6_everyTalk, .initialized RX6, .code yX6_everyTalk cX6_everyTalk 1 (some .int), .fieldLink RX6 47 "PaperWalls$Street" "talks" "I"] ++ wsX30 ++ wsX60)
def wsX3_firstHour : List Cond := .code yX3_firstHour cX3_firstHour 4 (some .int) :: ([.fieldLink RX3 13 "PaperWalls$Plan" "together" "[Z", .fieldLink RX3 17 "PaperWalls$Plan" "fewest" "[I", .methodLink RX3 21 yX6_everyTalk, .instanceMethod yX6_everyTalk, .selects RX6 yX6_everyTalk yX6_everyTalk, .initialized RX6, .code yX6_everyTalk cX6_everyTalk 1 (some .int), .fieldLink RX6 47 "PaperWalls$Street" "talks" "I"] ++ wsX30 ++ wsX60)
def wsJ6_bitCount_0f7a4 : List Cond := .code yJ6_bitCount_0f7a4 cJ6_bitCount_0f7a4 1 (some .int) :: ([.constant RJ6 265 (1431655765), .constant RJ6 266 (858993459), .constant RJ6 267 (252645135)])
def wsX3_largest : List Cond := .code yX3_largest cX3_largest 4 (some .int) :: ([.fieldLink RX3 13 "PaperWalls$Plan" "together" "[Z", .methodLink RX3 21 yX6_everyTalk, .instanceMethod yX6_everyTalk, .selects RX6 yX6_everyTalk yX6_everyTalk, .initialized RX6, .code yX6_everyTalk cX6_everyTalk 1 (some .int), .fieldLink RX6 47 "PaperWalls$Street" "talks" "I", .methodLink RX3 39 yJ6_bitCount_0f7a4, .static yJ6_bitCount_0f7a4, .initialized RJ6, .code yJ6_bitCount_0f7a4 cJ6_bitCount_0f7a4 1 (some .int), .constant RJ6 265 (1431655765), .constant RJ6 266 (858993459), .constant RJ6 267 (252645135)] ++ wsX30 ++ wsX60)
def wsX4_init : List Cond := .code yX4_init cX4_init 1 none :: ([.methodLink RX4 1 objectInit, .instanceMethod objectInit, .code objectInit ⟨#[0xb1]⟩ 1 none, .arrayClass .int, .fieldLink RX4 9 "PaperWalls$Row" "ints" "[I", .fieldLink RX4 13 "PaperWalls$Row" "size" "I"] ++ wsX40)
def wsX4_isMissing : List Cond := .code yX4_isMissing cX4_isMissing 1 (some .boolean) :: ([.fieldLink RX4 13 "PaperWalls$Row" "size" "I"] ++ wsX40)
def wsX4_has : List Cond := .code yX4_has cX4_has 2 (some .boolean) :: ([.fieldLink RX4 13 "PaperWalls$Row" "size" "I"] ++ wsX40)
def wsX4_begin : List Cond := .code yX4_begin cX4_begin 3 none :: ([.fieldLink RX4 13 "PaperWalls$Row" "size" "I", .fieldLink RX4 9 "PaperWalls$Row" "ints" "[I"] ++ wsX40)
def wsX4_fill : List Cond := .code yX4_fill cX4_fill 3 none :: ([.fieldLink RX4 9 "PaperWalls$Row" "ints" "[I", .methodLink RX4 21 arraycopyName, .native arraycopyName, .static arraycopyName, .initialized "java/lang/System", .methodLink RX4 17 yX4_begin, .instanceMethod yX4_begin, .selects RX4 yX4_begin yX4_begin, .initialized RX4, .code yX4_begin cX4_begin 3 none, .fieldLink RX4 13 "PaperWalls$Row" "size" "I"] ++ wsX40)
def wsX5_init : List Cond := .code yX5_init cX5_init 1 none :: ([.methodLink RX5 1 objectInit, .instanceMethod objectInit, .code objectInit ⟨#[0xb1]⟩ 1 none, .arrayClass .int, .fieldLink RX5 9 "PaperWalls$Shares" "of" "[I"] ++ wsX50)
def wsX5_begin : List Cond := .code yX5_begin cX5_begin 4 none :: ([.fieldLink RX5 15 "PaperWalls$Shares" "size" "I", .fieldLink RX5 9 "PaperWalls$Shares" "of" "[I"] ++ wsX50)
def wsX5_advance : List Cond := .code yX5_advance cX5_advance 3 (some .boolean) :: ([.fieldLink RX5 15 "PaperWalls$Shares" "size" "I", .fieldLink RX5 9 "PaperWalls$Shares" "of" "[I"] ++ wsX50)
def wsX6_init : List Cond := .code yX6_init cX6_init 1 none :: ([.methodLink RX6 3 objectInit, .instanceMethod objectInit, .code objectInit ⟨#[0xb1]⟩ 1 none, .arrayClass .int, .fieldLink RX6 11 "PaperWalls$Street" "layers" "[I", .fieldLink RX6 15 "PaperWalls$Street" "depth" "[I", .fieldLink RX6 18 "PaperWalls$Street" "kinds" "[I", .fieldLink RX6 21 "PaperWalls$Street" "rooms" "[I", .fieldLink RX6 24 "PaperWalls$Street" "speaker" "[I", .fieldLink RX6 27 "PaperWalls$Street" "hearer" "[I", .fieldLink RX6 30 "PaperWalls$Street" "barred" "[I", .classLink RX6 33 RX1, .instantiable RX1 6, .initialized RX1, .fieldLink RX6 36 "PaperWalls$Street" "hours" "LPaperWalls$Hours;", .methodLink RX6 35 yX1_init, .instanceMethod yX1_init, .code yX1_init cX1_init 1 none, .methodLink RX1 1 objectInit, .fieldLink RX1 9 "PaperWalls$Hours" "tellers" "[I", .fieldLink RX1 13 "PaperWalls$Hours" "things" "[I", .fieldLink RX1 16 "PaperWalls$Hours" "heardBy" "[I", .arrayClass .long, .fieldLink RX1 19 "PaperWalls$Hours" "ahead" "[J"] ++ wsX60 ++ wsX10)
def wsX6_become_r1 : List Cond := [Cond.fieldLink RX6 40 "PaperWalls$Street" "walls" "I", Cond.fieldLink RX6 44 "PaperWalls$Street" "people" "I", Cond.fieldLink RX6 47 "PaperWalls$Street" "talks" "I", Cond.fieldLink RX6 11 "PaperWalls$Street" "layers" "[I", Cond.methodLink RX6 50 arraycopyName, Cond.native arraycopyName, Cond.static arraycopyName, Cond.initialized "java/lang/System", Cond.fieldLink RX6 15 "PaperWalls$Street" "depth" "[I", Cond.fieldLink RX6 18 "PaperWalls$Street" "kinds" "[I", Cond.fieldLink RX6 21 "PaperWalls$Street" "rooms" "[I", Cond.fieldLink RX6 24 "PaperWalls$Street" "speaker" "[I", Cond.fieldLink RX6 27 "PaperWalls$Street" "hearer" "[I", Cond.fieldLink RX6 30 "PaperWalls$Street" "barred" "[I", Cond.fieldLink RX6 36 "PaperWalls$Street" "hours" "LPaperWalls$Hours;", Cond.methodLink RX6 56 yX1_become, Cond.instanceMethod yX1_become, Cond.selects RX1 yX1_become yX1_become, Cond.initialized RX1, Cond.code yX1_become cX1_become 2 none, Cond.fieldLink RX1 9 "PaperWalls$Hours" "tellers" "[I", Cond.methodLink RX1 31 arraycopyName, Cond.fieldLink RX1 13 "PaperWalls$Hours" "things" "[I", Cond.fieldLink RX1 16 "PaperWalls$Hours" "heardBy" "[I"]
def wsX6_become_r2 : List Cond := [Cond.fieldLink RX1 19 "PaperWalls$Hours" "ahead" "[J", Cond.fieldLink RX1 23 "PaperWalls$Hours" "known" "J", Cond.fieldLink RX1 27 "PaperWalls$Hours" "size" "I"]
def wsX6_become : List Cond := .code yX6_become cX6_become 2 none :: ((wsX6_become_r1 ++ wsX6_become_r2) ++ wsX60 ++ wsX10)
def wsX7_has : List Cond := .code yX7_has cX7_has 2 (some .boolean) :: ([.fieldLink RX7 13 "PaperWalls$Text" "size" "I"] ++ wsX70)
def wsX7_sign : List Cond := .code yX7_sign cX7_sign 2 (some .int) :: ([.fieldLink RX7 9 "PaperWalls$Text" "bytes" "[B", .methodLink RX7 17 yX7_has, .instanceMethod yX7_has, .selects RX7 yX7_has yX7_has, .initialized RX7, .code yX7_has cX7_has 2 (some .boolean), .fieldLink RX7 13 "PaperWalls$Text" "size" "I"] ++ wsX70)
def wsX7_pastBlanks : List Cond := .code yX7_pastBlanks cX7_pastBlanks 3 (some .int) :: ([.fieldLink RX7 13 "PaperWalls$Text" "size" "I", .methodLink RX7 21 yX7_sign, .instanceMethod yX7_sign, .selects RX7 yX7_sign yX7_sign, .initialized RX7, .code yX7_sign cX7_sign 2 (some .int), .fieldLink RX7 9 "PaperWalls$Text" "bytes" "[B", .methodLink RX7 17 yX7_has, .instanceMethod yX7_has, .selects RX7 yX7_has yX7_has, .code yX7_has cX7_has 2 (some .boolean)] ++ wsX70)
def wsX7_isFigure : List Cond := .code yX7_isFigure cX7_isFigure 2 (some .boolean) :: ([.methodLink RX7 21 yX7_sign, .instanceMethod yX7_sign, .selects RX7 yX7_sign yX7_sign, .initialized RX7, .code yX7_sign cX7_sign 2 (some .int), .fieldLink RX7 9 "PaperWalls$Text" "bytes" "[B", .methodLink RX7 17 yX7_has, .instanceMethod yX7_has, .selects RX7 yX7_has yX7_has, .code yX7_has cX7_has 2 (some .boolean), .fieldLink RX7 13 "PaperWalls$Text" "size" "I"] ++ wsX70)
def wsX6_measure : List Cond := .code yX6_measure cX6_measure 2 none :: ([.fieldLink RX6 40 "PaperWalls$Street" "walls" "I", .fieldLink RX6 15 "PaperWalls$Street" "depth" "[I", .fieldLink RX6 11 "PaperWalls$Street" "layers" "[I"] ++ wsX60)
def wsX6_readPeople_r1 : List Cond := [Cond.fieldLink RX6 83 "PaperWalls$Text" "size" "I", Cond.fieldLink RX6 44 "PaperWalls$Street" "people" "I", Cond.fieldLink RX6 40 "PaperWalls$Street" "walls" "I", Cond.fieldLink RX6 18 "PaperWalls$Street" "kinds" "[I", Cond.fieldLink RX6 21 "PaperWalls$Street" "rooms" "[I", Cond.methodLink RX6 63 yX7_pastBlanks, Cond.instanceMethod yX7_pastBlanks, Cond.selects RX7 yX7_pastBlanks yX7_pastBlanks, Cond.initialized RX7, Cond.code yX7_pastBlanks cX7_pastBlanks 3 (some .int), Cond.fieldLink RX7 13 "PaperWalls$Text" "size" "I", Cond.methodLink RX7 21 yX7_sign, Cond.instanceMethod yX7_sign, Cond.selects RX7 yX7_sign yX7_sign, Cond.code yX7_sign cX7_sign 2 (some .int), Cond.fieldLink RX7 9 "PaperWalls$Text" "bytes" "[B", Cond.methodLink RX7 17 yX7_has, Cond.instanceMethod yX7_has, Cond.selects RX7 yX7_has yX7_has, Cond.code yX7_has cX7_has 2 (some .boolean), Cond.methodLink RX6 69 yX7_sign, Cond.methodLink RX6 86 yX2_byLetter, Cond.static yX2_byLetter, Cond.initialized RX2]
def wsX6_readPeople_r2 : List Cond := [Cond.code yX2_byLetter cX2_byLetter 2 (some .int), Cond.fieldLink RX2 18 "PaperWalls$Kinds" "LETTERS" "[I"]
def wsX6_readPeople : List Cond := .code yX6_readPeople cX6_readPeople 6 (some .int) :: ((wsX6_readPeople_r1 ++ wsX6_readPeople_r2) ++ wsX70 ++ wsX60)
def wsX6_readFrom_r1 : List Cond := [Cond.fieldLink RX6 40 "PaperWalls$Street" "walls" "I", Cond.fieldLink RX6 44 "PaperWalls$Street" "people" "I", Cond.fieldLink RX6 47 "PaperWalls$Street" "talks" "I", Cond.fieldLink RX6 36 "PaperWalls$Street" "hours" "LPaperWalls$Hours;", Cond.fieldLink RX6 11 "PaperWalls$Street" "layers" "[I", Cond.methodLink RX6 60 yX1_begin, Cond.instanceMethod yX1_begin, Cond.selects RX1 yX1_begin yX1_begin, Cond.initialized RX1, Cond.code yX1_begin cX1_begin 1 none, Cond.fieldLink RX1 23 "PaperWalls$Hours" "known" "J", Cond.fieldLink RX1 27 "PaperWalls$Hours" "size" "I", Cond.methodLink RX6 63 yX7_pastBlanks, Cond.instanceMethod yX7_pastBlanks, Cond.selects RX7 yX7_pastBlanks yX7_pastBlanks, Cond.initialized RX7, Cond.code yX7_pastBlanks cX7_pastBlanks 3 (some .int), Cond.fieldLink RX7 13 "PaperWalls$Text" "size" "I", Cond.methodLink RX7 21 yX7_sign, Cond.instanceMethod yX7_sign, Cond.selects RX7 yX7_sign yX7_sign, Cond.code yX7_sign cX7_sign 2 (some .int), Cond.fieldLink RX7 9 "PaperWalls$Text" "bytes" "[B", Cond.methodLink RX7 17 yX7_has]
def wsX6_readFrom_r2 : List Cond := [Cond.instanceMethod yX7_has, Cond.selects RX7 yX7_has yX7_has, Cond.code yX7_has cX7_has 2 (some .boolean), Cond.methodLink RX6 69 yX7_sign, Cond.methodLink RX6 72 yX7_isFigure, Cond.instanceMethod yX7_isFigure, Cond.selects RX7 yX7_isFigure yX7_isFigure, Cond.code yX7_isFigure cX7_isFigure 2 (some .boolean), Cond.methodLink RX6 76 yX6_measure, Cond.instanceMethod yX6_measure, Cond.selects RX6 yX6_measure yX6_measure, Cond.initialized RX6, Cond.code yX6_measure cX6_measure 2 none, Cond.fieldLink RX6 15 "PaperWalls$Street" "depth" "[I", Cond.methodLink RX6 79 yX6_readPeople, Cond.instanceMethod yX6_readPeople, Cond.selects RX6 yX6_readPeople yX6_readPeople, Cond.code yX6_readPeople cX6_readPeople 6 (some .int), Cond.fieldLink RX6 83 "PaperWalls$Text" "size" "I", Cond.fieldLink RX6 18 "PaperWalls$Street" "kinds" "[I", Cond.fieldLink RX6 21 "PaperWalls$Street" "rooms" "[I", Cond.methodLink RX6 86 yX2_byLetter, Cond.static yX2_byLetter, Cond.initialized RX2]
def wsX6_readFrom_r3 : List Cond := [Cond.code yX2_byLetter cX2_byLetter 2 (some .int), Cond.fieldLink RX2 18 "PaperWalls$Kinds" "LETTERS" "[I"]
def wsX6_readFrom : List Cond := .code yX6_readFrom cX6_readFrom 3 (some .int) :: ((wsX6_readFrom_r1 ++ (wsX6_readFrom_r2 ++ wsX6_readFrom_r3)) ++ wsX60 ++ wsX10 ++ wsX70)
def wsX6_howManyOf : List Cond := .code yX6_howManyOf cX6_howManyOf 4 (some .int) :: ([.fieldLink RX6 44 "PaperWalls$Street" "people" "I", .fieldLink RX6 18 "PaperWalls$Street" "kinds" "[I", .methodLink RX6 100 yX2_isOf, .static yX2_isOf, .initialized RX2, .code yX2_isOf cX2_isOf 2 (some .boolean), .fieldLink RX2 9 "PaperWalls$Kinds" "WIDER" "[I"] ++ wsX60)
def wsX6_isHeardBy : List Cond := .code yX6_isHeardBy cX6_isHeardBy 3 (some .boolean) :: ([.fieldLink RX6 18 "PaperWalls$Street" "kinds" "[I", .fieldLink RX6 21 "PaperWalls$Street" "rooms" "[I", .methodLink RX6 117 yX6_comesTo, .instanceMethod yX6_comesTo, .selects RX6 yX6_comesTo yX6_comesTo, .initialized RX6, .code yX6_comesTo cX6_comesTo 3 (some .int), .fieldLink RX6 91 "PaperWalls$Kinds" "SPEAKS" "[I", .fieldLink RX6 15 "PaperWalls$Street" "depth" "[I", .methodLink RX6 104 Lib.Math.abs.name, .static Lib.Math.abs.name, .initialized "java/lang/Math", .code Lib.Math.abs.name Lib.Math.abs.code 1 (some .int), .methodLink RX6 120 yX2_isEnough, .static yX2_isEnough, .initialized RX2, .code yX2_isEnough cX2_isEnough 4 (some .boolean), .fieldLink RX2 15 "PaperWalls$Kinds" "LEAST" "[I"] ++ wsX60)
def wsX6_whoHear_r1 : List Cond := [Cond.methodLink RX6 124 yX6_everyone, Cond.instanceMethod yX6_everyone, Cond.selects RX6 yX6_everyone yX6_everyone, Cond.initialized RX6, Cond.code yX6_everyone cX6_everyone 1 (some .int), Cond.fieldLink RX6 44 "PaperWalls$Street" "people" "I", Cond.methodLink RX6 128 yX6_whoHearOf, Cond.instanceMethod yX6_whoHearOf, Cond.selects RX6 yX6_whoHearOf yX6_whoHearOf, Cond.code yX6_whoHearOf cX6_whoHearOf 10 (some .int), Cond.fieldLink RX6 21 "PaperWalls$Street" "rooms" "[I", Cond.fieldLink RX6 94 "PaperWalls$Kinds" "SINGS" "[I", Cond.fieldLink RX6 91 "PaperWalls$Kinds" "SPEAKS" "[I", Cond.methodLink RX6 113 Lib.Math.max.name, Cond.static Lib.Math.max.name, Cond.initialized "java/lang/Math", Cond.code Lib.Math.max.name Lib.Math.max.code 2 (some .int), Cond.fieldLink RX6 18 "PaperWalls$Street" "kinds" "[I", Cond.methodLink RX6 109 yX6_loudestIn, Cond.instanceMethod yX6_loudestIn, Cond.selects RX6 yX6_loudestIn yX6_loudestIn, Cond.code yX6_loudestIn cX6_loudestIn 7 (some .int), Cond.fieldLink RX6 15 "PaperWalls$Street" "depth" "[I", Cond.methodLink RX6 104 Lib.Math.abs.name]
def wsX6_whoHear_r2 : List Cond := [Cond.static Lib.Math.abs.name, Cond.code Lib.Math.abs.name Lib.Math.abs.code 1 (some .int), Cond.methodLink RX6 117 yX6_comesTo, Cond.instanceMethod yX6_comesTo, Cond.selects RX6 yX6_comesTo yX6_comesTo, Cond.code yX6_comesTo cX6_comesTo 3 (some .int), Cond.methodLink RX6 120 yX2_isEnough, Cond.static yX2_isEnough, Cond.initialized RX2, Cond.code yX2_isEnough cX2_isEnough 4 (some .boolean), Cond.fieldLink RX2 15 "PaperWalls$Kinds" "LEAST" "[I"]
def wsX6_whoHear : List Cond := .code yX6_whoHear cX6_whoHear 3 (some .int) :: ((wsX6_whoHear_r1 ++ wsX6_whoHear_r2) ++ wsX60)
def wsX6_circleOf_r1 : List Cond := [Cond.methodLink RX6 132 yX6_whoHear, Cond.instanceMethod yX6_whoHear, Cond.selects RX6 yX6_whoHear yX6_whoHear, Cond.initialized RX6, Cond.code yX6_whoHear cX6_whoHear 3 (some .int), Cond.methodLink RX6 124 yX6_everyone, Cond.instanceMethod yX6_everyone, Cond.selects RX6 yX6_everyone yX6_everyone, Cond.code yX6_everyone cX6_everyone 1 (some .int), Cond.fieldLink RX6 44 "PaperWalls$Street" "people" "I", Cond.methodLink RX6 128 yX6_whoHearOf, Cond.instanceMethod yX6_whoHearOf, Cond.selects RX6 yX6_whoHearOf yX6_whoHearOf, Cond.code yX6_whoHearOf cX6_whoHearOf 10 (some .int), Cond.fieldLink RX6 21 "PaperWalls$Street" "rooms" "[I", Cond.fieldLink RX6 94 "PaperWalls$Kinds" "SINGS" "[I", Cond.fieldLink RX6 91 "PaperWalls$Kinds" "SPEAKS" "[I", Cond.methodLink RX6 113 Lib.Math.max.name, Cond.static Lib.Math.max.name, Cond.initialized "java/lang/Math", Cond.code Lib.Math.max.name Lib.Math.max.code 2 (some .int), Cond.fieldLink RX6 18 "PaperWalls$Street" "kinds" "[I", Cond.methodLink RX6 109 yX6_loudestIn, Cond.instanceMethod yX6_loudestIn]
def wsX6_circleOf_r2 : List Cond := [Cond.selects RX6 yX6_loudestIn yX6_loudestIn, Cond.code yX6_loudestIn cX6_loudestIn 7 (some .int), Cond.fieldLink RX6 15 "PaperWalls$Street" "depth" "[I", Cond.methodLink RX6 104 Lib.Math.abs.name, Cond.static Lib.Math.abs.name, Cond.code Lib.Math.abs.name Lib.Math.abs.code 1 (some .int), Cond.methodLink RX6 117 yX6_comesTo, Cond.instanceMethod yX6_comesTo, Cond.selects RX6 yX6_comesTo yX6_comesTo, Cond.code yX6_comesTo cX6_comesTo 3 (some .int), Cond.methodLink RX6 120 yX2_isEnough, Cond.static yX2_isEnough, Cond.initialized RX2, Cond.code yX2_isEnough cX2_isEnough 4 (some .boolean), Cond.fieldLink RX2 15 "PaperWalls$Kinds" "LEAST" "[I"]
def wsX6_circleOf : List Cond := .code yX6_circleOf cX6_circleOf 2 (some .int) :: ((wsX6_circleOf_r1 ++ wsX6_circleOf_r2) ++ wsX60)
def wsX6_heardPairs_r1 : List Cond := [Cond.fieldLink RX6 44 "PaperWalls$Street" "people" "I", Cond.methodLink RX6 132 yX6_whoHear, Cond.instanceMethod yX6_whoHear, Cond.selects RX6 yX6_whoHear yX6_whoHear, Cond.initialized RX6, Cond.code yX6_whoHear cX6_whoHear 3 (some .int), Cond.methodLink RX6 124 yX6_everyone, Cond.instanceMethod yX6_everyone, Cond.selects RX6 yX6_everyone yX6_everyone, Cond.code yX6_everyone cX6_everyone 1 (some .int), Cond.methodLink RX6 128 yX6_whoHearOf, Cond.instanceMethod yX6_whoHearOf, Cond.selects RX6 yX6_whoHearOf yX6_whoHearOf, Cond.code yX6_whoHearOf cX6_whoHearOf 10 (some .int), Cond.fieldLink RX6 21 "PaperWalls$Street" "rooms" "[I", Cond.fieldLink RX6 94 "PaperWalls$Kinds" "SINGS" "[I", Cond.fieldLink RX6 91 "PaperWalls$Kinds" "SPEAKS" "[I", Cond.methodLink RX6 113 Lib.Math.max.name, Cond.static Lib.Math.max.name, Cond.initialized "java/lang/Math", Cond.code Lib.Math.max.name Lib.Math.max.code 2 (some .int), Cond.fieldLink RX6 18 "PaperWalls$Street" "kinds" "[I", Cond.methodLink RX6 109 yX6_loudestIn, Cond.instanceMethod yX6_loudestIn]
def wsX6_heardPairs_r2 : List Cond := [Cond.selects RX6 yX6_loudestIn yX6_loudestIn, Cond.code yX6_loudestIn cX6_loudestIn 7 (some .int), Cond.fieldLink RX6 15 "PaperWalls$Street" "depth" "[I", Cond.methodLink RX6 104 Lib.Math.abs.name, Cond.static Lib.Math.abs.name, Cond.code Lib.Math.abs.name Lib.Math.abs.code 1 (some .int), Cond.methodLink RX6 117 yX6_comesTo, Cond.instanceMethod yX6_comesTo, Cond.selects RX6 yX6_comesTo yX6_comesTo, Cond.code yX6_comesTo cX6_comesTo 3 (some .int), Cond.methodLink RX6 120 yX2_isEnough, Cond.static yX2_isEnough, Cond.initialized RX2, Cond.code yX2_isEnough cX2_isEnough 4 (some .boolean), Cond.fieldLink RX2 15 "PaperWalls$Kinds" "LEAST" "[I", Cond.methodLink RX6 135 yJ6_bitCount_0f7a4, Cond.static yJ6_bitCount_0f7a4, Cond.initialized RJ6, Cond.code yJ6_bitCount_0f7a4 cJ6_bitCount_0f7a4 1 (some .int), Cond.constant RJ6 265 (1431655765), Cond.constant RJ6 266 (858993459), Cond.constant RJ6 267 (252645135)]
def wsX6_heardPairs : List Cond := .code yX6_heardPairs cX6_heardPairs 3 (some .int) :: ((wsX6_heardPairs_r1 ++ wsX6_heardPairs_r2) ++ wsX60)
def wsX6_pairs : List Cond := .code yX6_pairs cX6_pairs 1 (some .int) :: ([.fieldLink RX6 44 "PaperWalls$Street" "people" "I", .methodLink RX6 113 Lib.Math.max.name, .static Lib.Math.max.name, .initialized "java/lang/Math", .code Lib.Math.max.name Lib.Math.max.code 2 (some .int)] ++ wsX60)
def wsX6_addTalk : List Cond := .code yX6_addTalk cX6_addTalk 4 (some .int) :: ([.fieldLink RX6 24 "PaperWalls$Street" "speaker" "[I", .fieldLink RX6 47 "PaperWalls$Street" "talks" "I", .fieldLink RX6 27 "PaperWalls$Street" "hearer" "[I", .fieldLink RX6 30 "PaperWalls$Street" "barred" "[I"] ++ wsX60)
def wsX6_isSafe_r1 : List Cond := [Cond.methodLink RX6 140 yX6_bothOf, Cond.instanceMethod yX6_bothOf, Cond.selects RX6 yX6_bothOf yX6_bothOf, Cond.initialized RX6, Cond.code yX6_bothOf cX6_bothOf 2 (some .int), Cond.fieldLink RX6 24 "PaperWalls$Street" "speaker" "[I", Cond.fieldLink RX6 27 "PaperWalls$Street" "hearer" "[I", Cond.methodLink RX6 124 yX6_everyone, Cond.instanceMethod yX6_everyone, Cond.selects RX6 yX6_everyone yX6_everyone, Cond.code yX6_everyone cX6_everyone 1 (some .int), Cond.fieldLink RX6 44 "PaperWalls$Street" "people" "I", Cond.methodLink RX6 143 yX6_isHeardRightly, Cond.instanceMethod yX6_isHeardRightly, Cond.selects RX6 yX6_isHeardRightly yX6_isHeardRightly, Cond.code yX6_isHeardRightly cX6_isHeardRightly 6 (some .boolean), Cond.fieldLink RX6 30 "PaperWalls$Street" "barred" "[I", Cond.methodLink RX6 128 yX6_whoHearOf, Cond.instanceMethod yX6_whoHearOf, Cond.selects RX6 yX6_whoHearOf yX6_whoHearOf, Cond.code yX6_whoHearOf cX6_whoHearOf 10 (some .int), Cond.fieldLink RX6 21 "PaperWalls$Street" "rooms" "[I", Cond.fieldLink RX6 94 "PaperWalls$Kinds" "SINGS" "[I", Cond.fieldLink RX6 91 "PaperWalls$Kinds" "SPEAKS" "[I"]
def wsX6_isSafe_r2 : List Cond := [Cond.methodLink RX6 113 Lib.Math.max.name, Cond.static Lib.Math.max.name, Cond.initialized "java/lang/Math", Cond.code Lib.Math.max.name Lib.Math.max.code 2 (some .int), Cond.fieldLink RX6 18 "PaperWalls$Street" "kinds" "[I", Cond.methodLink RX6 109 yX6_loudestIn, Cond.instanceMethod yX6_loudestIn, Cond.selects RX6 yX6_loudestIn yX6_loudestIn, Cond.code yX6_loudestIn cX6_loudestIn 7 (some .int), Cond.fieldLink RX6 15 "PaperWalls$Street" "depth" "[I", Cond.methodLink RX6 104 Lib.Math.abs.name, Cond.static Lib.Math.abs.name, Cond.code Lib.Math.abs.name Lib.Math.abs.code 1 (some .int), Cond.methodLink RX6 117 yX6_comesTo, Cond.instanceMethod yX6_comesTo, Cond.selects RX6 yX6_comesTo yX6_comesTo, Cond.code yX6_comesTo cX6_comesTo 3 (some .int), Cond.methodLink RX6 120 yX2_isEnough, Cond.static yX2_isEnough, Cond.initialized RX2, Cond.code yX2_isEnough cX2_isEnough 4 (some .boolean), Cond.fieldLink RX2 15 "PaperWalls$Kinds" "LEAST" "[I"]
def wsX6_isSafe : List Cond := .code yX6_isSafe cX6_isSafe 3 (some .boolean) :: ((wsX6_isSafe_r1 ++ wsX6_isSafe_r2) ++ wsX60)
def wsX7_init : List Cond := .code yX7_init cX7_init 1 none :: ([.methodLink RX7 1 objectInit, .instanceMethod objectInit, .code objectInit ⟨#[0xb1]⟩ 1 none, .arrayClass .byte, .fieldLink RX7 9 "PaperWalls$Text" "bytes" "[B", .fieldLink RX7 13 "PaperWalls$Text" "size" "I"] ++ wsX70)
def wsX7_isMissing : List Cond := .code yX7_isMissing cX7_isMissing 1 (some .boolean) :: ([.fieldLink RX7 13 "PaperWalls$Text" "size" "I"] ++ wsX70)
def wsX7_begin : List Cond := .code yX7_begin cX7_begin 3 none :: ([.fieldLink RX7 13 "PaperWalls$Text" "size" "I", .fieldLink RX7 9 "PaperWalls$Text" "bytes" "[B"] ++ wsX70)
def wsX8_init_r1 : List Cond := [Cond.methodLink RX8 1 objectInit, Cond.instanceMethod objectInit, Cond.code objectInit ⟨#[0xb1]⟩ 1 none, Cond.classLink RX8 9 RX4, Cond.fieldLink RX8 11 "PaperWalls" "rows" "[LPaperWalls$Row;", Cond.classLink RX8 15 RX7, Cond.fieldLink RX8 17 "PaperWalls" "texts" "[LPaperWalls$Text;", Cond.classLink RX8 21 RX6, Cond.instantiable RX6 11, Cond.initialized RX6, Cond.fieldLink RX8 24 "PaperWalls" "now" "LPaperWalls$Street;", Cond.fieldLink RX8 28 "PaperWalls" "trial" "LPaperWalls$Street;", Cond.fieldLink RX8 31 "PaperWalls" "places" "[LPaperWalls$Street;", Cond.arrayClass .boolean, Cond.fieldLink RX8 35 "PaperWalls" "isKept" "[Z", Cond.classLink RX8 39 RX3, Cond.instantiable RX3 2, Cond.initialized RX3, Cond.fieldLink RX8 42 "PaperWalls" "plan" "LPaperWalls$Plan;", Cond.classLink RX8 46 RX0, Cond.instantiable RX0 3, Cond.initialized RX0, Cond.fieldLink RX8 49 "PaperWalls" "change" "LPaperWalls$Change;", Cond.classLink RX8 53 RX5]
def wsX8_init_r2 : List Cond := [Cond.instantiable RX5 2, Cond.initialized RX5, Cond.fieldLink RX8 56 "PaperWalls" "shares" "LPaperWalls$Shares;", Cond.arrayClass .int, Cond.fieldLink RX8 60 "PaperWalls" "tally" "[I", Cond.instantiable RX4 2, Cond.initialized RX4, Cond.instantiable RX7 2, Cond.initialized RX7, Cond.methodLink RX8 23 yX6_init, Cond.instanceMethod yX6_init, Cond.code yX6_init cX6_init 1 none, Cond.methodLink RX6 3 objectInit, Cond.fieldLink RX6 11 "PaperWalls$Street" "layers" "[I", Cond.fieldLink RX6 15 "PaperWalls$Street" "depth" "[I", Cond.fieldLink RX6 18 "PaperWalls$Street" "kinds" "[I", Cond.fieldLink RX6 21 "PaperWalls$Street" "rooms" "[I", Cond.fieldLink RX6 24 "PaperWalls$Street" "speaker" "[I", Cond.fieldLink RX6 27 "PaperWalls$Street" "hearer" "[I", Cond.fieldLink RX6 30 "PaperWalls$Street" "barred" "[I", Cond.classLink RX6 33 RX1, Cond.instantiable RX1 6, Cond.initialized RX1, Cond.fieldLink RX6 36 "PaperWalls$Street" "hours" "LPaperWalls$Hours;"]
def wsX8_init_r3 : List Cond := [Cond.methodLink RX6 35 yX1_init, Cond.instanceMethod yX1_init, Cond.code yX1_init cX1_init 1 none, Cond.methodLink RX1 1 objectInit, Cond.fieldLink RX1 9 "PaperWalls$Hours" "tellers" "[I", Cond.fieldLink RX1 13 "PaperWalls$Hours" "things" "[I", Cond.fieldLink RX1 16 "PaperWalls$Hours" "heardBy" "[I", Cond.arrayClass .long, Cond.fieldLink RX1 19 "PaperWalls$Hours" "ahead" "[J", Cond.methodLink RX8 41 yX3_init, Cond.instanceMethod yX3_init, Cond.code yX3_init cX3_init 1 none, Cond.methodLink RX3 5 objectInit, Cond.fieldLink RX3 13 "PaperWalls$Plan" "together" "[Z", Cond.fieldLink RX3 17 "PaperWalls$Plan" "fewest" "[I", Cond.methodLink RX8 48 yX0_init, Cond.instanceMethod yX0_init, Cond.code yX0_init cX0_init 1 none, Cond.methodLink RX0 3 objectInit, Cond.fieldLink RX0 11 "PaperWalls$Change" "whose" "[I", Cond.fieldLink RX0 17 "PaperWalls$Change" "best" "[I", Cond.methodLink RX8 55 yX5_init, Cond.instanceMethod yX5_init, Cond.code yX5_init cX5_init 1 none]
def wsX8_init_r4 : List Cond := [Cond.methodLink RX5 1 objectInit, Cond.fieldLink RX5 9 "PaperWalls$Shares" "of" "[I", Cond.methodLink RX8 64 yX4_init, Cond.instanceMethod yX4_init, Cond.code yX4_init cX4_init 1 none, Cond.methodLink RX4 1 objectInit, Cond.fieldLink RX4 9 "PaperWalls$Row" "ints" "[I", Cond.fieldLink RX4 13 "PaperWalls$Row" "size" "I", Cond.methodLink RX8 65 yX7_init, Cond.instanceMethod yX7_init, Cond.code yX7_init cX7_init 1 none, Cond.methodLink RX7 1 objectInit, Cond.arrayClass .byte, Cond.fieldLink RX7 9 "PaperWalls$Text" "bytes" "[B", Cond.fieldLink RX7 13 "PaperWalls$Text" "size" "I"]
def wsX8_init : List Cond := .code yX8_init cX8_init 2 none :: ((wsX8_init_r1 ++ (wsX8_init_r2 ++ (wsX8_init_r3 ++ wsX8_init_r4))) ++ wsX80 ++ wsX60 ++ wsX30 ++ wsX00 ++ wsX50 ++ wsX40 ++ wsX70 ++ wsX10)
def wsX8_isRow : List Cond := .code yX8_isRow cX8_isRow 1 (some .boolean) :: ([])
def wsX8_find : List Cond := .code yX8_find cX8_find 2 (some .int) :: ([.fieldLink RX8 340 "PaperWalls" "latest" "I", .fieldLink RX8 60 "PaperWalls" "tally" "[I"] ++ wsX80)
def wsX8_at : List Cond := .code yX8_at cX8_at 4 (some .int) :: ([.fieldLink RX8 11 "PaperWalls" "rows" "[LPaperWalls$Row;", .fieldLink RX8 82 "PaperWalls$Row" "ints" "[I", .fieldLink RX8 92 "PaperWalls" "told" "I", .methodLink RX8 66 yX8_isRow, .static yX8_isRow, .initialized RX8, .code yX8_isRow cX8_isRow 1 (some .boolean), .methodLink RX8 85 yX4_isMissing, .instanceMethod yX4_isMissing, .selects RX4 yX4_isMissing yX4_isMissing, .initialized RX4, .code yX4_isMissing cX4_isMissing 1 (some .boolean), .fieldLink RX4 13 "PaperWalls$Row" "size" "I", .methodLink RX8 70 yX8_find, .instanceMethod yX8_find, .selects RX8 yX8_find yX8_find, .code yX8_find cX8_find 2 (some .int), .fieldLink RX8 340 "PaperWalls" "latest" "I", .fieldLink RX8 60 "PaperWalls" "tally" "[I", .methodLink RX8 89 yX4_has, .instanceMethod yX4_has, .selects RX4 yX4_has yX4_has, .code yX4_has cX4_has 2 (some .boolean)] ++ wsX80 ++ wsX40)
def wsX8_isText : List Cond := .code yX8_isText cX8_isText 1 (some .boolean) :: ([])
def wsX8_text : List Cond := .code yX8_text cX8_text 3 (some .int) :: ([.fieldLink RX8 17 "PaperWalls" "texts" "[LPaperWalls$Text;", .methodLink RX8 113 yX8_isText, .static yX8_isText, .initialized RX8, .code yX8_isText cX8_isText 1 (some .boolean), .methodLink RX8 70 yX8_find, .instanceMethod yX8_find, .selects RX8 yX8_find yX8_find, .code yX8_find cX8_find 2 (some .int), .fieldLink RX8 340 "PaperWalls" "latest" "I", .fieldLink RX8 60 "PaperWalls" "tally" "[I", .methodLink RX8 116 yX7_begin, .instanceMethod yX7_begin, .selects RX7 yX7_begin yX7_begin, .initialized RX7, .code yX7_begin cX7_begin 3 none, .fieldLink RX7 13 "PaperWalls$Text" "size" "I", .fieldLink RX7 9 "PaperWalls$Text" "bytes" "[B"] ++ wsX80 ++ wsX70)
def wsX8_put : List Cond := .code yX8_put cX8_put 6 (some .int) :: ([.fieldLink RX8 17 "PaperWalls" "texts" "[LPaperWalls$Text;", .fieldLink RX8 119 "PaperWalls$Text" "bytes" "[B", .methodLink RX8 113 yX8_isText, .static yX8_isText, .initialized RX8, .code yX8_isText cX8_isText 1 (some .boolean), .methodLink RX8 117 yX7_isMissing, .instanceMethod yX7_isMissing, .selects RX7 yX7_isMissing yX7_isMissing, .initialized RX7, .code yX7_isMissing cX7_isMissing 1 (some .boolean), .fieldLink RX7 13 "PaperWalls$Text" "size" "I", .methodLink RX8 70 yX8_find, .instanceMethod yX8_find, .selects RX8 yX8_find yX8_find, .code yX8_find cX8_find 2 (some .int), .fieldLink RX8 340 "PaperWalls" "latest" "I", .fieldLink RX8 60 "PaperWalls" "tally" "[I", .methodLink RX8 118 yX7_has, .instanceMethod yX7_has, .selects RX7 yX7_has yX7_has, .code yX7_has cX7_has 2 (some .boolean)] ++ wsX80 ++ wsX70)
def wsX8_fault_r1 : List Cond := [Cond.fieldLink RX8 17 "PaperWalls" "texts" "[LPaperWalls$Text;", Cond.fieldLink RX8 28 "PaperWalls" "trial" "LPaperWalls$Street;", Cond.methodLink RX8 113 yX8_isText, Cond.static yX8_isText, Cond.initialized RX8, Cond.code yX8_isText cX8_isText 1 (some .boolean), Cond.methodLink RX8 117 yX7_isMissing, Cond.instanceMethod yX7_isMissing, Cond.selects RX7 yX7_isMissing yX7_isMissing, Cond.initialized RX7, Cond.code yX7_isMissing cX7_isMissing 1 (some .boolean), Cond.fieldLink RX7 13 "PaperWalls$Text" "size" "I", Cond.methodLink RX8 70 yX8_find, Cond.instanceMethod yX8_find, Cond.selects RX8 yX8_find yX8_find, Cond.code yX8_find cX8_find 2 (some .int), Cond.fieldLink RX8 340 "PaperWalls" "latest" "I", Cond.fieldLink RX8 60 "PaperWalls" "tally" "[I", Cond.methodLink RX8 123 yX6_readFrom, Cond.instanceMethod yX6_readFrom, Cond.selects RX6 yX6_readFrom yX6_readFrom, Cond.initialized RX6, Cond.code yX6_readFrom cX6_readFrom 3 (some .int), Cond.fieldLink RX6 40 "PaperWalls$Street" "walls" "I"]
def wsX8_fault_r2 : List Cond := [Cond.fieldLink RX6 44 "PaperWalls$Street" "people" "I", Cond.fieldLink RX6 47 "PaperWalls$Street" "talks" "I", Cond.fieldLink RX6 36 "PaperWalls$Street" "hours" "LPaperWalls$Hours;", Cond.fieldLink RX6 11 "PaperWalls$Street" "layers" "[I", Cond.methodLink RX6 60 yX1_begin, Cond.instanceMethod yX1_begin, Cond.selects RX1 yX1_begin yX1_begin, Cond.initialized RX1, Cond.code yX1_begin cX1_begin 1 none, Cond.fieldLink RX1 23 "PaperWalls$Hours" "known" "J", Cond.fieldLink RX1 27 "PaperWalls$Hours" "size" "I", Cond.methodLink RX6 63 yX7_pastBlanks, Cond.instanceMethod yX7_pastBlanks, Cond.selects RX7 yX7_pastBlanks yX7_pastBlanks, Cond.code yX7_pastBlanks cX7_pastBlanks 3 (some .int), Cond.methodLink RX7 21 yX7_sign, Cond.instanceMethod yX7_sign, Cond.selects RX7 yX7_sign yX7_sign, Cond.code yX7_sign cX7_sign 2 (some .int), Cond.fieldLink RX7 9 "PaperWalls$Text" "bytes" "[B", Cond.methodLink RX7 17 yX7_has, Cond.instanceMethod yX7_has, Cond.selects RX7 yX7_has yX7_has, Cond.code yX7_has cX7_has 2 (some .boolean)]
def wsX8_fault_r3 : List Cond := [Cond.methodLink RX6 69 yX7_sign, Cond.methodLink RX6 72 yX7_isFigure, Cond.instanceMethod yX7_isFigure, Cond.selects RX7 yX7_isFigure yX7_isFigure, Cond.code yX7_isFigure cX7_isFigure 2 (some .boolean), Cond.methodLink RX6 76 yX6_measure, Cond.instanceMethod yX6_measure, Cond.selects RX6 yX6_measure yX6_measure, Cond.code yX6_measure cX6_measure 2 none, Cond.fieldLink RX6 15 "PaperWalls$Street" "depth" "[I", Cond.methodLink RX6 79 yX6_readPeople, Cond.instanceMethod yX6_readPeople, Cond.selects RX6 yX6_readPeople yX6_readPeople, Cond.code yX6_readPeople cX6_readPeople 6 (some .int), Cond.fieldLink RX6 83 "PaperWalls$Text" "size" "I", Cond.fieldLink RX6 18 "PaperWalls$Street" "kinds" "[I", Cond.fieldLink RX6 21 "PaperWalls$Street" "rooms" "[I", Cond.methodLink RX6 86 yX2_byLetter, Cond.static yX2_byLetter, Cond.initialized RX2, Cond.code yX2_byLetter cX2_byLetter 2 (some .int), Cond.fieldLink RX2 18 "PaperWalls$Kinds" "LETTERS" "[I"]
def wsX8_fault : List Cond := .code yX8_fault cX8_fault 2 (some .int) :: ((wsX8_fault_r1 ++ (wsX8_fault_r2 ++ wsX8_fault_r3)) ++ wsX80 ++ wsX70 ++ wsX60 ++ wsX10)
def wsX8_street_r1 : List Cond := [Cond.fieldLink RX8 17 "PaperWalls" "texts" "[LPaperWalls$Text;", Cond.fieldLink RX8 28 "PaperWalls" "trial" "LPaperWalls$Street;", Cond.fieldLink RX8 24 "PaperWalls" "now" "LPaperWalls$Street;", Cond.fieldLink RX8 35 "PaperWalls" "isKept" "[Z", Cond.fieldLink RX8 131 "PaperWalls$Street" "people" "I", Cond.methodLink RX8 113 yX8_isText, Cond.static yX8_isText, Cond.initialized RX8, Cond.code yX8_isText cX8_isText 1 (some .boolean), Cond.methodLink RX8 117 yX7_isMissing, Cond.instanceMethod yX7_isMissing, Cond.selects RX7 yX7_isMissing yX7_isMissing, Cond.initialized RX7, Cond.code yX7_isMissing cX7_isMissing 1 (some .boolean), Cond.fieldLink RX7 13 "PaperWalls$Text" "size" "I", Cond.methodLink RX8 70 yX8_find, Cond.instanceMethod yX8_find, Cond.selects RX8 yX8_find yX8_find, Cond.code yX8_find cX8_find 2 (some .int), Cond.fieldLink RX8 340 "PaperWalls" "latest" "I", Cond.fieldLink RX8 60 "PaperWalls" "tally" "[I", Cond.methodLink RX8 123 yX6_readFrom, Cond.instanceMethod yX6_readFrom, Cond.selects RX6 yX6_readFrom yX6_readFrom]
def wsX8_street_r2 : List Cond := [Cond.initialized RX6, Cond.code yX6_readFrom cX6_readFrom 3 (some .int), Cond.fieldLink RX6 40 "PaperWalls$Street" "walls" "I", Cond.fieldLink RX6 44 "PaperWalls$Street" "people" "I", Cond.fieldLink RX6 47 "PaperWalls$Street" "talks" "I", Cond.fieldLink RX6 36 "PaperWalls$Street" "hours" "LPaperWalls$Hours;", Cond.fieldLink RX6 11 "PaperWalls$Street" "layers" "[I", Cond.methodLink RX6 60 yX1_begin, Cond.instanceMethod yX1_begin, Cond.selects RX1 yX1_begin yX1_begin, Cond.initialized RX1, Cond.code yX1_begin cX1_begin 1 none, Cond.fieldLink RX1 23 "PaperWalls$Hours" "known" "J", Cond.fieldLink RX1 27 "PaperWalls$Hours" "size" "I", Cond.methodLink RX6 63 yX7_pastBlanks, Cond.instanceMethod yX7_pastBlanks, Cond.selects RX7 yX7_pastBlanks yX7_pastBlanks, Cond.code yX7_pastBlanks cX7_pastBlanks 3 (some .int), Cond.methodLink RX7 21 yX7_sign, Cond.instanceMethod yX7_sign, Cond.selects RX7 yX7_sign yX7_sign, Cond.code yX7_sign cX7_sign 2 (some .int), Cond.fieldLink RX7 9 "PaperWalls$Text" "bytes" "[B", Cond.methodLink RX7 17 yX7_has]
def wsX8_street_r3 : List Cond := [Cond.instanceMethod yX7_has, Cond.selects RX7 yX7_has yX7_has, Cond.code yX7_has cX7_has 2 (some .boolean), Cond.methodLink RX6 69 yX7_sign, Cond.methodLink RX6 72 yX7_isFigure, Cond.instanceMethod yX7_isFigure, Cond.selects RX7 yX7_isFigure yX7_isFigure, Cond.code yX7_isFigure cX7_isFigure 2 (some .boolean), Cond.methodLink RX6 76 yX6_measure, Cond.instanceMethod yX6_measure, Cond.selects RX6 yX6_measure yX6_measure, Cond.code yX6_measure cX6_measure 2 none, Cond.fieldLink RX6 15 "PaperWalls$Street" "depth" "[I", Cond.methodLink RX6 79 yX6_readPeople, Cond.instanceMethod yX6_readPeople, Cond.selects RX6 yX6_readPeople yX6_readPeople, Cond.code yX6_readPeople cX6_readPeople 6 (some .int), Cond.fieldLink RX6 83 "PaperWalls$Text" "size" "I", Cond.fieldLink RX6 18 "PaperWalls$Street" "kinds" "[I", Cond.fieldLink RX6 21 "PaperWalls$Street" "rooms" "[I", Cond.methodLink RX6 86 yX2_byLetter, Cond.static yX2_byLetter, Cond.initialized RX2, Cond.code yX2_byLetter cX2_byLetter 2 (some .int)]
def wsX8_street_r4 : List Cond := [Cond.fieldLink RX2 18 "PaperWalls$Kinds" "LETTERS" "[I", Cond.methodLink RX8 127 yX6_become, Cond.instanceMethod yX6_become, Cond.selects RX6 yX6_become yX6_become, Cond.code yX6_become cX6_become 2 none, Cond.methodLink RX6 50 arraycopyName, Cond.native arraycopyName, Cond.static arraycopyName, Cond.initialized "java/lang/System", Cond.fieldLink RX6 24 "PaperWalls$Street" "speaker" "[I", Cond.fieldLink RX6 27 "PaperWalls$Street" "hearer" "[I", Cond.fieldLink RX6 30 "PaperWalls$Street" "barred" "[I", Cond.methodLink RX6 56 yX1_become, Cond.instanceMethod yX1_become, Cond.selects RX1 yX1_become yX1_become, Cond.code yX1_become cX1_become 2 none, Cond.fieldLink RX1 9 "PaperWalls$Hours" "tellers" "[I", Cond.methodLink RX1 31 arraycopyName, Cond.fieldLink RX1 13 "PaperWalls$Hours" "things" "[I", Cond.fieldLink RX1 16 "PaperWalls$Hours" "heardBy" "[I", Cond.fieldLink RX1 19 "PaperWalls$Hours" "ahead" "[J"]
def wsX8_street : List Cond := .code yX8_street cX8_street 3 (some .int) :: ((wsX8_street_r1 ++ (wsX8_street_r2 ++ (wsX8_street_r3 ++ wsX8_street_r4))) ++ wsX80 ++ wsX60 ++ wsX70 ++ wsX10)
def wsX8_wall : List Cond := .code yX8_wall cX8_wall 4 (some .int) :: ([.fieldLink RX8 24 "PaperWalls" "now" "LPaperWalls$Street;", .fieldLink RX8 165 "PaperWalls$Street" "walls" "I", .fieldLink RX8 168 "PaperWalls$Street" "layers" "[I", .methodLink RX8 171 yX6_measure, .instanceMethod yX6_measure, .selects RX6 yX6_measure yX6_measure, .initialized RX6, .code yX6_measure cX6_measure 2 none, .fieldLink RX6 40 "PaperWalls$Street" "walls" "I", .fieldLink RX6 15 "PaperWalls$Street" "depth" "[I", .fieldLink RX6 11 "PaperWalls$Street" "layers" "[I"] ++ wsX80 ++ wsX60)
def wsX8_isOne : List Cond := .code yX8_isOne cX8_isOne 2 (some .boolean) :: ([.fieldLink RX8 24 "PaperWalls" "now" "LPaperWalls$Street;", .fieldLink RX8 131 "PaperWalls$Street" "people" "I"] ++ wsX80 ++ wsX60)
def wsX8_areTwo : List Cond := .code yX8_areTwo cX8_areTwo 3 (some .boolean) :: ([.methodLink RX8 134 yX8_isOne, .instanceMethod yX8_isOne, .selects RX8 yX8_isOne yX8_isOne, .initialized RX8, .code yX8_isOne cX8_isOne 2 (some .boolean), .fieldLink RX8 24 "PaperWalls" "now" "LPaperWalls$Street;", .fieldLink RX8 131 "PaperWalls$Street" "people" "I"] ++ wsX80 ++ wsX60)
def wsX8_hears_r1 : List Cond := [Cond.fieldLink RX8 24 "PaperWalls" "now" "LPaperWalls$Street;", Cond.fieldLink RX8 177 "PaperWalls$Street" "rooms" "[I", Cond.fieldLink RX8 92 "PaperWalls" "told" "I", Cond.methodLink RX8 180 yX8_areTwo, Cond.instanceMethod yX8_areTwo, Cond.selects RX8 yX8_areTwo yX8_areTwo, Cond.initialized RX8, Cond.code yX8_areTwo cX8_areTwo 3 (some .boolean), Cond.methodLink RX8 134 yX8_isOne, Cond.instanceMethod yX8_isOne, Cond.selects RX8 yX8_isOne yX8_isOne, Cond.code yX8_isOne cX8_isOne 2 (some .boolean), Cond.fieldLink RX8 131 "PaperWalls$Street" "people" "I", Cond.methodLink RX8 183 yX6_comesTo, Cond.instanceMethod yX6_comesTo, Cond.selects RX6 yX6_comesTo yX6_comesTo, Cond.initialized RX6, Cond.code yX6_comesTo cX6_comesTo 3 (some .int), Cond.fieldLink RX6 91 "PaperWalls$Kinds" "SPEAKS" "[I", Cond.fieldLink RX6 18 "PaperWalls$Street" "kinds" "[I", Cond.fieldLink RX6 15 "PaperWalls$Street" "depth" "[I", Cond.fieldLink RX6 21 "PaperWalls$Street" "rooms" "[I", Cond.methodLink RX6 104 Lib.Math.abs.name, Cond.static Lib.Math.abs.name]
def wsX8_hears_r2 : List Cond := [Cond.initialized "java/lang/Math", Cond.code Lib.Math.abs.name Lib.Math.abs.code 1 (some .int), Cond.methodLink RX8 186 yX6_isHeardBy, Cond.instanceMethod yX6_isHeardBy, Cond.selects RX6 yX6_isHeardBy yX6_isHeardBy, Cond.code yX6_isHeardBy cX6_isHeardBy 3 (some .boolean), Cond.methodLink RX6 117 yX6_comesTo, Cond.methodLink RX6 120 yX2_isEnough, Cond.static yX2_isEnough, Cond.initialized RX2, Cond.code yX2_isEnough cX2_isEnough 4 (some .boolean), Cond.fieldLink RX2 15 "PaperWalls$Kinds" "LEAST" "[I"]
def wsX8_hears : List Cond := .code yX8_hears cX8_hears 3 (some .int) :: ((wsX8_hears_r1 ++ wsX8_hears_r2) ++ wsX80 ++ wsX60)
def wsX8_isSet : List Cond := .code yX8_isSet cX8_isSet 2 (some .boolean) :: ([.fieldLink RX8 24 "PaperWalls" "now" "LPaperWalls$Street;", .methodLink RX8 192 yX6_everyone, .instanceMethod yX6_everyone, .selects RX6 yX6_everyone yX6_everyone, .initialized RX6, .code yX6_everyone cX6_everyone 1 (some .int), .fieldLink RX6 44 "PaperWalls$Street" "people" "I"] ++ wsX80 ++ wsX60)
def wsX8_heard_r1 : List Cond := [Cond.fieldLink RX8 24 "PaperWalls" "now" "LPaperWalls$Street;", Cond.methodLink RX8 134 yX8_isOne, Cond.instanceMethod yX8_isOne, Cond.selects RX8 yX8_isOne yX8_isOne, Cond.initialized RX8, Cond.code yX8_isOne cX8_isOne 2 (some .boolean), Cond.fieldLink RX8 131 "PaperWalls$Street" "people" "I", Cond.methodLink RX8 189 yX8_isSet, Cond.instanceMethod yX8_isSet, Cond.selects RX8 yX8_isSet yX8_isSet, Cond.code yX8_isSet cX8_isSet 2 (some .boolean), Cond.methodLink RX8 192 yX6_everyone, Cond.instanceMethod yX6_everyone, Cond.selects RX6 yX6_everyone yX6_everyone, Cond.initialized RX6, Cond.code yX6_everyone cX6_everyone 1 (some .int), Cond.fieldLink RX6 44 "PaperWalls$Street" "people" "I", Cond.methodLink RX8 148 yX6_whoHear, Cond.instanceMethod yX6_whoHear, Cond.selects RX6 yX6_whoHear yX6_whoHear, Cond.code yX6_whoHear cX6_whoHear 3 (some .int), Cond.methodLink RX6 124 yX6_everyone, Cond.methodLink RX6 128 yX6_whoHearOf, Cond.instanceMethod yX6_whoHearOf]
def wsX8_heard_r2 : List Cond := [Cond.selects RX6 yX6_whoHearOf yX6_whoHearOf, Cond.code yX6_whoHearOf cX6_whoHearOf 10 (some .int), Cond.fieldLink RX6 21 "PaperWalls$Street" "rooms" "[I", Cond.fieldLink RX6 94 "PaperWalls$Kinds" "SINGS" "[I", Cond.fieldLink RX6 91 "PaperWalls$Kinds" "SPEAKS" "[I", Cond.methodLink RX6 113 Lib.Math.max.name, Cond.static Lib.Math.max.name, Cond.initialized "java/lang/Math", Cond.code Lib.Math.max.name Lib.Math.max.code 2 (some .int), Cond.fieldLink RX6 18 "PaperWalls$Street" "kinds" "[I", Cond.methodLink RX6 109 yX6_loudestIn, Cond.instanceMethod yX6_loudestIn, Cond.selects RX6 yX6_loudestIn yX6_loudestIn, Cond.code yX6_loudestIn cX6_loudestIn 7 (some .int), Cond.fieldLink RX6 15 "PaperWalls$Street" "depth" "[I", Cond.methodLink RX6 104 Lib.Math.abs.name, Cond.static Lib.Math.abs.name, Cond.code Lib.Math.abs.name Lib.Math.abs.code 1 (some .int), Cond.methodLink RX6 117 yX6_comesTo, Cond.instanceMethod yX6_comesTo, Cond.selects RX6 yX6_comesTo yX6_comesTo, Cond.code yX6_comesTo cX6_comesTo 3 (some .int), Cond.methodLink RX6 120 yX2_isEnough, Cond.static yX2_isEnough]
def wsX8_heard_r3 : List Cond := [Cond.initialized RX2, Cond.code yX2_isEnough cX2_isEnough 4 (some .boolean), Cond.fieldLink RX2 15 "PaperWalls$Kinds" "LEAST" "[I"]
def wsX8_heard : List Cond := .code yX8_heard cX8_heard 3 (some .int) :: ((wsX8_heard_r1 ++ (wsX8_heard_r2 ++ wsX8_heard_r3)) ++ wsX80 ++ wsX60)
def wsX8_isFewer : List Cond := .code yX8_isFewer cX8_isFewer 2 (some .boolean) :: ([.methodLink RX8 151 yJ6_bitCount_0f7a4, .static yJ6_bitCount_0f7a4, .initialized RJ6, .code yJ6_bitCount_0f7a4 cJ6_bitCount_0f7a4 1 (some .int), .constant RJ6 265 (1431655765), .constant RJ6 266 (858993459), .constant RJ6 267 (252645135)])
def wsX8_tellSet : List Cond := .code yX8_tellSet cX8_tellSet 2 (some .int) :: ([.fieldLink RX8 92 "PaperWalls" "told" "I", .methodLink RX8 151 yJ6_bitCount_0f7a4, .static yJ6_bitCount_0f7a4, .initialized RJ6, .code yJ6_bitCount_0f7a4 cJ6_bitCount_0f7a4 1 (some .int), .constant RJ6 265 (1431655765), .constant RJ6 266 (858993459), .constant RJ6 267 (252645135)] ++ wsX80)
def wsX8_hush_r1 : List Cond := [Cond.fieldLink RX8 24 "PaperWalls" "now" "LPaperWalls$Street;", Cond.methodLink RX8 134 yX8_isOne, Cond.instanceMethod yX8_isOne, Cond.selects RX8 yX8_isOne yX8_isOne, Cond.initialized RX8, Cond.code yX8_isOne cX8_isOne 2 (some .boolean), Cond.fieldLink RX8 131 "PaperWalls$Street" "people" "I", Cond.methodLink RX8 192 yX6_everyone, Cond.instanceMethod yX6_everyone, Cond.selects RX6 yX6_everyone yX6_everyone, Cond.initialized RX6, Cond.code yX6_everyone cX6_everyone 1 (some .int), Cond.fieldLink RX6 44 "PaperWalls$Street" "people" "I", Cond.methodLink RX8 196 yX8_isFewer, Cond.static yX8_isFewer, Cond.code yX8_isFewer cX8_isFewer 2 (some .boolean), Cond.methodLink RX8 151 yJ6_bitCount_0f7a4, Cond.static yJ6_bitCount_0f7a4, Cond.initialized RJ6, Cond.code yJ6_bitCount_0f7a4 cJ6_bitCount_0f7a4 1 (some .int), Cond.constant RJ6 265 (1431655765), Cond.constant RJ6 266 (858993459), Cond.constant RJ6 267 (252645135), Cond.methodLink RX8 148 yX6_whoHear]
def wsX8_hush_r2 : List Cond := [Cond.instanceMethod yX6_whoHear, Cond.selects RX6 yX6_whoHear yX6_whoHear, Cond.code yX6_whoHear cX6_whoHear 3 (some .int), Cond.methodLink RX6 124 yX6_everyone, Cond.methodLink RX6 128 yX6_whoHearOf, Cond.instanceMethod yX6_whoHearOf, Cond.selects RX6 yX6_whoHearOf yX6_whoHearOf, Cond.code yX6_whoHearOf cX6_whoHearOf 10 (some .int), Cond.fieldLink RX6 21 "PaperWalls$Street" "rooms" "[I", Cond.fieldLink RX6 94 "PaperWalls$Kinds" "SINGS" "[I", Cond.fieldLink RX6 91 "PaperWalls$Kinds" "SPEAKS" "[I", Cond.methodLink RX6 113 Lib.Math.max.name, Cond.static Lib.Math.max.name, Cond.initialized "java/lang/Math", Cond.code Lib.Math.max.name Lib.Math.max.code 2 (some .int), Cond.fieldLink RX6 18 "PaperWalls$Street" "kinds" "[I", Cond.methodLink RX6 109 yX6_loudestIn, Cond.instanceMethod yX6_loudestIn, Cond.selects RX6 yX6_loudestIn yX6_loudestIn, Cond.code yX6_loudestIn cX6_loudestIn 7 (some .int), Cond.fieldLink RX6 15 "PaperWalls$Street" "depth" "[I", Cond.methodLink RX6 104 Lib.Math.abs.name, Cond.static Lib.Math.abs.name, Cond.code Lib.Math.abs.name Lib.Math.abs.code 1 (some .int)]
def wsX8_hush_r3 : List Cond := [Cond.methodLink RX6 117 yX6_comesTo, Cond.instanceMethod yX6_comesTo, Cond.selects RX6 yX6_comesTo yX6_comesTo, Cond.code yX6_comesTo cX6_comesTo 3 (some .int), Cond.methodLink RX6 120 yX2_isEnough, Cond.static yX2_isEnough, Cond.initialized RX2, Cond.code yX2_isEnough cX2_isEnough 4 (some .boolean), Cond.fieldLink RX2 15 "PaperWalls$Kinds" "LEAST" "[I", Cond.methodLink RX8 199 yX8_tellSet, Cond.instanceMethod yX8_tellSet, Cond.selects RX8 yX8_tellSet yX8_tellSet, Cond.code yX8_tellSet cX8_tellSet 2 (some .int), Cond.fieldLink RX8 92 "PaperWalls" "told" "I"]
def wsX8_hush : List Cond := .code yX8_hush cX8_hush 4 (some .int) :: ((wsX8_hush_r1 ++ (wsX8_hush_r2 ++ wsX8_hush_r3)) ++ wsX80 ++ wsX60)
def wsX8_talk_r1 : List Cond := [Cond.fieldLink RX8 24 "PaperWalls" "now" "LPaperWalls$Street;", Cond.fieldLink RX8 202 "PaperWalls$Street" "talks" "I", Cond.methodLink RX8 180 yX8_areTwo, Cond.instanceMethod yX8_areTwo, Cond.selects RX8 yX8_areTwo yX8_areTwo, Cond.initialized RX8, Cond.code yX8_areTwo cX8_areTwo 3 (some .boolean), Cond.methodLink RX8 134 yX8_isOne, Cond.instanceMethod yX8_isOne, Cond.selects RX8 yX8_isOne yX8_isOne, Cond.code yX8_isOne cX8_isOne 2 (some .boolean), Cond.fieldLink RX8 131 "PaperWalls$Street" "people" "I", Cond.methodLink RX8 189 yX8_isSet, Cond.instanceMethod yX8_isSet, Cond.selects RX8 yX8_isSet yX8_isSet, Cond.code yX8_isSet cX8_isSet 2 (some .boolean), Cond.methodLink RX8 192 yX6_everyone, Cond.instanceMethod yX6_everyone, Cond.selects RX6 yX6_everyone yX6_everyone, Cond.initialized RX6, Cond.code yX6_everyone cX6_everyone 1 (some .int), Cond.fieldLink RX6 44 "PaperWalls$Street" "people" "I", Cond.methodLink RX8 205 yX6_addTalk, Cond.instanceMethod yX6_addTalk]
def wsX8_talk_r2 : List Cond := [Cond.selects RX6 yX6_addTalk yX6_addTalk, Cond.code yX6_addTalk cX6_addTalk 4 (some .int), Cond.fieldLink RX6 24 "PaperWalls$Street" "speaker" "[I", Cond.fieldLink RX6 47 "PaperWalls$Street" "talks" "I", Cond.fieldLink RX6 27 "PaperWalls$Street" "hearer" "[I", Cond.fieldLink RX6 30 "PaperWalls$Street" "barred" "[I"]
def wsX8_talk : List Cond := .code yX8_talk cX8_talk 4 (some .int) :: ((wsX8_talk_r1 ++ wsX8_talk_r2) ++ wsX80 ++ wsX60)
def wsX8_safe_r1 : List Cond := [Cond.fieldLink RX8 24 "PaperWalls" "now" "LPaperWalls$Street;", Cond.fieldLink RX8 202 "PaperWalls$Street" "talks" "I", Cond.fieldLink RX8 212 "PaperWalls$Street" "speaker" "[I", Cond.fieldLink RX8 215 "PaperWalls$Street" "barred" "[I", Cond.fieldLink RX8 92 "PaperWalls" "told" "I", Cond.methodLink RX8 189 yX8_isSet, Cond.instanceMethod yX8_isSet, Cond.selects RX8 yX8_isSet yX8_isSet, Cond.initialized RX8, Cond.code yX8_isSet cX8_isSet 2 (some .boolean), Cond.methodLink RX8 192 yX6_everyone, Cond.instanceMethod yX6_everyone, Cond.selects RX6 yX6_everyone yX6_everyone, Cond.initialized RX6, Cond.code yX6_everyone cX6_everyone 1 (some .int), Cond.fieldLink RX6 44 "PaperWalls$Street" "people" "I", Cond.methodLink RX8 70 yX8_find, Cond.instanceMethod yX8_find, Cond.selects RX8 yX8_find yX8_find, Cond.code yX8_find cX8_find 2 (some .int), Cond.fieldLink RX8 340 "PaperWalls" "latest" "I", Cond.fieldLink RX8 60 "PaperWalls" "tally" "[I", Cond.methodLink RX8 148 yX6_whoHear, Cond.instanceMethod yX6_whoHear]
def wsX8_safe_r2 : List Cond := [Cond.selects RX6 yX6_whoHear yX6_whoHear, Cond.code yX6_whoHear cX6_whoHear 3 (some .int), Cond.methodLink RX6 124 yX6_everyone, Cond.methodLink RX6 128 yX6_whoHearOf, Cond.instanceMethod yX6_whoHearOf, Cond.selects RX6 yX6_whoHearOf yX6_whoHearOf, Cond.code yX6_whoHearOf cX6_whoHearOf 10 (some .int), Cond.fieldLink RX6 21 "PaperWalls$Street" "rooms" "[I", Cond.fieldLink RX6 94 "PaperWalls$Kinds" "SINGS" "[I", Cond.fieldLink RX6 91 "PaperWalls$Kinds" "SPEAKS" "[I", Cond.methodLink RX6 113 Lib.Math.max.name, Cond.static Lib.Math.max.name, Cond.initialized "java/lang/Math", Cond.code Lib.Math.max.name Lib.Math.max.code 2 (some .int), Cond.fieldLink RX6 18 "PaperWalls$Street" "kinds" "[I", Cond.methodLink RX6 109 yX6_loudestIn, Cond.instanceMethod yX6_loudestIn, Cond.selects RX6 yX6_loudestIn yX6_loudestIn, Cond.code yX6_loudestIn cX6_loudestIn 7 (some .int), Cond.fieldLink RX6 15 "PaperWalls$Street" "depth" "[I", Cond.methodLink RX6 104 Lib.Math.abs.name, Cond.static Lib.Math.abs.name, Cond.code Lib.Math.abs.name Lib.Math.abs.code 1 (some .int), Cond.methodLink RX6 117 yX6_comesTo]
def wsX8_safe_r3 : List Cond := [Cond.instanceMethod yX6_comesTo, Cond.selects RX6 yX6_comesTo yX6_comesTo, Cond.code yX6_comesTo cX6_comesTo 3 (some .int), Cond.methodLink RX6 120 yX2_isEnough, Cond.static yX2_isEnough, Cond.initialized RX2, Cond.code yX2_isEnough cX2_isEnough 4 (some .boolean), Cond.fieldLink RX2 15 "PaperWalls$Kinds" "LEAST" "[I", Cond.methodLink RX8 218 yX6_isSafe, Cond.instanceMethod yX6_isSafe, Cond.selects RX6 yX6_isSafe yX6_isSafe, Cond.code yX6_isSafe cX6_isSafe 3 (some .boolean), Cond.methodLink RX6 140 yX6_bothOf, Cond.instanceMethod yX6_bothOf, Cond.selects RX6 yX6_bothOf yX6_bothOf, Cond.code yX6_bothOf cX6_bothOf 2 (some .int), Cond.fieldLink RX6 24 "PaperWalls$Street" "speaker" "[I", Cond.fieldLink RX6 27 "PaperWalls$Street" "hearer" "[I", Cond.methodLink RX6 143 yX6_isHeardRightly, Cond.instanceMethod yX6_isHeardRightly, Cond.selects RX6 yX6_isHeardRightly yX6_isHeardRightly, Cond.code yX6_isHeardRightly cX6_isHeardRightly 6 (some .boolean), Cond.fieldLink RX6 30 "PaperWalls$Street" "barred" "[I"]
def wsX8_safe : List Cond := .code yX8_safe cX8_safe 3 (some .int) :: ((wsX8_safe_r1 ++ (wsX8_safe_r2 ++ wsX8_safe_r3)) ++ wsX80 ++ wsX60)
def wsX8_cover_r1 : List Cond := [Cond.fieldLink RX8 24 "PaperWalls" "now" "LPaperWalls$Street;", Cond.fieldLink RX8 202 "PaperWalls$Street" "talks" "I", Cond.methodLink RX8 70 yX8_find, Cond.instanceMethod yX8_find, Cond.selects RX8 yX8_find yX8_find, Cond.initialized RX8, Cond.code yX8_find cX8_find 2 (some .int), Cond.fieldLink RX8 340 "PaperWalls" "latest" "I", Cond.fieldLink RX8 60 "PaperWalls" "tally" "[I", Cond.methodLink RX8 192 yX6_everyone, Cond.instanceMethod yX6_everyone, Cond.selects RX6 yX6_everyone yX6_everyone, Cond.initialized RX6, Cond.code yX6_everyone cX6_everyone 1 (some .int), Cond.fieldLink RX6 44 "PaperWalls$Street" "people" "I", Cond.methodLink RX8 196 yX8_isFewer, Cond.static yX8_isFewer, Cond.code yX8_isFewer cX8_isFewer 2 (some .boolean), Cond.methodLink RX8 151 yJ6_bitCount_0f7a4, Cond.static yJ6_bitCount_0f7a4, Cond.initialized RJ6, Cond.code yJ6_bitCount_0f7a4 cJ6_bitCount_0f7a4 1 (some .int), Cond.constant RJ6 265 (1431655765), Cond.constant RJ6 266 (858993459)]
def wsX8_cover_r2 : List Cond := [Cond.constant RJ6 267 (252645135), Cond.methodLink RX8 218 yX6_isSafe, Cond.instanceMethod yX6_isSafe, Cond.selects RX6 yX6_isSafe yX6_isSafe, Cond.code yX6_isSafe cX6_isSafe 3 (some .boolean), Cond.methodLink RX6 140 yX6_bothOf, Cond.instanceMethod yX6_bothOf, Cond.selects RX6 yX6_bothOf yX6_bothOf, Cond.code yX6_bothOf cX6_bothOf 2 (some .int), Cond.fieldLink RX6 24 "PaperWalls$Street" "speaker" "[I", Cond.fieldLink RX6 27 "PaperWalls$Street" "hearer" "[I", Cond.methodLink RX6 124 yX6_everyone, Cond.methodLink RX6 143 yX6_isHeardRightly, Cond.instanceMethod yX6_isHeardRightly, Cond.selects RX6 yX6_isHeardRightly yX6_isHeardRightly, Cond.code yX6_isHeardRightly cX6_isHeardRightly 6 (some .boolean), Cond.fieldLink RX6 30 "PaperWalls$Street" "barred" "[I", Cond.methodLink RX6 128 yX6_whoHearOf, Cond.instanceMethod yX6_whoHearOf, Cond.selects RX6 yX6_whoHearOf yX6_whoHearOf, Cond.code yX6_whoHearOf cX6_whoHearOf 10 (some .int), Cond.fieldLink RX6 21 "PaperWalls$Street" "rooms" "[I", Cond.fieldLink RX6 94 "PaperWalls$Kinds" "SINGS" "[I", Cond.fieldLink RX6 91 "PaperWalls$Kinds" "SPEAKS" "[I"]
def wsX8_cover_r3 : List Cond := [Cond.methodLink RX6 113 Lib.Math.max.name, Cond.static Lib.Math.max.name, Cond.initialized "java/lang/Math", Cond.code Lib.Math.max.name Lib.Math.max.code 2 (some .int), Cond.fieldLink RX6 18 "PaperWalls$Street" "kinds" "[I", Cond.methodLink RX6 109 yX6_loudestIn, Cond.instanceMethod yX6_loudestIn, Cond.selects RX6 yX6_loudestIn yX6_loudestIn, Cond.code yX6_loudestIn cX6_loudestIn 7 (some .int), Cond.fieldLink RX6 15 "PaperWalls$Street" "depth" "[I", Cond.methodLink RX6 104 Lib.Math.abs.name, Cond.static Lib.Math.abs.name, Cond.code Lib.Math.abs.name Lib.Math.abs.code 1 (some .int), Cond.methodLink RX6 117 yX6_comesTo, Cond.instanceMethod yX6_comesTo, Cond.selects RX6 yX6_comesTo yX6_comesTo, Cond.code yX6_comesTo cX6_comesTo 3 (some .int), Cond.methodLink RX6 120 yX2_isEnough, Cond.static yX2_isEnough, Cond.initialized RX2, Cond.code yX2_isEnough cX2_isEnough 4 (some .boolean), Cond.fieldLink RX2 15 "PaperWalls$Kinds" "LEAST" "[I", Cond.methodLink RX8 199 yX8_tellSet, Cond.instanceMethod yX8_tellSet]
def wsX8_cover_r4 : List Cond := [Cond.selects RX8 yX8_tellSet yX8_tellSet, Cond.code yX8_tellSet cX8_tellSet 2 (some .int), Cond.fieldLink RX8 92 "PaperWalls" "told" "I"]
def wsX8_cover : List Cond := .code yX8_cover cX8_cover 4 (some .int) :: ((wsX8_cover_r1 ++ (wsX8_cover_r2 ++ (wsX8_cover_r3 ++ wsX8_cover_r4))) ++ wsX80 ++ wsX60)
def wsX8_beside_r1 : List Cond := [Cond.fieldLink RX8 24 "PaperWalls" "now" "LPaperWalls$Street;", Cond.methodLink RX8 221 yX6_everyTalk, Cond.instanceMethod yX6_everyTalk, Cond.selects RX6 yX6_everyTalk yX6_everyTalk, Cond.initialized RX6, Cond.code yX6_everyTalk cX6_everyTalk 1 (some .int), Cond.fieldLink RX6 47 "PaperWalls$Street" "talks" "I", Cond.methodLink RX8 224 yX6_goTogether, Cond.instanceMethod yX6_goTogether, Cond.selects RX6 yX6_goTogether yX6_goTogether, Cond.code yX6_goTogether cX6_goTogether 6 (some .boolean), Cond.fieldLink RX6 24 "PaperWalls$Street" "speaker" "[I", Cond.methodLink RX6 140 yX6_bothOf, Cond.instanceMethod yX6_bothOf, Cond.selects RX6 yX6_bothOf yX6_bothOf, Cond.code yX6_bothOf cX6_bothOf 2 (some .int), Cond.fieldLink RX6 27 "PaperWalls$Street" "hearer" "[I", Cond.methodLink RX6 124 yX6_everyone, Cond.instanceMethod yX6_everyone, Cond.selects RX6 yX6_everyone yX6_everyone, Cond.code yX6_everyone cX6_everyone 1 (some .int), Cond.fieldLink RX6 44 "PaperWalls$Street" "people" "I", Cond.methodLink RX6 143 yX6_isHeardRightly, Cond.instanceMethod yX6_isHeardRightly]
def wsX8_beside_r2 : List Cond := [Cond.selects RX6 yX6_isHeardRightly yX6_isHeardRightly, Cond.code yX6_isHeardRightly cX6_isHeardRightly 6 (some .boolean), Cond.fieldLink RX6 30 "PaperWalls$Street" "barred" "[I", Cond.methodLink RX6 128 yX6_whoHearOf, Cond.instanceMethod yX6_whoHearOf, Cond.selects RX6 yX6_whoHearOf yX6_whoHearOf, Cond.code yX6_whoHearOf cX6_whoHearOf 10 (some .int), Cond.fieldLink RX6 21 "PaperWalls$Street" "rooms" "[I", Cond.fieldLink RX6 94 "PaperWalls$Kinds" "SINGS" "[I", Cond.fieldLink RX6 91 "PaperWalls$Kinds" "SPEAKS" "[I", Cond.methodLink RX6 113 Lib.Math.max.name, Cond.static Lib.Math.max.name, Cond.initialized "java/lang/Math", Cond.code Lib.Math.max.name Lib.Math.max.code 2 (some .int), Cond.fieldLink RX6 18 "PaperWalls$Street" "kinds" "[I", Cond.methodLink RX6 109 yX6_loudestIn, Cond.instanceMethod yX6_loudestIn, Cond.selects RX6 yX6_loudestIn yX6_loudestIn, Cond.code yX6_loudestIn cX6_loudestIn 7 (some .int), Cond.fieldLink RX6 15 "PaperWalls$Street" "depth" "[I", Cond.methodLink RX6 104 Lib.Math.abs.name, Cond.static Lib.Math.abs.name, Cond.code Lib.Math.abs.name Lib.Math.abs.code 1 (some .int), Cond.methodLink RX6 117 yX6_comesTo]
def wsX8_beside_r3 : List Cond := [Cond.instanceMethod yX6_comesTo, Cond.selects RX6 yX6_comesTo yX6_comesTo, Cond.code yX6_comesTo cX6_comesTo 3 (some .int), Cond.methodLink RX6 120 yX2_isEnough, Cond.static yX2_isEnough, Cond.initialized RX2, Cond.code yX2_isEnough cX2_isEnough 4 (some .boolean), Cond.fieldLink RX2 15 "PaperWalls$Kinds" "LEAST" "[I"]
def wsX8_beside : List Cond := .code yX8_beside cX8_beside 2 (some .int) :: ((wsX8_beside_r1 ++ (wsX8_beside_r2 ++ wsX8_beside_r3)) ++ wsX80 ++ wsX60)
def wsX8_turns_r1 : List Cond := [Cond.fieldLink RX8 42 "PaperWalls" "plan" "LPaperWalls$Plan;", Cond.fieldLink RX8 24 "PaperWalls" "now" "LPaperWalls$Street;", Cond.fieldLink RX8 92 "PaperWalls" "told" "I", Cond.methodLink RX8 227 yX3_draw, Cond.instanceMethod yX3_draw, Cond.selects RX3 yX3_draw yX3_draw, Cond.initialized RX3, Cond.code yX3_draw cX3_draw 3 none, Cond.fieldLink RX3 13 "PaperWalls$Plan" "together" "[Z", Cond.fieldLink RX3 17 "PaperWalls$Plan" "fewest" "[I", Cond.methodLink RX3 21 yX6_everyTalk, Cond.instanceMethod yX6_everyTalk, Cond.selects RX6 yX6_everyTalk yX6_everyTalk, Cond.initialized RX6, Cond.code yX6_everyTalk cX6_everyTalk 1 (some .int), Cond.fieldLink RX6 47 "PaperWalls$Street" "talks" "I", Cond.methodLink RX3 25 yX6_goTogether, Cond.instanceMethod yX6_goTogether, Cond.selects RX6 yX6_goTogether yX6_goTogether, Cond.code yX6_goTogether cX6_goTogether 6 (some .boolean), Cond.fieldLink RX6 24 "PaperWalls$Street" "speaker" "[I", Cond.methodLink RX6 140 yX6_bothOf, Cond.instanceMethod yX6_bothOf, Cond.selects RX6 yX6_bothOf yX6_bothOf]
def wsX8_turns_r2 : List Cond := [Cond.code yX6_bothOf cX6_bothOf 2 (some .int), Cond.fieldLink RX6 27 "PaperWalls$Street" "hearer" "[I", Cond.methodLink RX6 124 yX6_everyone, Cond.instanceMethod yX6_everyone, Cond.selects RX6 yX6_everyone yX6_everyone, Cond.code yX6_everyone cX6_everyone 1 (some .int), Cond.fieldLink RX6 44 "PaperWalls$Street" "people" "I", Cond.methodLink RX6 143 yX6_isHeardRightly, Cond.instanceMethod yX6_isHeardRightly, Cond.selects RX6 yX6_isHeardRightly yX6_isHeardRightly, Cond.code yX6_isHeardRightly cX6_isHeardRightly 6 (some .boolean), Cond.fieldLink RX6 30 "PaperWalls$Street" "barred" "[I", Cond.methodLink RX6 128 yX6_whoHearOf, Cond.instanceMethod yX6_whoHearOf, Cond.selects RX6 yX6_whoHearOf yX6_whoHearOf, Cond.code yX6_whoHearOf cX6_whoHearOf 10 (some .int), Cond.fieldLink RX6 21 "PaperWalls$Street" "rooms" "[I", Cond.fieldLink RX6 94 "PaperWalls$Kinds" "SINGS" "[I", Cond.fieldLink RX6 91 "PaperWalls$Kinds" "SPEAKS" "[I", Cond.methodLink RX6 113 Lib.Math.max.name, Cond.static Lib.Math.max.name, Cond.initialized "java/lang/Math", Cond.code Lib.Math.max.name Lib.Math.max.code 2 (some .int), Cond.fieldLink RX6 18 "PaperWalls$Street" "kinds" "[I"]
def wsX8_turns_r3 : List Cond := [Cond.methodLink RX6 109 yX6_loudestIn, Cond.instanceMethod yX6_loudestIn, Cond.selects RX6 yX6_loudestIn yX6_loudestIn, Cond.code yX6_loudestIn cX6_loudestIn 7 (some .int), Cond.fieldLink RX6 15 "PaperWalls$Street" "depth" "[I", Cond.methodLink RX6 104 Lib.Math.abs.name, Cond.static Lib.Math.abs.name, Cond.code Lib.Math.abs.name Lib.Math.abs.code 1 (some .int), Cond.methodLink RX6 117 yX6_comesTo, Cond.instanceMethod yX6_comesTo, Cond.selects RX6 yX6_comesTo yX6_comesTo, Cond.code yX6_comesTo cX6_comesTo 3 (some .int), Cond.methodLink RX6 120 yX2_isEnough, Cond.static yX2_isEnough, Cond.initialized RX2, Cond.code yX2_isEnough cX2_isEnough 4 (some .boolean), Cond.fieldLink RX2 15 "PaperWalls$Kinds" "LEAST" "[I", Cond.methodLink RX3 29 yX3_fewestOf, Cond.instanceMethod yX3_fewestOf, Cond.selects RX3 yX3_fewestOf yX3_fewestOf, Cond.code yX3_fewestOf cX3_fewestOf 5 (some .int), Cond.methodLink RX3 33 Lib.Math.min.name, Cond.static Lib.Math.min.name, Cond.code Lib.Math.min.name Lib.Math.min.code 2 (some .int)]
def wsX8_turns_r4 : List Cond := [Cond.methodLink RX8 230 yX3_hours, Cond.instanceMethod yX3_hours, Cond.selects RX3 yX3_hours yX3_hours, Cond.code yX3_hours cX3_hours 3 (some .int), Cond.methodLink RX8 234 yX3_firstHour, Cond.instanceMethod yX3_firstHour, Cond.selects RX3 yX3_firstHour yX3_firstHour, Cond.code yX3_firstHour cX3_firstHour 4 (some .int)]
def wsX8_turns : List Cond := .code yX8_turns cX8_turns 2 (some .int) :: ((wsX8_turns_r1 ++ (wsX8_turns_r2 ++ (wsX8_turns_r3 ++ wsX8_turns_r4))) ++ wsX80 ++ wsX30 ++ wsX60)
def wsX8_most_r1 : List Cond := [Cond.fieldLink RX8 42 "PaperWalls" "plan" "LPaperWalls$Plan;", Cond.fieldLink RX8 24 "PaperWalls" "now" "LPaperWalls$Street;", Cond.methodLink RX8 227 yX3_draw, Cond.instanceMethod yX3_draw, Cond.selects RX3 yX3_draw yX3_draw, Cond.initialized RX3, Cond.code yX3_draw cX3_draw 3 none, Cond.fieldLink RX3 13 "PaperWalls$Plan" "together" "[Z", Cond.fieldLink RX3 17 "PaperWalls$Plan" "fewest" "[I", Cond.methodLink RX3 21 yX6_everyTalk, Cond.instanceMethod yX6_everyTalk, Cond.selects RX6 yX6_everyTalk yX6_everyTalk, Cond.initialized RX6, Cond.code yX6_everyTalk cX6_everyTalk 1 (some .int), Cond.fieldLink RX6 47 "PaperWalls$Street" "talks" "I", Cond.methodLink RX3 25 yX6_goTogether, Cond.instanceMethod yX6_goTogether, Cond.selects RX6 yX6_goTogether yX6_goTogether, Cond.code yX6_goTogether cX6_goTogether 6 (some .boolean), Cond.fieldLink RX6 24 "PaperWalls$Street" "speaker" "[I", Cond.methodLink RX6 140 yX6_bothOf, Cond.instanceMethod yX6_bothOf, Cond.selects RX6 yX6_bothOf yX6_bothOf, Cond.code yX6_bothOf cX6_bothOf 2 (some .int)]
def wsX8_most_r2 : List Cond := [Cond.fieldLink RX6 27 "PaperWalls$Street" "hearer" "[I", Cond.methodLink RX6 124 yX6_everyone, Cond.instanceMethod yX6_everyone, Cond.selects RX6 yX6_everyone yX6_everyone, Cond.code yX6_everyone cX6_everyone 1 (some .int), Cond.fieldLink RX6 44 "PaperWalls$Street" "people" "I", Cond.methodLink RX6 143 yX6_isHeardRightly, Cond.instanceMethod yX6_isHeardRightly, Cond.selects RX6 yX6_isHeardRightly yX6_isHeardRightly, Cond.code yX6_isHeardRightly cX6_isHeardRightly 6 (some .boolean), Cond.fieldLink RX6 30 "PaperWalls$Street" "barred" "[I", Cond.methodLink RX6 128 yX6_whoHearOf, Cond.instanceMethod yX6_whoHearOf, Cond.selects RX6 yX6_whoHearOf yX6_whoHearOf, Cond.code yX6_whoHearOf cX6_whoHearOf 10 (some .int), Cond.fieldLink RX6 21 "PaperWalls$Street" "rooms" "[I", Cond.fieldLink RX6 94 "PaperWalls$Kinds" "SINGS" "[I", Cond.fieldLink RX6 91 "PaperWalls$Kinds" "SPEAKS" "[I", Cond.methodLink RX6 113 Lib.Math.max.name, Cond.static Lib.Math.max.name, Cond.initialized "java/lang/Math", Cond.code Lib.Math.max.name Lib.Math.max.code 2 (some .int), Cond.fieldLink RX6 18 "PaperWalls$Street" "kinds" "[I", Cond.methodLink RX6 109 yX6_loudestIn]
def wsX8_most_r3 : List Cond := [Cond.instanceMethod yX6_loudestIn, Cond.selects RX6 yX6_loudestIn yX6_loudestIn, Cond.code yX6_loudestIn cX6_loudestIn 7 (some .int), Cond.fieldLink RX6 15 "PaperWalls$Street" "depth" "[I", Cond.methodLink RX6 104 Lib.Math.abs.name, Cond.static Lib.Math.abs.name, Cond.code Lib.Math.abs.name Lib.Math.abs.code 1 (some .int), Cond.methodLink RX6 117 yX6_comesTo, Cond.instanceMethod yX6_comesTo, Cond.selects RX6 yX6_comesTo yX6_comesTo, Cond.code yX6_comesTo cX6_comesTo 3 (some .int), Cond.methodLink RX6 120 yX2_isEnough, Cond.static yX2_isEnough, Cond.initialized RX2, Cond.code yX2_isEnough cX2_isEnough 4 (some .boolean), Cond.fieldLink RX2 15 "PaperWalls$Kinds" "LEAST" "[I", Cond.methodLink RX3 29 yX3_fewestOf, Cond.instanceMethod yX3_fewestOf, Cond.selects RX3 yX3_fewestOf yX3_fewestOf, Cond.code yX3_fewestOf cX3_fewestOf 5 (some .int), Cond.methodLink RX3 33 Lib.Math.min.name, Cond.static Lib.Math.min.name, Cond.code Lib.Math.min.name Lib.Math.min.code 2 (some .int), Cond.methodLink RX8 237 yX3_largest]
def wsX8_most_r4 : List Cond := [Cond.instanceMethod yX3_largest, Cond.selects RX3 yX3_largest yX3_largest, Cond.code yX3_largest cX3_largest 4 (some .int), Cond.methodLink RX3 39 yJ6_bitCount_0f7a4, Cond.static yJ6_bitCount_0f7a4, Cond.initialized RJ6, Cond.code yJ6_bitCount_0f7a4 cJ6_bitCount_0f7a4 1 (some .int), Cond.constant RJ6 265 (1431655765), Cond.constant RJ6 266 (858993459), Cond.constant RJ6 267 (252645135), Cond.methodLink RX8 199 yX8_tellSet, Cond.instanceMethod yX8_tellSet, Cond.selects RX8 yX8_tellSet yX8_tellSet, Cond.initialized RX8, Cond.code yX8_tellSet cX8_tellSet 2 (some .int), Cond.fieldLink RX8 92 "PaperWalls" "told" "I", Cond.methodLink RX8 151 yJ6_bitCount_0f7a4]
def wsX8_most : List Cond := .code yX8_most cX8_most 1 (some .int) :: ((wsX8_most_r1 ++ (wsX8_most_r2 ++ (wsX8_most_r3 ++ wsX8_most_r4))) ++ wsX80 ++ wsX30 ++ wsX60)
def wsX8_isSafeByPasting_r1 : List Cond := [Cond.fieldLink RX8 56 "PaperWalls" "shares" "LPaperWalls$Shares;", Cond.fieldLink RX8 24 "PaperWalls" "now" "LPaperWalls$Street;", Cond.fieldLink RX8 165 "PaperWalls$Street" "walls" "I", Cond.fieldLink RX8 28 "PaperWalls" "trial" "LPaperWalls$Street;", Cond.fieldLink RX8 168 "PaperWalls$Street" "layers" "[I", Cond.fieldLink RX8 260 "PaperWalls$Shares" "of" "[I", Cond.methodLink RX8 356 yX5_begin, Cond.instanceMethod yX5_begin, Cond.selects RX5 yX5_begin yX5_begin, Cond.initialized RX5, Cond.code yX5_begin cX5_begin 4 none, Cond.fieldLink RX5 15 "PaperWalls$Shares" "size" "I", Cond.fieldLink RX5 9 "PaperWalls$Shares" "of" "[I", Cond.methodLink RX8 171 yX6_measure, Cond.instanceMethod yX6_measure, Cond.selects RX6 yX6_measure yX6_measure, Cond.initialized RX6, Cond.code yX6_measure cX6_measure 2 none, Cond.fieldLink RX6 40 "PaperWalls$Street" "walls" "I", Cond.fieldLink RX6 15 "PaperWalls$Street" "depth" "[I", Cond.fieldLink RX6 11 "PaperWalls$Street" "layers" "[I", Cond.methodLink RX8 218 yX6_isSafe, Cond.instanceMethod yX6_isSafe, Cond.selects RX6 yX6_isSafe yX6_isSafe]
def wsX8_isSafeByPasting_r2 : List Cond := [Cond.code yX6_isSafe cX6_isSafe 3 (some .boolean), Cond.methodLink RX6 140 yX6_bothOf, Cond.instanceMethod yX6_bothOf, Cond.selects RX6 yX6_bothOf yX6_bothOf, Cond.code yX6_bothOf cX6_bothOf 2 (some .int), Cond.fieldLink RX6 24 "PaperWalls$Street" "speaker" "[I", Cond.fieldLink RX6 27 "PaperWalls$Street" "hearer" "[I", Cond.methodLink RX6 124 yX6_everyone, Cond.instanceMethod yX6_everyone, Cond.selects RX6 yX6_everyone yX6_everyone, Cond.code yX6_everyone cX6_everyone 1 (some .int), Cond.fieldLink RX6 44 "PaperWalls$Street" "people" "I", Cond.methodLink RX6 143 yX6_isHeardRightly, Cond.instanceMethod yX6_isHeardRightly, Cond.selects RX6 yX6_isHeardRightly yX6_isHeardRightly, Cond.code yX6_isHeardRightly cX6_isHeardRightly 6 (some .boolean), Cond.fieldLink RX6 30 "PaperWalls$Street" "barred" "[I", Cond.methodLink RX6 128 yX6_whoHearOf, Cond.instanceMethod yX6_whoHearOf, Cond.selects RX6 yX6_whoHearOf yX6_whoHearOf, Cond.code yX6_whoHearOf cX6_whoHearOf 10 (some .int), Cond.fieldLink RX6 21 "PaperWalls$Street" "rooms" "[I", Cond.fieldLink RX6 94 "PaperWalls$Kinds" "SINGS" "[I", Cond.fieldLink RX6 91 "PaperWalls$Kinds" "SPEAKS" "[I"]
def wsX8_isSafeByPasting_r3 : List Cond := [Cond.methodLink RX6 113 Lib.Math.max.name, Cond.static Lib.Math.max.name, Cond.initialized "java/lang/Math", Cond.code Lib.Math.max.name Lib.Math.max.code 2 (some .int), Cond.fieldLink RX6 18 "PaperWalls$Street" "kinds" "[I", Cond.methodLink RX6 109 yX6_loudestIn, Cond.instanceMethod yX6_loudestIn, Cond.selects RX6 yX6_loudestIn yX6_loudestIn, Cond.code yX6_loudestIn cX6_loudestIn 7 (some .int), Cond.methodLink RX6 104 Lib.Math.abs.name, Cond.static Lib.Math.abs.name, Cond.code Lib.Math.abs.name Lib.Math.abs.code 1 (some .int), Cond.methodLink RX6 117 yX6_comesTo, Cond.instanceMethod yX6_comesTo, Cond.selects RX6 yX6_comesTo yX6_comesTo, Cond.code yX6_comesTo cX6_comesTo 3 (some .int), Cond.methodLink RX6 120 yX2_isEnough, Cond.static yX2_isEnough, Cond.initialized RX2, Cond.code yX2_isEnough cX2_isEnough 4 (some .boolean), Cond.fieldLink RX2 15 "PaperWalls$Kinds" "LEAST" "[I", Cond.methodLink RX8 358 yX5_advance, Cond.instanceMethod yX5_advance, Cond.selects RX5 yX5_advance yX5_advance]
def wsX8_isSafeByPasting_r4 : List Cond := [Cond.code yX5_advance cX5_advance 3 (some .boolean)]
def wsX8_isSafeByPasting : List Cond := .code yX8_isSafeByPasting cX8_isSafeByPasting 5 (some .boolean) :: ((wsX8_isSafeByPasting_r1 ++ (wsX8_isSafeByPasting_r2 ++ (wsX8_isSafeByPasting_r3 ++ wsX8_isSafeByPasting_r4))) ++ wsX80 ++ wsX60 ++ wsX50)
def wsX8_paste_r1 : List Cond := [Cond.fieldLink RX8 24 "PaperWalls" "now" "LPaperWalls$Street;", Cond.fieldLink RX8 202 "PaperWalls$Street" "talks" "I", Cond.fieldLink RX8 28 "PaperWalls" "trial" "LPaperWalls$Street;", Cond.fieldLink RX8 11 "PaperWalls" "rows" "[LPaperWalls$Row;", Cond.fieldLink RX8 56 "PaperWalls" "shares" "LPaperWalls$Shares;", Cond.fieldLink RX8 260 "PaperWalls$Shares" "of" "[I", Cond.fieldLink RX8 165 "PaperWalls$Street" "walls" "I", Cond.methodLink RX8 66 yX8_isRow, Cond.static yX8_isRow, Cond.initialized RX8, Cond.code yX8_isRow cX8_isRow 1 (some .boolean), Cond.methodLink RX8 70 yX8_find, Cond.instanceMethod yX8_find, Cond.selects RX8 yX8_find yX8_find, Cond.code yX8_find cX8_find 2 (some .int), Cond.fieldLink RX8 340 "PaperWalls" "latest" "I", Cond.fieldLink RX8 60 "PaperWalls" "tally" "[I", Cond.methodLink RX8 127 yX6_become, Cond.instanceMethod yX6_become, Cond.selects RX6 yX6_become yX6_become, Cond.initialized RX6, Cond.code yX6_become cX6_become 2 none, Cond.fieldLink RX6 40 "PaperWalls$Street" "walls" "I", Cond.fieldLink RX6 44 "PaperWalls$Street" "people" "I"]
def wsX8_paste_r2 : List Cond := [Cond.fieldLink RX6 47 "PaperWalls$Street" "talks" "I", Cond.fieldLink RX6 11 "PaperWalls$Street" "layers" "[I", Cond.methodLink RX6 50 arraycopyName, Cond.native arraycopyName, Cond.static arraycopyName, Cond.initialized "java/lang/System", Cond.fieldLink RX6 15 "PaperWalls$Street" "depth" "[I", Cond.fieldLink RX6 18 "PaperWalls$Street" "kinds" "[I", Cond.fieldLink RX6 21 "PaperWalls$Street" "rooms" "[I", Cond.fieldLink RX6 24 "PaperWalls$Street" "speaker" "[I", Cond.fieldLink RX6 27 "PaperWalls$Street" "hearer" "[I", Cond.fieldLink RX6 30 "PaperWalls$Street" "barred" "[I", Cond.fieldLink RX6 36 "PaperWalls$Street" "hours" "LPaperWalls$Hours;", Cond.methodLink RX6 56 yX1_become, Cond.instanceMethod yX1_become, Cond.selects RX1 yX1_become yX1_become, Cond.initialized RX1, Cond.code yX1_become cX1_become 2 none, Cond.fieldLink RX1 9 "PaperWalls$Hours" "tellers" "[I", Cond.methodLink RX1 31 arraycopyName, Cond.fieldLink RX1 13 "PaperWalls$Hours" "things" "[I", Cond.fieldLink RX1 16 "PaperWalls$Hours" "heardBy" "[I", Cond.fieldLink RX1 19 "PaperWalls$Hours" "ahead" "[J", Cond.fieldLink RX1 23 "PaperWalls$Hours" "known" "J"]
def wsX8_paste_r3 : List Cond := [Cond.fieldLink RX1 27 "PaperWalls$Hours" "size" "I", Cond.methodLink RX8 257 yX8_isSafeByPasting, Cond.instanceMethod yX8_isSafeByPasting, Cond.selects RX8 yX8_isSafeByPasting yX8_isSafeByPasting, Cond.code yX8_isSafeByPasting cX8_isSafeByPasting 5 (some .boolean), Cond.fieldLink RX8 168 "PaperWalls$Street" "layers" "[I", Cond.methodLink RX8 356 yX5_begin, Cond.instanceMethod yX5_begin, Cond.selects RX5 yX5_begin yX5_begin, Cond.initialized RX5, Cond.code yX5_begin cX5_begin 4 none, Cond.fieldLink RX5 15 "PaperWalls$Shares" "size" "I", Cond.fieldLink RX5 9 "PaperWalls$Shares" "of" "[I", Cond.methodLink RX8 171 yX6_measure, Cond.instanceMethod yX6_measure, Cond.selects RX6 yX6_measure yX6_measure, Cond.code yX6_measure cX6_measure 2 none, Cond.methodLink RX8 218 yX6_isSafe, Cond.instanceMethod yX6_isSafe, Cond.selects RX6 yX6_isSafe yX6_isSafe, Cond.code yX6_isSafe cX6_isSafe 3 (some .boolean), Cond.methodLink RX6 140 yX6_bothOf, Cond.instanceMethod yX6_bothOf, Cond.selects RX6 yX6_bothOf yX6_bothOf]
def wsX8_paste_r4 : List Cond := [Cond.code yX6_bothOf cX6_bothOf 2 (some .int), Cond.methodLink RX6 124 yX6_everyone, Cond.instanceMethod yX6_everyone, Cond.selects RX6 yX6_everyone yX6_everyone, Cond.code yX6_everyone cX6_everyone 1 (some .int), Cond.methodLink RX6 143 yX6_isHeardRightly, Cond.instanceMethod yX6_isHeardRightly, Cond.selects RX6 yX6_isHeardRightly yX6_isHeardRightly, Cond.code yX6_isHeardRightly cX6_isHeardRightly 6 (some .boolean), Cond.methodLink RX6 128 yX6_whoHearOf, Cond.instanceMethod yX6_whoHearOf, Cond.selects RX6 yX6_whoHearOf yX6_whoHearOf, Cond.code yX6_whoHearOf cX6_whoHearOf 10 (some .int), Cond.fieldLink RX6 94 "PaperWalls$Kinds" "SINGS" "[I", Cond.fieldLink RX6 91 "PaperWalls$Kinds" "SPEAKS" "[I", Cond.methodLink RX6 113 Lib.Math.max.name, Cond.static Lib.Math.max.name, Cond.initialized "java/lang/Math", Cond.code Lib.Math.max.name Lib.Math.max.code 2 (some .int), Cond.methodLink RX6 109 yX6_loudestIn, Cond.instanceMethod yX6_loudestIn, Cond.selects RX6 yX6_loudestIn yX6_loudestIn, Cond.code yX6_loudestIn cX6_loudestIn 7 (some .int), Cond.methodLink RX6 104 Lib.Math.abs.name]
def wsX8_paste_r5 : List Cond := [Cond.static Lib.Math.abs.name, Cond.code Lib.Math.abs.name Lib.Math.abs.code 1 (some .int), Cond.methodLink RX6 117 yX6_comesTo, Cond.instanceMethod yX6_comesTo, Cond.selects RX6 yX6_comesTo yX6_comesTo, Cond.code yX6_comesTo cX6_comesTo 3 (some .int), Cond.methodLink RX6 120 yX2_isEnough, Cond.static yX2_isEnough, Cond.initialized RX2, Cond.code yX2_isEnough cX2_isEnough 4 (some .boolean), Cond.fieldLink RX2 15 "PaperWalls$Kinds" "LEAST" "[I", Cond.methodLink RX8 358 yX5_advance, Cond.instanceMethod yX5_advance, Cond.selects RX5 yX5_advance yX5_advance, Cond.code yX5_advance cX5_advance 3 (some .boolean), Cond.methodLink RX8 250 yX4_fill, Cond.instanceMethod yX4_fill, Cond.selects RX4 yX4_fill yX4_fill, Cond.initialized RX4, Cond.code yX4_fill cX4_fill 3 none, Cond.fieldLink RX4 9 "PaperWalls$Row" "ints" "[I", Cond.methodLink RX4 21 arraycopyName, Cond.methodLink RX4 17 yX4_begin, Cond.instanceMethod yX4_begin]
def wsX8_paste_r6 : List Cond := [Cond.selects RX4 yX4_begin yX4_begin, Cond.code yX4_begin cX4_begin 3 none, Cond.fieldLink RX4 13 "PaperWalls$Row" "size" "I"]
def wsX8_paste : List Cond := .code yX8_paste cX8_paste 4 (some .int) :: ((wsX8_paste_r1 ++ (wsX8_paste_r2 ++ (wsX8_paste_r3 ++ (wsX8_paste_r4 ++ (wsX8_paste_r5 ++ wsX8_paste_r6))))) ++ wsX80 ++ wsX60 ++ wsX50 ++ wsX10 ++ wsX40)
def wsX8_tearOff_r1 : List Cond := [Cond.fieldLink RX8 263 "PaperWalls$Kinds" "LEAST" "[I", Cond.fieldLink RX8 24 "PaperWalls" "now" "LPaperWalls$Street;", Cond.fieldLink RX8 142 "PaperWalls$Street" "kinds" "[I", Cond.fieldLink RX8 177 "PaperWalls$Street" "rooms" "[I", Cond.fieldLink RX8 92 "PaperWalls" "told" "I", Cond.methodLink RX8 266 Lib.Math.min.name, Cond.static Lib.Math.min.name, Cond.initialized "java/lang/Math", Cond.code Lib.Math.min.name Lib.Math.min.code 2 (some .int), Cond.methodLink RX8 271 Lib.Math.max.name, Cond.static Lib.Math.max.name, Cond.code Lib.Math.max.name Lib.Math.max.code 2 (some .int), Cond.fieldLink RX8 168 "PaperWalls$Street" "layers" "[I", Cond.methodLink RX8 180 yX8_areTwo, Cond.instanceMethod yX8_areTwo, Cond.selects RX8 yX8_areTwo yX8_areTwo, Cond.initialized RX8, Cond.code yX8_areTwo cX8_areTwo 3 (some .boolean), Cond.methodLink RX8 134 yX8_isOne, Cond.instanceMethod yX8_isOne, Cond.selects RX8 yX8_isOne yX8_isOne, Cond.code yX8_isOne cX8_isOne 2 (some .boolean), Cond.fieldLink RX8 131 "PaperWalls$Street" "people" "I", Cond.methodLink RX8 183 yX6_comesTo]
def wsX8_tearOff_r2 : List Cond := [Cond.instanceMethod yX6_comesTo, Cond.selects RX6 yX6_comesTo yX6_comesTo, Cond.initialized RX6, Cond.code yX6_comesTo cX6_comesTo 3 (some .int), Cond.fieldLink RX6 91 "PaperWalls$Kinds" "SPEAKS" "[I", Cond.fieldLink RX6 18 "PaperWalls$Street" "kinds" "[I", Cond.fieldLink RX6 15 "PaperWalls$Street" "depth" "[I", Cond.fieldLink RX6 21 "PaperWalls$Street" "rooms" "[I", Cond.methodLink RX6 104 Lib.Math.abs.name, Cond.static Lib.Math.abs.name, Cond.code Lib.Math.abs.name Lib.Math.abs.code 1 (some .int)]
def wsX8_tearOff : List Cond := .code yX8_tearOff cX8_tearOff 7 (some .int) :: ((wsX8_tearOff_r1 ++ wsX8_tearOff_r2) ++ wsX80 ++ wsX60)
def wsX8_isThing : List Cond := .code yX8_isThing cX8_isThing 1 (some .boolean) :: ([])
def wsX8_comes_r1 : List Cond := [Cond.fieldLink RX8 24 "PaperWalls" "now" "LPaperWalls$Street;", Cond.fieldLink RX8 281 "PaperWalls$Street" "hours" "LPaperWalls$Hours;", Cond.methodLink RX8 134 yX8_isOne, Cond.instanceMethod yX8_isOne, Cond.selects RX8 yX8_isOne yX8_isOne, Cond.initialized RX8, Cond.code yX8_isOne cX8_isOne 2 (some .boolean), Cond.fieldLink RX8 131 "PaperWalls$Street" "people" "I", Cond.methodLink RX8 278 yX8_isThing, Cond.static yX8_isThing, Cond.code yX8_isThing cX8_isThing 1 (some .boolean), Cond.methodLink RX8 284 yX1_learn, Cond.instanceMethod yX1_learn, Cond.selects RX1 yX1_learn yX1_learn, Cond.initialized RX1, Cond.code yX1_learn cX1_learn 3 none, Cond.fieldLink RX1 23 "PaperWalls$Hours" "known" "J", Cond.methodLink RX8 290 yX1_whoKnow, Cond.instanceMethod yX1_whoKnow, Cond.selects RX1 yX1_whoKnow yX1_whoKnow, Cond.code yX1_whoKnow cX1_whoKnow 2 (some .int), Cond.methodLink RX8 151 yJ6_bitCount_0f7a4, Cond.static yJ6_bitCount_0f7a4, Cond.initialized RJ6]
def wsX8_comes_r2 : List Cond := [Cond.code yJ6_bitCount_0f7a4 cJ6_bitCount_0f7a4 1 (some .int), Cond.constant RJ6 265 (1431655765), Cond.constant RJ6 266 (858993459), Cond.constant RJ6 267 (252645135)]
def wsX8_comes : List Cond := .code yX8_comes cX8_comes 3 (some .int) :: ((wsX8_comes_r1 ++ wsX8_comes_r2) ++ wsX80 ++ wsX60 ++ wsX10)
def wsX8_tell_r1 : List Cond := [Cond.fieldLink RX8 24 "PaperWalls" "now" "LPaperWalls$Street;", Cond.fieldLink RX8 281 "PaperWalls$Street" "hours" "LPaperWalls$Hours;", Cond.fieldLink RX8 293 "PaperWalls$Hours" "size" "I", Cond.methodLink RX8 134 yX8_isOne, Cond.instanceMethod yX8_isOne, Cond.selects RX8 yX8_isOne yX8_isOne, Cond.initialized RX8, Cond.code yX8_isOne cX8_isOne 2 (some .boolean), Cond.fieldLink RX8 131 "PaperWalls$Street" "people" "I", Cond.methodLink RX8 278 yX8_isThing, Cond.static yX8_isThing, Cond.code yX8_isThing cX8_isThing 1 (some .boolean), Cond.methodLink RX8 290 yX1_whoKnow, Cond.instanceMethod yX1_whoKnow, Cond.selects RX1 yX1_whoKnow yX1_whoKnow, Cond.initialized RX1, Cond.code yX1_whoKnow cX1_whoKnow 2 (some .int), Cond.fieldLink RX1 23 "PaperWalls$Hours" "known" "J", Cond.methodLink RX8 148 yX6_whoHear, Cond.instanceMethod yX6_whoHear, Cond.selects RX6 yX6_whoHear yX6_whoHear, Cond.initialized RX6, Cond.code yX6_whoHear cX6_whoHear 3 (some .int), Cond.methodLink RX6 124 yX6_everyone]
def wsX8_tell_r2 : List Cond := [Cond.instanceMethod yX6_everyone, Cond.selects RX6 yX6_everyone yX6_everyone, Cond.code yX6_everyone cX6_everyone 1 (some .int), Cond.fieldLink RX6 44 "PaperWalls$Street" "people" "I", Cond.methodLink RX6 128 yX6_whoHearOf, Cond.instanceMethod yX6_whoHearOf, Cond.selects RX6 yX6_whoHearOf yX6_whoHearOf, Cond.code yX6_whoHearOf cX6_whoHearOf 10 (some .int), Cond.fieldLink RX6 21 "PaperWalls$Street" "rooms" "[I", Cond.fieldLink RX6 94 "PaperWalls$Kinds" "SINGS" "[I", Cond.fieldLink RX6 91 "PaperWalls$Kinds" "SPEAKS" "[I", Cond.methodLink RX6 113 Lib.Math.max.name, Cond.static Lib.Math.max.name, Cond.initialized "java/lang/Math", Cond.code Lib.Math.max.name Lib.Math.max.code 2 (some .int), Cond.fieldLink RX6 18 "PaperWalls$Street" "kinds" "[I", Cond.methodLink RX6 109 yX6_loudestIn, Cond.instanceMethod yX6_loudestIn, Cond.selects RX6 yX6_loudestIn yX6_loudestIn, Cond.code yX6_loudestIn cX6_loudestIn 7 (some .int), Cond.fieldLink RX6 15 "PaperWalls$Street" "depth" "[I", Cond.methodLink RX6 104 Lib.Math.abs.name, Cond.static Lib.Math.abs.name, Cond.code Lib.Math.abs.name Lib.Math.abs.code 1 (some .int)]
def wsX8_tell_r3 : List Cond := [Cond.methodLink RX6 117 yX6_comesTo, Cond.instanceMethod yX6_comesTo, Cond.selects RX6 yX6_comesTo yX6_comesTo, Cond.code yX6_comesTo cX6_comesTo 3 (some .int), Cond.methodLink RX6 120 yX2_isEnough, Cond.static yX2_isEnough, Cond.initialized RX2, Cond.code yX2_isEnough cX2_isEnough 4 (some .boolean), Cond.fieldLink RX2 15 "PaperWalls$Kinds" "LEAST" "[I", Cond.methodLink RX8 294 yX1_add, Cond.instanceMethod yX1_add, Cond.selects RX1 yX1_add yX1_add, Cond.code yX1_add cX1_add 4 none, Cond.fieldLink RX1 9 "PaperWalls$Hours" "tellers" "[I", Cond.fieldLink RX1 27 "PaperWalls$Hours" "size" "I", Cond.fieldLink RX1 13 "PaperWalls$Hours" "things" "[I", Cond.fieldLink RX1 16 "PaperWalls$Hours" "heardBy" "[I", Cond.fieldLink RX1 19 "PaperWalls$Hours" "ahead" "[J", Cond.methodLink RX1 41 yX1_learn, Cond.instanceMethod yX1_learn, Cond.selects RX1 yX1_learn yX1_learn, Cond.code yX1_learn cX1_learn 3 none]
def wsX8_tell : List Cond := .code yX8_tell cX8_tell 3 (some .int) :: ((wsX8_tell_r1 ++ (wsX8_tell_r2 ++ wsX8_tell_r3)) ++ wsX80 ++ wsX60 ++ wsX10)
def wsX8_undo : List Cond := .code yX8_undo cX8_undo 3 (some .int) :: ([.fieldLink RX8 24 "PaperWalls" "now" "LPaperWalls$Street;", .fieldLink RX8 281 "PaperWalls$Street" "hours" "LPaperWalls$Hours;", .fieldLink RX8 293 "PaperWalls$Hours" "size" "I", .methodLink RX8 298 yX1_backTo, .instanceMethod yX1_backTo, .selects RX1 yX1_backTo yX1_backTo, .initialized RX1, .code yX1_backTo cX1_backTo 2 none, .fieldLink RX1 27 "PaperWalls$Hours" "size" "I", .fieldLink RX1 19 "PaperWalls$Hours" "ahead" "[J", .fieldLink RX1 23 "PaperWalls$Hours" "known" "J"] ++ wsX80 ++ wsX60 ++ wsX10)
def wsX8_know : List Cond := .code yX8_know cX8_know 2 (some .int) :: ([.fieldLink RX8 24 "PaperWalls" "now" "LPaperWalls$Street;", .fieldLink RX8 281 "PaperWalls$Street" "hours" "LPaperWalls$Hours;", .methodLink RX8 278 yX8_isThing, .static yX8_isThing, .initialized RX8, .code yX8_isThing cX8_isThing 1 (some .boolean), .methodLink RX8 290 yX1_whoKnow, .instanceMethod yX1_whoKnow, .selects RX1 yX1_whoKnow yX1_whoKnow, .initialized RX1, .code yX1_whoKnow cX1_whoKnow 2 (some .int), .fieldLink RX1 23 "PaperWalls$Hours" "known" "J"] ++ wsX80 ++ wsX60 ++ wsX10)
def wsX8_knowsThat_r1 : List Cond := [Cond.fieldLink RX8 24 "PaperWalls" "now" "LPaperWalls$Street;", Cond.fieldLink RX8 281 "PaperWalls$Street" "hours" "LPaperWalls$Hours;", Cond.fieldLink RX8 293 "PaperWalls$Hours" "size" "I", Cond.fieldLink RX8 301 "PaperWalls$Hours" "things" "[I", Cond.methodLink RX8 180 yX8_areTwo, Cond.instanceMethod yX8_areTwo, Cond.selects RX8 yX8_areTwo yX8_areTwo, Cond.initialized RX8, Cond.code yX8_areTwo cX8_areTwo 3 (some .boolean), Cond.methodLink RX8 134 yX8_isOne, Cond.instanceMethod yX8_isOne, Cond.selects RX8 yX8_isOne yX8_isOne, Cond.code yX8_isOne cX8_isOne 2 (some .boolean), Cond.fieldLink RX8 131 "PaperWalls$Street" "people" "I", Cond.methodLink RX8 278 yX8_isThing, Cond.static yX8_isThing, Cond.code yX8_isThing cX8_isThing 1 (some .boolean), Cond.methodLink RX8 186 yX6_isHeardBy, Cond.instanceMethod yX6_isHeardBy, Cond.selects RX6 yX6_isHeardBy yX6_isHeardBy, Cond.initialized RX6, Cond.code yX6_isHeardBy cX6_isHeardBy 3 (some .boolean), Cond.fieldLink RX6 18 "PaperWalls$Street" "kinds" "[I", Cond.fieldLink RX6 21 "PaperWalls$Street" "rooms" "[I"]
def wsX8_knowsThat_r2 : List Cond := [Cond.methodLink RX6 117 yX6_comesTo, Cond.instanceMethod yX6_comesTo, Cond.selects RX6 yX6_comesTo yX6_comesTo, Cond.code yX6_comesTo cX6_comesTo 3 (some .int), Cond.fieldLink RX6 91 "PaperWalls$Kinds" "SPEAKS" "[I", Cond.fieldLink RX6 15 "PaperWalls$Street" "depth" "[I", Cond.methodLink RX6 104 Lib.Math.abs.name, Cond.static Lib.Math.abs.name, Cond.initialized "java/lang/Math", Cond.code Lib.Math.abs.name Lib.Math.abs.code 1 (some .int), Cond.methodLink RX6 120 yX2_isEnough, Cond.static yX2_isEnough, Cond.initialized RX2, Cond.code yX2_isEnough cX2_isEnough 4 (some .boolean), Cond.fieldLink RX2 15 "PaperWalls$Kinds" "LEAST" "[I", Cond.methodLink RX8 304 yX1_showed, Cond.instanceMethod yX1_showed, Cond.selects RX1 yX1_showed yX1_showed, Cond.initialized RX1, Cond.code yX1_showed cX1_showed 7 (some .boolean), Cond.fieldLink RX1 16 "PaperWalls$Hours" "heardBy" "[I", Cond.fieldLink RX1 9 "PaperWalls$Hours" "tellers" "[I"]
def wsX8_knowsThat : List Cond := .code yX8_knowsThat cX8_knowsThat 6 (some .int) :: ((wsX8_knowsThat_r1 ++ wsX8_knowsThat_r2) ++ wsX80 ++ wsX60 ++ wsX10)
def wsX8_spread_r1 : List Cond := [Cond.fieldLink RX8 24 "PaperWalls" "now" "LPaperWalls$Street;", Cond.fieldLink RX8 281 "PaperWalls$Street" "hours" "LPaperWalls$Hours;", Cond.fieldLink RX8 131 "PaperWalls$Street" "people" "I", Cond.methodLink RX8 278 yX8_isThing, Cond.static yX8_isThing, Cond.initialized RX8, Cond.code yX8_isThing cX8_isThing 1 (some .boolean), Cond.methodLink RX8 290 yX1_whoKnow, Cond.instanceMethod yX1_whoKnow, Cond.selects RX1 yX1_whoKnow yX1_whoKnow, Cond.initialized RX1, Cond.code yX1_whoKnow cX1_whoKnow 2 (some .int), Cond.fieldLink RX1 23 "PaperWalls$Hours" "known" "J", Cond.methodLink RX8 148 yX6_whoHear, Cond.instanceMethod yX6_whoHear, Cond.selects RX6 yX6_whoHear yX6_whoHear, Cond.initialized RX6, Cond.code yX6_whoHear cX6_whoHear 3 (some .int), Cond.methodLink RX6 124 yX6_everyone, Cond.instanceMethod yX6_everyone, Cond.selects RX6 yX6_everyone yX6_everyone, Cond.code yX6_everyone cX6_everyone 1 (some .int), Cond.fieldLink RX6 44 "PaperWalls$Street" "people" "I", Cond.methodLink RX6 128 yX6_whoHearOf]
def wsX8_spread_r2 : List Cond := [Cond.instanceMethod yX6_whoHearOf, Cond.selects RX6 yX6_whoHearOf yX6_whoHearOf, Cond.code yX6_whoHearOf cX6_whoHearOf 10 (some .int), Cond.fieldLink RX6 21 "PaperWalls$Street" "rooms" "[I", Cond.fieldLink RX6 94 "PaperWalls$Kinds" "SINGS" "[I", Cond.fieldLink RX6 91 "PaperWalls$Kinds" "SPEAKS" "[I", Cond.methodLink RX6 113 Lib.Math.max.name, Cond.static Lib.Math.max.name, Cond.initialized "java/lang/Math", Cond.code Lib.Math.max.name Lib.Math.max.code 2 (some .int), Cond.fieldLink RX6 18 "PaperWalls$Street" "kinds" "[I", Cond.methodLink RX6 109 yX6_loudestIn, Cond.instanceMethod yX6_loudestIn, Cond.selects RX6 yX6_loudestIn yX6_loudestIn, Cond.code yX6_loudestIn cX6_loudestIn 7 (some .int), Cond.fieldLink RX6 15 "PaperWalls$Street" "depth" "[I", Cond.methodLink RX6 104 Lib.Math.abs.name, Cond.static Lib.Math.abs.name, Cond.code Lib.Math.abs.name Lib.Math.abs.code 1 (some .int), Cond.methodLink RX6 117 yX6_comesTo, Cond.instanceMethod yX6_comesTo, Cond.selects RX6 yX6_comesTo yX6_comesTo, Cond.code yX6_comesTo cX6_comesTo 3 (some .int), Cond.methodLink RX6 120 yX2_isEnough]
def wsX8_spread_r3 : List Cond := [Cond.static yX2_isEnough, Cond.initialized RX2, Cond.code yX2_isEnough cX2_isEnough 4 (some .boolean), Cond.fieldLink RX2 15 "PaperWalls$Kinds" "LEAST" "[I"]
def wsX8_spread : List Cond := .code yX8_spread cX8_spread 7 (some .int) :: ((wsX8_spread_r1 ++ (wsX8_spread_r2 ++ wsX8_spread_r3)) ++ wsX80 ++ wsX60 ++ wsX10)
def wsX8_leak_r1 : List Cond := [Cond.fieldLink RX8 24 "PaperWalls" "now" "LPaperWalls$Street;", Cond.fieldLink RX8 131 "PaperWalls$Street" "people" "I", Cond.methodLink RX8 189 yX8_isSet, Cond.instanceMethod yX8_isSet, Cond.selects RX8 yX8_isSet yX8_isSet, Cond.initialized RX8, Cond.code yX8_isSet cX8_isSet 2 (some .boolean), Cond.methodLink RX8 192 yX6_everyone, Cond.instanceMethod yX6_everyone, Cond.selects RX6 yX6_everyone yX6_everyone, Cond.initialized RX6, Cond.code yX6_everyone cX6_everyone 1 (some .int), Cond.fieldLink RX6 44 "PaperWalls$Street" "people" "I", Cond.methodLink RX8 308 yX6_circleOf, Cond.instanceMethod yX6_circleOf, Cond.selects RX6 yX6_circleOf yX6_circleOf, Cond.code yX6_circleOf cX6_circleOf 2 (some .int), Cond.methodLink RX6 132 yX6_whoHear, Cond.instanceMethod yX6_whoHear, Cond.selects RX6 yX6_whoHear yX6_whoHear, Cond.code yX6_whoHear cX6_whoHear 3 (some .int), Cond.methodLink RX6 124 yX6_everyone, Cond.methodLink RX6 128 yX6_whoHearOf, Cond.instanceMethod yX6_whoHearOf]
def wsX8_leak_r2 : List Cond := [Cond.selects RX6 yX6_whoHearOf yX6_whoHearOf, Cond.code yX6_whoHearOf cX6_whoHearOf 10 (some .int), Cond.fieldLink RX6 21 "PaperWalls$Street" "rooms" "[I", Cond.fieldLink RX6 94 "PaperWalls$Kinds" "SINGS" "[I", Cond.fieldLink RX6 91 "PaperWalls$Kinds" "SPEAKS" "[I", Cond.methodLink RX6 113 Lib.Math.max.name, Cond.static Lib.Math.max.name, Cond.initialized "java/lang/Math", Cond.code Lib.Math.max.name Lib.Math.max.code 2 (some .int), Cond.fieldLink RX6 18 "PaperWalls$Street" "kinds" "[I", Cond.methodLink RX6 109 yX6_loudestIn, Cond.instanceMethod yX6_loudestIn, Cond.selects RX6 yX6_loudestIn yX6_loudestIn, Cond.code yX6_loudestIn cX6_loudestIn 7 (some .int), Cond.fieldLink RX6 15 "PaperWalls$Street" "depth" "[I", Cond.methodLink RX6 104 Lib.Math.abs.name, Cond.static Lib.Math.abs.name, Cond.code Lib.Math.abs.name Lib.Math.abs.code 1 (some .int), Cond.methodLink RX6 117 yX6_comesTo, Cond.instanceMethod yX6_comesTo, Cond.selects RX6 yX6_comesTo yX6_comesTo, Cond.code yX6_comesTo cX6_comesTo 3 (some .int), Cond.methodLink RX6 120 yX2_isEnough, Cond.static yX2_isEnough]
def wsX8_leak_r3 : List Cond := [Cond.initialized RX2, Cond.code yX2_isEnough cX2_isEnough 4 (some .boolean), Cond.fieldLink RX2 15 "PaperWalls$Kinds" "LEAST" "[I"]
def wsX8_leak : List Cond := .code yX8_leak cX8_leak 4 (some .int) :: ((wsX8_leak_r1 ++ (wsX8_leak_r2 ++ wsX8_leak_r3)) ++ wsX80 ++ wsX60)
def wsX8_leaks_r1 : List Cond := [Cond.fieldLink RX8 24 "PaperWalls" "now" "LPaperWalls$Street;", Cond.fieldLink RX8 131 "PaperWalls$Street" "people" "I", Cond.methodLink RX8 189 yX8_isSet, Cond.instanceMethod yX8_isSet, Cond.selects RX8 yX8_isSet yX8_isSet, Cond.initialized RX8, Cond.code yX8_isSet cX8_isSet 2 (some .boolean), Cond.methodLink RX8 192 yX6_everyone, Cond.instanceMethod yX6_everyone, Cond.selects RX6 yX6_everyone yX6_everyone, Cond.initialized RX6, Cond.code yX6_everyone cX6_everyone 1 (some .int), Cond.fieldLink RX6 44 "PaperWalls$Street" "people" "I", Cond.methodLink RX8 308 yX6_circleOf, Cond.instanceMethod yX6_circleOf, Cond.selects RX6 yX6_circleOf yX6_circleOf, Cond.code yX6_circleOf cX6_circleOf 2 (some .int), Cond.methodLink RX6 132 yX6_whoHear, Cond.instanceMethod yX6_whoHear, Cond.selects RX6 yX6_whoHear yX6_whoHear, Cond.code yX6_whoHear cX6_whoHear 3 (some .int), Cond.methodLink RX6 124 yX6_everyone, Cond.methodLink RX6 128 yX6_whoHearOf, Cond.instanceMethod yX6_whoHearOf]
def wsX8_leaks_r2 : List Cond := [Cond.selects RX6 yX6_whoHearOf yX6_whoHearOf, Cond.code yX6_whoHearOf cX6_whoHearOf 10 (some .int), Cond.fieldLink RX6 21 "PaperWalls$Street" "rooms" "[I", Cond.fieldLink RX6 94 "PaperWalls$Kinds" "SINGS" "[I", Cond.fieldLink RX6 91 "PaperWalls$Kinds" "SPEAKS" "[I", Cond.methodLink RX6 113 Lib.Math.max.name, Cond.static Lib.Math.max.name, Cond.initialized "java/lang/Math", Cond.code Lib.Math.max.name Lib.Math.max.code 2 (some .int), Cond.fieldLink RX6 18 "PaperWalls$Street" "kinds" "[I", Cond.methodLink RX6 109 yX6_loudestIn, Cond.instanceMethod yX6_loudestIn, Cond.selects RX6 yX6_loudestIn yX6_loudestIn, Cond.code yX6_loudestIn cX6_loudestIn 7 (some .int), Cond.fieldLink RX6 15 "PaperWalls$Street" "depth" "[I", Cond.methodLink RX6 104 Lib.Math.abs.name, Cond.static Lib.Math.abs.name, Cond.code Lib.Math.abs.name Lib.Math.abs.code 1 (some .int), Cond.methodLink RX6 117 yX6_comesTo, Cond.instanceMethod yX6_comesTo, Cond.selects RX6 yX6_comesTo yX6_comesTo, Cond.code yX6_comesTo cX6_comesTo 3 (some .int), Cond.methodLink RX6 120 yX2_isEnough, Cond.static yX2_isEnough]
def wsX8_leaks_r3 : List Cond := [Cond.initialized RX2, Cond.code yX2_isEnough cX2_isEnough 4 (some .boolean), Cond.fieldLink RX2 15 "PaperWalls$Kinds" "LEAST" "[I"]
def wsX8_leaks : List Cond := .code yX8_leaks cX8_leaks 6 (some .int) :: ((wsX8_leaks_r1 ++ (wsX8_leaks_r2 ++ wsX8_leaks_r3)) ++ wsX80 ++ wsX60)
def wsX8_isPlace : List Cond := .code yX8_isPlace cX8_isPlace 1 (some .boolean) :: ([])
def wsX8_keep_r1 : List Cond := [Cond.fieldLink RX8 24 "PaperWalls" "now" "LPaperWalls$Street;", Cond.fieldLink RX8 131 "PaperWalls$Street" "people" "I", Cond.fieldLink RX8 31 "PaperWalls" "places" "[LPaperWalls$Street;", Cond.fieldLink RX8 35 "PaperWalls" "isKept" "[Z", Cond.fieldLink RX8 281 "PaperWalls$Street" "hours" "LPaperWalls$Hours;", Cond.fieldLink RX8 293 "PaperWalls$Hours" "size" "I", Cond.methodLink RX8 311 yX8_isPlace, Cond.static yX8_isPlace, Cond.initialized RX8, Cond.code yX8_isPlace cX8_isPlace 1 (some .boolean), Cond.methodLink RX8 127 yX6_become, Cond.instanceMethod yX6_become, Cond.selects RX6 yX6_become yX6_become, Cond.initialized RX6, Cond.code yX6_become cX6_become 2 none, Cond.fieldLink RX6 40 "PaperWalls$Street" "walls" "I", Cond.fieldLink RX6 44 "PaperWalls$Street" "people" "I", Cond.fieldLink RX6 47 "PaperWalls$Street" "talks" "I", Cond.fieldLink RX6 11 "PaperWalls$Street" "layers" "[I", Cond.methodLink RX6 50 arraycopyName, Cond.native arraycopyName, Cond.static arraycopyName, Cond.initialized "java/lang/System", Cond.fieldLink RX6 15 "PaperWalls$Street" "depth" "[I"]
def wsX8_keep_r2 : List Cond := [Cond.fieldLink RX6 18 "PaperWalls$Street" "kinds" "[I", Cond.fieldLink RX6 21 "PaperWalls$Street" "rooms" "[I", Cond.fieldLink RX6 24 "PaperWalls$Street" "speaker" "[I", Cond.fieldLink RX6 27 "PaperWalls$Street" "hearer" "[I", Cond.fieldLink RX6 30 "PaperWalls$Street" "barred" "[I", Cond.fieldLink RX6 36 "PaperWalls$Street" "hours" "LPaperWalls$Hours;", Cond.methodLink RX6 56 yX1_become, Cond.instanceMethod yX1_become, Cond.selects RX1 yX1_become yX1_become, Cond.initialized RX1, Cond.code yX1_become cX1_become 2 none, Cond.fieldLink RX1 9 "PaperWalls$Hours" "tellers" "[I", Cond.methodLink RX1 31 arraycopyName, Cond.fieldLink RX1 13 "PaperWalls$Hours" "things" "[I", Cond.fieldLink RX1 16 "PaperWalls$Hours" "heardBy" "[I", Cond.fieldLink RX1 19 "PaperWalls$Hours" "ahead" "[J", Cond.fieldLink RX1 23 "PaperWalls$Hours" "known" "J", Cond.fieldLink RX1 27 "PaperWalls$Hours" "size" "I"]
def wsX8_keep : List Cond := .code yX8_keep cX8_keep 2 (some .int) :: ((wsX8_keep_r1 ++ wsX8_keep_r2) ++ wsX80 ++ wsX60 ++ wsX10)
def wsX8_on_r1 : List Cond := [Cond.fieldLink RX8 35 "PaperWalls" "isKept" "[Z", Cond.fieldLink RX8 24 "PaperWalls" "now" "LPaperWalls$Street;", Cond.fieldLink RX8 31 "PaperWalls" "places" "[LPaperWalls$Street;", Cond.fieldLink RX8 281 "PaperWalls$Street" "hours" "LPaperWalls$Hours;", Cond.fieldLink RX8 293 "PaperWalls$Hours" "size" "I", Cond.methodLink RX8 311 yX8_isPlace, Cond.static yX8_isPlace, Cond.initialized RX8, Cond.code yX8_isPlace cX8_isPlace 1 (some .boolean), Cond.methodLink RX8 70 yX8_find, Cond.instanceMethod yX8_find, Cond.selects RX8 yX8_find yX8_find, Cond.code yX8_find cX8_find 2 (some .int), Cond.fieldLink RX8 340 "PaperWalls" "latest" "I", Cond.fieldLink RX8 60 "PaperWalls" "tally" "[I", Cond.methodLink RX8 127 yX6_become, Cond.instanceMethod yX6_become, Cond.selects RX6 yX6_become yX6_become, Cond.initialized RX6, Cond.code yX6_become cX6_become 2 none, Cond.fieldLink RX6 40 "PaperWalls$Street" "walls" "I", Cond.fieldLink RX6 44 "PaperWalls$Street" "people" "I", Cond.fieldLink RX6 47 "PaperWalls$Street" "talks" "I", Cond.fieldLink RX6 11 "PaperWalls$Street" "layers" "[I"]
def wsX8_on_r2 : List Cond := [Cond.methodLink RX6 50 arraycopyName, Cond.native arraycopyName, Cond.static arraycopyName, Cond.initialized "java/lang/System", Cond.fieldLink RX6 15 "PaperWalls$Street" "depth" "[I", Cond.fieldLink RX6 18 "PaperWalls$Street" "kinds" "[I", Cond.fieldLink RX6 21 "PaperWalls$Street" "rooms" "[I", Cond.fieldLink RX6 24 "PaperWalls$Street" "speaker" "[I", Cond.fieldLink RX6 27 "PaperWalls$Street" "hearer" "[I", Cond.fieldLink RX6 30 "PaperWalls$Street" "barred" "[I", Cond.fieldLink RX6 36 "PaperWalls$Street" "hours" "LPaperWalls$Hours;", Cond.methodLink RX6 56 yX1_become, Cond.instanceMethod yX1_become, Cond.selects RX1 yX1_become yX1_become, Cond.initialized RX1, Cond.code yX1_become cX1_become 2 none, Cond.fieldLink RX1 9 "PaperWalls$Hours" "tellers" "[I", Cond.methodLink RX1 31 arraycopyName, Cond.fieldLink RX1 13 "PaperWalls$Hours" "things" "[I", Cond.fieldLink RX1 16 "PaperWalls$Hours" "heardBy" "[I", Cond.fieldLink RX1 19 "PaperWalls$Hours" "ahead" "[J", Cond.fieldLink RX1 23 "PaperWalls$Hours" "known" "J", Cond.fieldLink RX1 27 "PaperWalls$Hours" "size" "I"]
def wsX8_on : List Cond := .code yX8_on cX8_on 2 (some .int) :: ((wsX8_on_r1 ++ wsX8_on_r2) ++ wsX80 ++ wsX60 ++ wsX10)
def wsX8_asked : List Cond := .code yX8_asked cX8_asked 1 (some .int) :: ([.fieldLink RX8 92 "PaperWalls" "told" "I"] ++ wsX80)
def wsX8_commonDivisor : List Cond := .code yX8_commonDivisor cX8_commonDivisor 4 (some .int) :: ([.methodLink RX8 271 Lib.Math.max.name, .static Lib.Math.max.name, .initialized "java/lang/Math", .code Lib.Math.max.name Lib.Math.max.code 2 (some .int)])
def wsX8_upper_r1 : List Cond := [Cond.fieldLink RX8 24 "PaperWalls" "now" "LPaperWalls$Street;", Cond.methodLink RX8 319 yX6_heardPairs, Cond.instanceMethod yX6_heardPairs, Cond.selects RX6 yX6_heardPairs yX6_heardPairs, Cond.initialized RX6, Cond.code yX6_heardPairs cX6_heardPairs 3 (some .int), Cond.fieldLink RX6 44 "PaperWalls$Street" "people" "I", Cond.methodLink RX6 132 yX6_whoHear, Cond.instanceMethod yX6_whoHear, Cond.selects RX6 yX6_whoHear yX6_whoHear, Cond.code yX6_whoHear cX6_whoHear 3 (some .int), Cond.methodLink RX6 124 yX6_everyone, Cond.instanceMethod yX6_everyone, Cond.selects RX6 yX6_everyone yX6_everyone, Cond.code yX6_everyone cX6_everyone 1 (some .int), Cond.methodLink RX6 128 yX6_whoHearOf, Cond.instanceMethod yX6_whoHearOf, Cond.selects RX6 yX6_whoHearOf yX6_whoHearOf, Cond.code yX6_whoHearOf cX6_whoHearOf 10 (some .int), Cond.fieldLink RX6 21 "PaperWalls$Street" "rooms" "[I", Cond.fieldLink RX6 94 "PaperWalls$Kinds" "SINGS" "[I", Cond.fieldLink RX6 91 "PaperWalls$Kinds" "SPEAKS" "[I", Cond.methodLink RX6 113 Lib.Math.max.name, Cond.static Lib.Math.max.name]
def wsX8_upper_r2 : List Cond := [Cond.initialized "java/lang/Math", Cond.code Lib.Math.max.name Lib.Math.max.code 2 (some .int), Cond.fieldLink RX6 18 "PaperWalls$Street" "kinds" "[I", Cond.methodLink RX6 109 yX6_loudestIn, Cond.instanceMethod yX6_loudestIn, Cond.selects RX6 yX6_loudestIn yX6_loudestIn, Cond.code yX6_loudestIn cX6_loudestIn 7 (some .int), Cond.fieldLink RX6 15 "PaperWalls$Street" "depth" "[I", Cond.methodLink RX6 104 Lib.Math.abs.name, Cond.static Lib.Math.abs.name, Cond.code Lib.Math.abs.name Lib.Math.abs.code 1 (some .int), Cond.methodLink RX6 117 yX6_comesTo, Cond.instanceMethod yX6_comesTo, Cond.selects RX6 yX6_comesTo yX6_comesTo, Cond.code yX6_comesTo cX6_comesTo 3 (some .int), Cond.methodLink RX6 120 yX2_isEnough, Cond.static yX2_isEnough, Cond.initialized RX2, Cond.code yX2_isEnough cX2_isEnough 4 (some .boolean), Cond.fieldLink RX2 15 "PaperWalls$Kinds" "LEAST" "[I", Cond.methodLink RX6 135 yJ6_bitCount_0f7a4, Cond.static yJ6_bitCount_0f7a4, Cond.initialized RJ6, Cond.code yJ6_bitCount_0f7a4 cJ6_bitCount_0f7a4 1 (some .int)]
def wsX8_upper_r3 : List Cond := [Cond.constant RJ6 265 (1431655765), Cond.constant RJ6 266 (858993459), Cond.constant RJ6 267 (252645135), Cond.methodLink RX8 322 yX6_pairs, Cond.instanceMethod yX6_pairs, Cond.selects RX6 yX6_pairs yX6_pairs, Cond.code yX6_pairs cX6_pairs 1 (some .int), Cond.methodLink RX8 325 yX8_commonDivisor, Cond.static yX8_commonDivisor, Cond.initialized RX8, Cond.code yX8_commonDivisor cX8_commonDivisor 4 (some .int), Cond.methodLink RX8 271 Lib.Math.max.name]
def wsX8_upper : List Cond := .code yX8_upper cX8_upper 2 (some .long) :: ((wsX8_upper_r1 ++ (wsX8_upper_r2 ++ wsX8_upper_r3)) ++ wsX80 ++ wsX60)
def wsX8_lower_r1 : List Cond := [Cond.fieldLink RX8 24 "PaperWalls" "now" "LPaperWalls$Street;", Cond.methodLink RX8 322 yX6_pairs, Cond.instanceMethod yX6_pairs, Cond.selects RX6 yX6_pairs yX6_pairs, Cond.initialized RX6, Cond.code yX6_pairs cX6_pairs 1 (some .int), Cond.fieldLink RX6 44 "PaperWalls$Street" "people" "I", Cond.methodLink RX6 113 Lib.Math.max.name, Cond.static Lib.Math.max.name, Cond.initialized "java/lang/Math", Cond.code Lib.Math.max.name Lib.Math.max.code 2 (some .int), Cond.methodLink RX8 319 yX6_heardPairs, Cond.instanceMethod yX6_heardPairs, Cond.selects RX6 yX6_heardPairs yX6_heardPairs, Cond.code yX6_heardPairs cX6_heardPairs 3 (some .int), Cond.methodLink RX6 132 yX6_whoHear, Cond.instanceMethod yX6_whoHear, Cond.selects RX6 yX6_whoHear yX6_whoHear, Cond.code yX6_whoHear cX6_whoHear 3 (some .int), Cond.methodLink RX6 124 yX6_everyone, Cond.instanceMethod yX6_everyone, Cond.selects RX6 yX6_everyone yX6_everyone, Cond.code yX6_everyone cX6_everyone 1 (some .int), Cond.methodLink RX6 128 yX6_whoHearOf]
def wsX8_lower_r2 : List Cond := [Cond.instanceMethod yX6_whoHearOf, Cond.selects RX6 yX6_whoHearOf yX6_whoHearOf, Cond.code yX6_whoHearOf cX6_whoHearOf 10 (some .int), Cond.fieldLink RX6 21 "PaperWalls$Street" "rooms" "[I", Cond.fieldLink RX6 94 "PaperWalls$Kinds" "SINGS" "[I", Cond.fieldLink RX6 91 "PaperWalls$Kinds" "SPEAKS" "[I", Cond.fieldLink RX6 18 "PaperWalls$Street" "kinds" "[I", Cond.methodLink RX6 109 yX6_loudestIn, Cond.instanceMethod yX6_loudestIn, Cond.selects RX6 yX6_loudestIn yX6_loudestIn, Cond.code yX6_loudestIn cX6_loudestIn 7 (some .int), Cond.fieldLink RX6 15 "PaperWalls$Street" "depth" "[I", Cond.methodLink RX6 104 Lib.Math.abs.name, Cond.static Lib.Math.abs.name, Cond.code Lib.Math.abs.name Lib.Math.abs.code 1 (some .int), Cond.methodLink RX6 117 yX6_comesTo, Cond.instanceMethod yX6_comesTo, Cond.selects RX6 yX6_comesTo yX6_comesTo, Cond.code yX6_comesTo cX6_comesTo 3 (some .int), Cond.methodLink RX6 120 yX2_isEnough, Cond.static yX2_isEnough, Cond.initialized RX2, Cond.code yX2_isEnough cX2_isEnough 4 (some .boolean), Cond.fieldLink RX2 15 "PaperWalls$Kinds" "LEAST" "[I"]
def wsX8_lower_r3 : List Cond := [Cond.methodLink RX6 135 yJ6_bitCount_0f7a4, Cond.static yJ6_bitCount_0f7a4, Cond.initialized RJ6, Cond.code yJ6_bitCount_0f7a4 cJ6_bitCount_0f7a4 1 (some .int), Cond.constant RJ6 265 (1431655765), Cond.constant RJ6 266 (858993459), Cond.constant RJ6 267 (252645135), Cond.methodLink RX8 325 yX8_commonDivisor, Cond.static yX8_commonDivisor, Cond.initialized RX8, Cond.code yX8_commonDivisor cX8_commonDivisor 4 (some .int), Cond.methodLink RX8 271 Lib.Math.max.name]
def wsX8_lower : List Cond := .code yX8_lower cX8_lower 2 (some .long) :: ((wsX8_lower_r1 ++ (wsX8_lower_r2 ++ wsX8_lower_r3)) ++ wsX80 ++ wsX60)
def wsX8_howManyRows : List Cond := .code yX8_howManyRows cX8_howManyRows 3 (some .int) :: ([.fieldLink RX8 11 "PaperWalls" "rows" "[LPaperWalls$Row;", .methodLink RX8 85 yX4_isMissing, .instanceMethod yX4_isMissing, .selects RX4 yX4_isMissing yX4_isMissing, .initialized RX4, .code yX4_isMissing cX4_isMissing 1 (some .boolean), .fieldLink RX4 13 "PaperWalls$Row" "size" "I"] ++ wsX80 ++ wsX40)
def wsX8_howManyTexts : List Cond := .code yX8_howManyTexts cX8_howManyTexts 3 (some .int) :: ([.fieldLink RX8 17 "PaperWalls" "texts" "[LPaperWalls$Text;", .methodLink RX8 117 yX7_isMissing, .instanceMethod yX7_isMissing, .selects RX7 yX7_isMissing yX7_isMissing, .initialized RX7, .code yX7_isMissing cX7_isMissing 1 (some .boolean), .fieldLink RX7 13 "PaperWalls$Text" "size" "I"] ++ wsX80 ++ wsX70)
def wsX8_howManyKept : List Cond := .code yX8_howManyKept cX8_howManyKept 3 (some .int) :: ([.fieldLink RX8 35 "PaperWalls" "isKept" "[Z"] ++ wsX80)
def wsX8_count_r1 : List Cond := [Cond.fieldLink RX8 24 "PaperWalls" "now" "LPaperWalls$Street;", Cond.fieldLink RX8 131 "PaperWalls$Street" "people" "I", Cond.fieldLink RX8 165 "PaperWalls$Street" "walls" "I", Cond.fieldLink RX8 202 "PaperWalls$Street" "talks" "I", Cond.fieldLink RX8 281 "PaperWalls$Street" "hours" "LPaperWalls$Hours;", Cond.fieldLink RX8 293 "PaperWalls$Hours" "size" "I", Cond.methodLink RX8 328 yX6_howManyOf, Cond.instanceMethod yX6_howManyOf, Cond.selects RX6 yX6_howManyOf yX6_howManyOf, Cond.initialized RX6, Cond.code yX6_howManyOf cX6_howManyOf 4 (some .int), Cond.fieldLink RX6 44 "PaperWalls$Street" "people" "I", Cond.fieldLink RX6 18 "PaperWalls$Street" "kinds" "[I", Cond.methodLink RX6 100 yX2_isOf, Cond.static yX2_isOf, Cond.initialized RX2, Cond.code yX2_isOf cX2_isOf 2 (some .boolean), Cond.fieldLink RX2 9 "PaperWalls$Kinds" "WIDER" "[I", Cond.methodLink RX8 331 yX8_howManyRows, Cond.instanceMethod yX8_howManyRows, Cond.selects RX8 yX8_howManyRows yX8_howManyRows, Cond.initialized RX8, Cond.code yX8_howManyRows cX8_howManyRows 3 (some .int), Cond.fieldLink RX8 11 "PaperWalls" "rows" "[LPaperWalls$Row;"]
def wsX8_count_r2 : List Cond := [Cond.methodLink RX8 85 yX4_isMissing, Cond.instanceMethod yX4_isMissing, Cond.selects RX4 yX4_isMissing yX4_isMissing, Cond.initialized RX4, Cond.code yX4_isMissing cX4_isMissing 1 (some .boolean), Cond.fieldLink RX4 13 "PaperWalls$Row" "size" "I", Cond.methodLink RX8 334 yX8_howManyTexts, Cond.instanceMethod yX8_howManyTexts, Cond.selects RX8 yX8_howManyTexts yX8_howManyTexts, Cond.code yX8_howManyTexts cX8_howManyTexts 3 (some .int), Cond.fieldLink RX8 17 "PaperWalls" "texts" "[LPaperWalls$Text;", Cond.methodLink RX8 117 yX7_isMissing, Cond.instanceMethod yX7_isMissing, Cond.selects RX7 yX7_isMissing yX7_isMissing, Cond.initialized RX7, Cond.code yX7_isMissing cX7_isMissing 1 (some .boolean), Cond.fieldLink RX7 13 "PaperWalls$Text" "size" "I", Cond.methodLink RX8 337 yX8_howManyKept, Cond.instanceMethod yX8_howManyKept, Cond.selects RX8 yX8_howManyKept yX8_howManyKept, Cond.code yX8_howManyKept cX8_howManyKept 3 (some .int), Cond.fieldLink RX8 35 "PaperWalls" "isKept" "[Z"]
def wsX8_count : List Cond := .code yX8_count cX8_count 2 (some .int) :: ((wsX8_count_r1 ++ wsX8_count_r2) ++ wsX80 ++ wsX60 ++ wsX10 ++ wsX40 ++ wsX70)
def wsJ9_abs_0f7a4 : List Cond := .code yJ9_abs_0f7a4 cJ9_abs_0f7a4 1 (some .int) :: ([])
def wsJ9_max_7cf53 : List Cond := .code yJ9_max_7cf53 cJ9_max_7cf53 2 (some .int) :: ([])
def wsJ9_min_7cf53 : List Cond := .code yJ9_min_7cf53 cJ9_min_7cf53 2 (some .int) :: ([])
def wsL_cell : List Cond := .code yL_cell cL_cell 2 (some .int) :: ([.constant RL 7 (625341585)])
def wsL_some : List Cond := .code yL_some cL_some 2 (some .int) :: ([.constant RL 8 (2147483647)])
def wsL_size : List Cond := .code yL_size cL_size 3 (some .int) :: ([])
def wsL_letter : List Cond := .code yL_letter cL_letter 1 (some .int) :: ([])
def wsL_build_r1 : List Cond := [Cond.arrayClass .int, Cond.methodLink RL 30 yL_cell, Cond.static yL_cell, Cond.initialized RL, Cond.code yL_cell cL_cell 2 (some .int), Cond.constant RL 7 (625341585), Cond.methodLink RL 34 yL_some, Cond.static yL_some, Cond.code yL_some cL_some 2 (some .int), Cond.constant RL 8 (2147483647), Cond.methodLink RL 38 yL_letter, Cond.static yL_letter, Cond.code yL_letter cL_letter 1 (some .int), Cond.methodLink RL 41 yX8_text, Cond.instanceMethod yX8_text, Cond.selects RX8 yX8_text yX8_text, Cond.initialized RX8, Cond.code yX8_text cX8_text 3 (some .int), Cond.fieldLink RX8 17 "PaperWalls" "texts" "[LPaperWalls$Text;", Cond.methodLink RX8 113 yX8_isText, Cond.static yX8_isText, Cond.code yX8_isText cX8_isText 1 (some .boolean), Cond.methodLink RX8 70 yX8_find, Cond.instanceMethod yX8_find]
def wsL_build_r2 : List Cond := [Cond.selects RX8 yX8_find yX8_find, Cond.code yX8_find cX8_find 2 (some .int), Cond.fieldLink RX8 340 "PaperWalls" "latest" "I", Cond.fieldLink RX8 60 "PaperWalls" "tally" "[I", Cond.methodLink RX8 116 yX7_begin, Cond.instanceMethod yX7_begin, Cond.selects RX7 yX7_begin yX7_begin, Cond.initialized RX7, Cond.code yX7_begin cX7_begin 3 none, Cond.fieldLink RX7 13 "PaperWalls$Text" "size" "I", Cond.fieldLink RX7 9 "PaperWalls$Text" "bytes" "[B", Cond.methodLink RL 46 yX8_put, Cond.instanceMethod yX8_put, Cond.selects RX8 yX8_put yX8_put, Cond.code yX8_put cX8_put 6 (some .int), Cond.fieldLink RX8 119 "PaperWalls$Text" "bytes" "[B", Cond.methodLink RX8 117 yX7_isMissing, Cond.instanceMethod yX7_isMissing, Cond.selects RX7 yX7_isMissing yX7_isMissing, Cond.code yX7_isMissing cX7_isMissing 1 (some .boolean), Cond.methodLink RX8 118 yX7_has, Cond.instanceMethod yX7_has, Cond.selects RX7 yX7_has yX7_has, Cond.code yX7_has cX7_has 2 (some .boolean)]
def wsL_build_r3 : List Cond := [Cond.methodLink RL 50 yX8_fault, Cond.instanceMethod yX8_fault, Cond.selects RX8 yX8_fault yX8_fault, Cond.code yX8_fault cX8_fault 2 (some .int), Cond.fieldLink RX8 28 "PaperWalls" "trial" "LPaperWalls$Street;", Cond.methodLink RX8 123 yX6_readFrom, Cond.instanceMethod yX6_readFrom, Cond.selects RX6 yX6_readFrom yX6_readFrom, Cond.initialized RX6, Cond.code yX6_readFrom cX6_readFrom 3 (some .int), Cond.fieldLink RX6 40 "PaperWalls$Street" "walls" "I", Cond.fieldLink RX6 44 "PaperWalls$Street" "people" "I", Cond.fieldLink RX6 47 "PaperWalls$Street" "talks" "I", Cond.fieldLink RX6 36 "PaperWalls$Street" "hours" "LPaperWalls$Hours;", Cond.fieldLink RX6 11 "PaperWalls$Street" "layers" "[I", Cond.methodLink RX6 60 yX1_begin, Cond.instanceMethod yX1_begin, Cond.selects RX1 yX1_begin yX1_begin, Cond.initialized RX1, Cond.code yX1_begin cX1_begin 1 none, Cond.fieldLink RX1 23 "PaperWalls$Hours" "known" "J", Cond.fieldLink RX1 27 "PaperWalls$Hours" "size" "I", Cond.methodLink RX6 63 yX7_pastBlanks, Cond.instanceMethod yX7_pastBlanks]
def wsL_build_r4 : List Cond := [Cond.selects RX7 yX7_pastBlanks yX7_pastBlanks, Cond.code yX7_pastBlanks cX7_pastBlanks 3 (some .int), Cond.methodLink RX7 21 yX7_sign, Cond.instanceMethod yX7_sign, Cond.selects RX7 yX7_sign yX7_sign, Cond.code yX7_sign cX7_sign 2 (some .int), Cond.methodLink RX7 17 yX7_has, Cond.methodLink RX6 69 yX7_sign, Cond.methodLink RX6 72 yX7_isFigure, Cond.instanceMethod yX7_isFigure, Cond.selects RX7 yX7_isFigure yX7_isFigure, Cond.code yX7_isFigure cX7_isFigure 2 (some .boolean), Cond.methodLink RX6 76 yX6_measure, Cond.instanceMethod yX6_measure, Cond.selects RX6 yX6_measure yX6_measure, Cond.code yX6_measure cX6_measure 2 none, Cond.fieldLink RX6 15 "PaperWalls$Street" "depth" "[I", Cond.methodLink RX6 79 yX6_readPeople, Cond.instanceMethod yX6_readPeople, Cond.selects RX6 yX6_readPeople yX6_readPeople, Cond.code yX6_readPeople cX6_readPeople 6 (some .int), Cond.fieldLink RX6 83 "PaperWalls$Text" "size" "I", Cond.fieldLink RX6 18 "PaperWalls$Street" "kinds" "[I", Cond.fieldLink RX6 21 "PaperWalls$Street" "rooms" "[I"]
def wsL_build_r5 : List Cond := [Cond.methodLink RX6 86 yX2_byLetter, Cond.static yX2_byLetter, Cond.initialized RX2, Cond.code yX2_byLetter cX2_byLetter 2 (some .int), Cond.fieldLink RX2 18 "PaperWalls$Kinds" "LETTERS" "[I", Cond.methodLink RL 53 yX8_street, Cond.instanceMethod yX8_street, Cond.selects RX8 yX8_street yX8_street, Cond.code yX8_street cX8_street 3 (some .int), Cond.fieldLink RX8 24 "PaperWalls" "now" "LPaperWalls$Street;", Cond.fieldLink RX8 35 "PaperWalls" "isKept" "[Z", Cond.fieldLink RX8 131 "PaperWalls$Street" "people" "I", Cond.methodLink RX8 127 yX6_become, Cond.instanceMethod yX6_become, Cond.selects RX6 yX6_become yX6_become, Cond.code yX6_become cX6_become 2 none, Cond.methodLink RX6 50 arraycopyName, Cond.native arraycopyName, Cond.static arraycopyName, Cond.initialized "java/lang/System", Cond.fieldLink RX6 24 "PaperWalls$Street" "speaker" "[I", Cond.fieldLink RX6 27 "PaperWalls$Street" "hearer" "[I", Cond.fieldLink RX6 30 "PaperWalls$Street" "barred" "[I", Cond.methodLink RX6 56 yX1_become]
def wsL_build_r6 : List Cond := [Cond.instanceMethod yX1_become, Cond.selects RX1 yX1_become yX1_become, Cond.code yX1_become cX1_become 2 none, Cond.fieldLink RX1 9 "PaperWalls$Hours" "tellers" "[I", Cond.methodLink RX1 31 arraycopyName, Cond.fieldLink RX1 13 "PaperWalls$Hours" "things" "[I", Cond.fieldLink RX1 16 "PaperWalls$Hours" "heardBy" "[I", Cond.fieldLink RX1 19 "PaperWalls$Hours" "ahead" "[J", Cond.methodLink RL 56 yX8_count, Cond.instanceMethod yX8_count, Cond.selects RX8 yX8_count yX8_count, Cond.code yX8_count cX8_count 2 (some .int), Cond.fieldLink RX8 165 "PaperWalls$Street" "walls" "I", Cond.fieldLink RX8 202 "PaperWalls$Street" "talks" "I", Cond.fieldLink RX8 281 "PaperWalls$Street" "hours" "LPaperWalls$Hours;", Cond.fieldLink RX8 293 "PaperWalls$Hours" "size" "I", Cond.methodLink RX8 328 yX6_howManyOf, Cond.instanceMethod yX6_howManyOf, Cond.selects RX6 yX6_howManyOf yX6_howManyOf, Cond.code yX6_howManyOf cX6_howManyOf 4 (some .int), Cond.methodLink RX6 100 yX2_isOf, Cond.static yX2_isOf, Cond.code yX2_isOf cX2_isOf 2 (some .boolean), Cond.fieldLink RX2 9 "PaperWalls$Kinds" "WIDER" "[I"]
def wsL_build_r7 : List Cond := [Cond.methodLink RX8 331 yX8_howManyRows, Cond.instanceMethod yX8_howManyRows, Cond.selects RX8 yX8_howManyRows yX8_howManyRows, Cond.code yX8_howManyRows cX8_howManyRows 3 (some .int), Cond.fieldLink RX8 11 "PaperWalls" "rows" "[LPaperWalls$Row;", Cond.methodLink RX8 85 yX4_isMissing, Cond.instanceMethod yX4_isMissing, Cond.selects RX4 yX4_isMissing yX4_isMissing, Cond.initialized RX4, Cond.code yX4_isMissing cX4_isMissing 1 (some .boolean), Cond.fieldLink RX4 13 "PaperWalls$Row" "size" "I", Cond.methodLink RX8 334 yX8_howManyTexts, Cond.instanceMethod yX8_howManyTexts, Cond.selects RX8 yX8_howManyTexts yX8_howManyTexts, Cond.code yX8_howManyTexts cX8_howManyTexts 3 (some .int), Cond.methodLink RX8 337 yX8_howManyKept, Cond.instanceMethod yX8_howManyKept, Cond.selects RX8 yX8_howManyKept yX8_howManyKept, Cond.code yX8_howManyKept cX8_howManyKept 3 (some .int)]
def wsL_build : List Cond := .code yL_build cL_build 15 (some .boolean) :: ((wsL_build_r1 ++ (wsL_build_r2 ++ (wsL_build_r3 ++ (wsL_build_r4 ++ (wsL_build_r5 ++ (wsL_build_r6 ++ wsL_build_r7)))))) ++ wsX80 ++ wsX70 ++ wsX60 ++ wsX10 ++ wsX40)
def wsL_talks_r1 : List Cond := [Cond.methodLink RL 30 yL_cell, Cond.static yL_cell, Cond.initialized RL, Cond.code yL_cell cL_cell 2 (some .int), Cond.constant RL 7 (625341585), Cond.methodLink RL 34 yL_some, Cond.static yL_some, Cond.code yL_some cL_some 2 (some .int), Cond.constant RL 8 (2147483647), Cond.methodLink RL 59 yX8_talk, Cond.instanceMethod yX8_talk, Cond.selects RX8 yX8_talk yX8_talk, Cond.initialized RX8, Cond.code yX8_talk cX8_talk 4 (some .int), Cond.fieldLink RX8 24 "PaperWalls" "now" "LPaperWalls$Street;", Cond.fieldLink RX8 202 "PaperWalls$Street" "talks" "I", Cond.methodLink RX8 180 yX8_areTwo, Cond.instanceMethod yX8_areTwo, Cond.selects RX8 yX8_areTwo yX8_areTwo, Cond.code yX8_areTwo cX8_areTwo 3 (some .boolean), Cond.methodLink RX8 134 yX8_isOne, Cond.instanceMethod yX8_isOne, Cond.selects RX8 yX8_isOne yX8_isOne, Cond.code yX8_isOne cX8_isOne 2 (some .boolean)]
def wsL_talks_r2 : List Cond := [Cond.fieldLink RX8 131 "PaperWalls$Street" "people" "I", Cond.methodLink RX8 189 yX8_isSet, Cond.instanceMethod yX8_isSet, Cond.selects RX8 yX8_isSet yX8_isSet, Cond.code yX8_isSet cX8_isSet 2 (some .boolean), Cond.methodLink RX8 192 yX6_everyone, Cond.instanceMethod yX6_everyone, Cond.selects RX6 yX6_everyone yX6_everyone, Cond.initialized RX6, Cond.code yX6_everyone cX6_everyone 1 (some .int), Cond.fieldLink RX6 44 "PaperWalls$Street" "people" "I", Cond.methodLink RX8 205 yX6_addTalk, Cond.instanceMethod yX6_addTalk, Cond.selects RX6 yX6_addTalk yX6_addTalk, Cond.code yX6_addTalk cX6_addTalk 4 (some .int), Cond.fieldLink RX6 24 "PaperWalls$Street" "speaker" "[I", Cond.fieldLink RX6 47 "PaperWalls$Street" "talks" "I", Cond.fieldLink RX6 27 "PaperWalls$Street" "hearer" "[I", Cond.fieldLink RX6 30 "PaperWalls$Street" "barred" "[I"]
def wsL_talks : List Cond := .code yL_talks cL_talks 13 (some .boolean) :: ((wsL_talks_r1 ++ wsL_talks_r2) ++ wsX80 ++ wsX60)
def wsL_law_r1 : List Cond := [Cond.classLink RL 42 RX8, Cond.instantiable RX8 12, Cond.initialized RX8, Cond.arrayClass .int, Cond.methodLink RL 69 yX8_init, Cond.instanceMethod yX8_init, Cond.code yX8_init cX8_init 2 none, Cond.methodLink RX8 1 objectInit, Cond.instanceMethod objectInit, Cond.code objectInit ⟨#[0xb1]⟩ 1 none, Cond.classLink RX8 9 RX4, Cond.fieldLink RX8 11 "PaperWalls" "rows" "[LPaperWalls$Row;", Cond.classLink RX8 15 RX7, Cond.fieldLink RX8 17 "PaperWalls" "texts" "[LPaperWalls$Text;", Cond.classLink RX8 21 RX6, Cond.instantiable RX6 11, Cond.initialized RX6, Cond.fieldLink RX8 24 "PaperWalls" "now" "LPaperWalls$Street;", Cond.fieldLink RX8 28 "PaperWalls" "trial" "LPaperWalls$Street;", Cond.fieldLink RX8 31 "PaperWalls" "places" "[LPaperWalls$Street;", Cond.arrayClass .boolean, Cond.fieldLink RX8 35 "PaperWalls" "isKept" "[Z", Cond.classLink RX8 39 RX3, Cond.instantiable RX3 2]
def wsL_law_r2 : List Cond := [Cond.initialized RX3, Cond.fieldLink RX8 42 "PaperWalls" "plan" "LPaperWalls$Plan;", Cond.classLink RX8 46 RX0, Cond.instantiable RX0 3, Cond.initialized RX0, Cond.fieldLink RX8 49 "PaperWalls" "change" "LPaperWalls$Change;", Cond.classLink RX8 53 RX5, Cond.instantiable RX5 2, Cond.initialized RX5, Cond.fieldLink RX8 56 "PaperWalls" "shares" "LPaperWalls$Shares;", Cond.fieldLink RX8 60 "PaperWalls" "tally" "[I", Cond.instantiable RX4 2, Cond.initialized RX4, Cond.instantiable RX7 2, Cond.initialized RX7, Cond.methodLink RX8 23 yX6_init, Cond.instanceMethod yX6_init, Cond.code yX6_init cX6_init 1 none, Cond.methodLink RX6 3 objectInit, Cond.fieldLink RX6 11 "PaperWalls$Street" "layers" "[I", Cond.fieldLink RX6 15 "PaperWalls$Street" "depth" "[I", Cond.fieldLink RX6 18 "PaperWalls$Street" "kinds" "[I", Cond.fieldLink RX6 21 "PaperWalls$Street" "rooms" "[I", Cond.fieldLink RX6 24 "PaperWalls$Street" "speaker" "[I"]
def wsL_law_r3 : List Cond := [Cond.fieldLink RX6 27 "PaperWalls$Street" "hearer" "[I", Cond.fieldLink RX6 30 "PaperWalls$Street" "barred" "[I", Cond.classLink RX6 33 RX1, Cond.instantiable RX1 6, Cond.initialized RX1, Cond.fieldLink RX6 36 "PaperWalls$Street" "hours" "LPaperWalls$Hours;", Cond.methodLink RX6 35 yX1_init, Cond.instanceMethod yX1_init, Cond.code yX1_init cX1_init 1 none, Cond.methodLink RX1 1 objectInit, Cond.fieldLink RX1 9 "PaperWalls$Hours" "tellers" "[I", Cond.fieldLink RX1 13 "PaperWalls$Hours" "things" "[I", Cond.fieldLink RX1 16 "PaperWalls$Hours" "heardBy" "[I", Cond.arrayClass .long, Cond.fieldLink RX1 19 "PaperWalls$Hours" "ahead" "[J", Cond.methodLink RX8 41 yX3_init, Cond.instanceMethod yX3_init, Cond.code yX3_init cX3_init 1 none, Cond.methodLink RX3 5 objectInit, Cond.fieldLink RX3 13 "PaperWalls$Plan" "together" "[Z", Cond.fieldLink RX3 17 "PaperWalls$Plan" "fewest" "[I", Cond.methodLink RX8 48 yX0_init, Cond.instanceMethod yX0_init, Cond.code yX0_init cX0_init 1 none]
def wsL_law_r4 : List Cond := [Cond.methodLink RX0 3 objectInit, Cond.fieldLink RX0 11 "PaperWalls$Change" "whose" "[I", Cond.fieldLink RX0 17 "PaperWalls$Change" "best" "[I", Cond.methodLink RX8 55 yX5_init, Cond.instanceMethod yX5_init, Cond.code yX5_init cX5_init 1 none, Cond.methodLink RX5 1 objectInit, Cond.fieldLink RX5 9 "PaperWalls$Shares" "of" "[I", Cond.methodLink RX8 64 yX4_init, Cond.instanceMethod yX4_init, Cond.code yX4_init cX4_init 1 none, Cond.methodLink RX4 1 objectInit, Cond.fieldLink RX4 9 "PaperWalls$Row" "ints" "[I", Cond.fieldLink RX4 13 "PaperWalls$Row" "size" "I", Cond.methodLink RX8 65 yX7_init, Cond.instanceMethod yX7_init, Cond.code yX7_init cX7_init 1 none, Cond.methodLink RX7 1 objectInit, Cond.arrayClass .byte, Cond.fieldLink RX7 9 "PaperWalls$Text" "bytes" "[B", Cond.fieldLink RX7 13 "PaperWalls$Text" "size" "I", Cond.methodLink RL 70 yL_build, Cond.static yL_build, Cond.initialized RL]
def wsL_law_r5 : List Cond := [Cond.code yL_build cL_build 15 (some .boolean), Cond.methodLink RL 30 yL_cell, Cond.static yL_cell, Cond.code yL_cell cL_cell 2 (some .int), Cond.constant RL 7 (625341585), Cond.methodLink RL 34 yL_some, Cond.static yL_some, Cond.code yL_some cL_some 2 (some .int), Cond.constant RL 8 (2147483647), Cond.methodLink RL 38 yL_letter, Cond.static yL_letter, Cond.code yL_letter cL_letter 1 (some .int), Cond.methodLink RL 41 yX8_text, Cond.instanceMethod yX8_text, Cond.selects RX8 yX8_text yX8_text, Cond.code yX8_text cX8_text 3 (some .int), Cond.methodLink RX8 113 yX8_isText, Cond.static yX8_isText, Cond.code yX8_isText cX8_isText 1 (some .boolean), Cond.methodLink RX8 70 yX8_find, Cond.instanceMethod yX8_find, Cond.selects RX8 yX8_find yX8_find, Cond.code yX8_find cX8_find 2 (some .int), Cond.fieldLink RX8 340 "PaperWalls" "latest" "I"]
def wsL_law_r6 : List Cond := [Cond.methodLink RX8 116 yX7_begin, Cond.instanceMethod yX7_begin, Cond.selects RX7 yX7_begin yX7_begin, Cond.code yX7_begin cX7_begin 3 none, Cond.methodLink RL 46 yX8_put, Cond.instanceMethod yX8_put, Cond.selects RX8 yX8_put yX8_put, Cond.code yX8_put cX8_put 6 (some .int), Cond.fieldLink RX8 119 "PaperWalls$Text" "bytes" "[B", Cond.methodLink RX8 117 yX7_isMissing, Cond.instanceMethod yX7_isMissing, Cond.selects RX7 yX7_isMissing yX7_isMissing, Cond.code yX7_isMissing cX7_isMissing 1 (some .boolean), Cond.methodLink RX8 118 yX7_has, Cond.instanceMethod yX7_has, Cond.selects RX7 yX7_has yX7_has, Cond.code yX7_has cX7_has 2 (some .boolean), Cond.methodLink RL 50 yX8_fault, Cond.instanceMethod yX8_fault, Cond.selects RX8 yX8_fault yX8_fault, Cond.code yX8_fault cX8_fault 2 (some .int), Cond.methodLink RX8 123 yX6_readFrom, Cond.instanceMethod yX6_readFrom, Cond.selects RX6 yX6_readFrom yX6_readFrom]
def wsL_law_r7 : List Cond := [Cond.code yX6_readFrom cX6_readFrom 3 (some .int), Cond.fieldLink RX6 40 "PaperWalls$Street" "walls" "I", Cond.fieldLink RX6 44 "PaperWalls$Street" "people" "I", Cond.fieldLink RX6 47 "PaperWalls$Street" "talks" "I", Cond.methodLink RX6 60 yX1_begin, Cond.instanceMethod yX1_begin, Cond.selects RX1 yX1_begin yX1_begin, Cond.code yX1_begin cX1_begin 1 none, Cond.fieldLink RX1 23 "PaperWalls$Hours" "known" "J", Cond.fieldLink RX1 27 "PaperWalls$Hours" "size" "I", Cond.methodLink RX6 63 yX7_pastBlanks, Cond.instanceMethod yX7_pastBlanks, Cond.selects RX7 yX7_pastBlanks yX7_pastBlanks, Cond.code yX7_pastBlanks cX7_pastBlanks 3 (some .int), Cond.methodLink RX7 21 yX7_sign, Cond.instanceMethod yX7_sign, Cond.selects RX7 yX7_sign yX7_sign, Cond.code yX7_sign cX7_sign 2 (some .int), Cond.methodLink RX7 17 yX7_has, Cond.methodLink RX6 69 yX7_sign, Cond.methodLink RX6 72 yX7_isFigure, Cond.instanceMethod yX7_isFigure, Cond.selects RX7 yX7_isFigure yX7_isFigure, Cond.code yX7_isFigure cX7_isFigure 2 (some .boolean)]
def wsL_law_r8 : List Cond := [Cond.methodLink RX6 76 yX6_measure, Cond.instanceMethod yX6_measure, Cond.selects RX6 yX6_measure yX6_measure, Cond.code yX6_measure cX6_measure 2 none, Cond.methodLink RX6 79 yX6_readPeople, Cond.instanceMethod yX6_readPeople, Cond.selects RX6 yX6_readPeople yX6_readPeople, Cond.code yX6_readPeople cX6_readPeople 6 (some .int), Cond.fieldLink RX6 83 "PaperWalls$Text" "size" "I", Cond.methodLink RX6 86 yX2_byLetter, Cond.static yX2_byLetter, Cond.initialized RX2, Cond.code yX2_byLetter cX2_byLetter 2 (some .int), Cond.fieldLink RX2 18 "PaperWalls$Kinds" "LETTERS" "[I", Cond.methodLink RL 53 yX8_street, Cond.instanceMethod yX8_street, Cond.selects RX8 yX8_street yX8_street, Cond.code yX8_street cX8_street 3 (some .int), Cond.fieldLink RX8 131 "PaperWalls$Street" "people" "I", Cond.methodLink RX8 127 yX6_become, Cond.instanceMethod yX6_become, Cond.selects RX6 yX6_become yX6_become, Cond.code yX6_become cX6_become 2 none, Cond.methodLink RX6 50 arraycopyName]
def wsL_law_r9 : List Cond := [Cond.native arraycopyName, Cond.static arraycopyName, Cond.initialized "java/lang/System", Cond.methodLink RX6 56 yX1_become, Cond.instanceMethod yX1_become, Cond.selects RX1 yX1_become yX1_become, Cond.code yX1_become cX1_become 2 none, Cond.methodLink RX1 31 arraycopyName, Cond.methodLink RL 56 yX8_count, Cond.instanceMethod yX8_count, Cond.selects RX8 yX8_count yX8_count, Cond.code yX8_count cX8_count 2 (some .int), Cond.fieldLink RX8 165 "PaperWalls$Street" "walls" "I", Cond.fieldLink RX8 202 "PaperWalls$Street" "talks" "I", Cond.fieldLink RX8 281 "PaperWalls$Street" "hours" "LPaperWalls$Hours;", Cond.fieldLink RX8 293 "PaperWalls$Hours" "size" "I", Cond.methodLink RX8 328 yX6_howManyOf, Cond.instanceMethod yX6_howManyOf, Cond.selects RX6 yX6_howManyOf yX6_howManyOf, Cond.code yX6_howManyOf cX6_howManyOf 4 (some .int), Cond.methodLink RX6 100 yX2_isOf, Cond.static yX2_isOf, Cond.code yX2_isOf cX2_isOf 2 (some .boolean), Cond.fieldLink RX2 9 "PaperWalls$Kinds" "WIDER" "[I"]
def wsL_law_r10 : List Cond := [Cond.methodLink RX8 331 yX8_howManyRows, Cond.instanceMethod yX8_howManyRows, Cond.selects RX8 yX8_howManyRows yX8_howManyRows, Cond.code yX8_howManyRows cX8_howManyRows 3 (some .int), Cond.methodLink RX8 85 yX4_isMissing, Cond.instanceMethod yX4_isMissing, Cond.selects RX4 yX4_isMissing yX4_isMissing, Cond.code yX4_isMissing cX4_isMissing 1 (some .boolean), Cond.methodLink RX8 334 yX8_howManyTexts, Cond.instanceMethod yX8_howManyTexts, Cond.selects RX8 yX8_howManyTexts yX8_howManyTexts, Cond.code yX8_howManyTexts cX8_howManyTexts 3 (some .int), Cond.methodLink RX8 337 yX8_howManyKept, Cond.instanceMethod yX8_howManyKept, Cond.selects RX8 yX8_howManyKept yX8_howManyKept, Cond.code yX8_howManyKept cX8_howManyKept 3 (some .int), Cond.methodLink RL 74 yL_talks, Cond.static yL_talks, Cond.code yL_talks cL_talks 13 (some .boolean), Cond.methodLink RL 59 yX8_talk, Cond.instanceMethod yX8_talk, Cond.selects RX8 yX8_talk yX8_talk, Cond.code yX8_talk cX8_talk 4 (some .int), Cond.methodLink RX8 180 yX8_areTwo]
def wsL_law_r11 : List Cond := [Cond.instanceMethod yX8_areTwo, Cond.selects RX8 yX8_areTwo yX8_areTwo, Cond.code yX8_areTwo cX8_areTwo 3 (some .boolean), Cond.methodLink RX8 134 yX8_isOne, Cond.instanceMethod yX8_isOne, Cond.selects RX8 yX8_isOne yX8_isOne, Cond.code yX8_isOne cX8_isOne 2 (some .boolean), Cond.methodLink RX8 189 yX8_isSet, Cond.instanceMethod yX8_isSet, Cond.selects RX8 yX8_isSet yX8_isSet, Cond.code yX8_isSet cX8_isSet 2 (some .boolean), Cond.methodLink RX8 192 yX6_everyone, Cond.instanceMethod yX6_everyone, Cond.selects RX6 yX6_everyone yX6_everyone, Cond.code yX6_everyone cX6_everyone 1 (some .int), Cond.methodLink RX8 205 yX6_addTalk, Cond.instanceMethod yX6_addTalk, Cond.selects RX6 yX6_addTalk yX6_addTalk, Cond.code yX6_addTalk cX6_addTalk 4 (some .int), Cond.methodLink RL 78 yX8_keep, Cond.instanceMethod yX8_keep, Cond.selects RX8 yX8_keep yX8_keep, Cond.code yX8_keep cX8_keep 2 (some .int), Cond.methodLink RX8 311 yX8_isPlace]
def wsL_law_r12 : List Cond := [Cond.static yX8_isPlace, Cond.code yX8_isPlace cX8_isPlace 1 (some .boolean), Cond.methodLink RL 81 yX8_heard, Cond.instanceMethod yX8_heard, Cond.selects RX8 yX8_heard yX8_heard, Cond.code yX8_heard cX8_heard 3 (some .int), Cond.methodLink RX8 148 yX6_whoHear, Cond.instanceMethod yX6_whoHear, Cond.selects RX6 yX6_whoHear yX6_whoHear, Cond.code yX6_whoHear cX6_whoHear 3 (some .int), Cond.methodLink RX6 124 yX6_everyone, Cond.methodLink RX6 128 yX6_whoHearOf, Cond.instanceMethod yX6_whoHearOf, Cond.selects RX6 yX6_whoHearOf yX6_whoHearOf, Cond.code yX6_whoHearOf cX6_whoHearOf 10 (some .int), Cond.fieldLink RX6 94 "PaperWalls$Kinds" "SINGS" "[I", Cond.fieldLink RX6 91 "PaperWalls$Kinds" "SPEAKS" "[I", Cond.methodLink RX6 113 Lib.Math.max.name, Cond.static Lib.Math.max.name, Cond.initialized "java/lang/Math", Cond.code Lib.Math.max.name Lib.Math.max.code 2 (some .int), Cond.methodLink RX6 109 yX6_loudestIn, Cond.instanceMethod yX6_loudestIn, Cond.selects RX6 yX6_loudestIn yX6_loudestIn]
def wsL_law_r13 : List Cond := [Cond.code yX6_loudestIn cX6_loudestIn 7 (some .int), Cond.methodLink RX6 104 Lib.Math.abs.name, Cond.static Lib.Math.abs.name, Cond.code Lib.Math.abs.name Lib.Math.abs.code 1 (some .int), Cond.methodLink RX6 117 yX6_comesTo, Cond.instanceMethod yX6_comesTo, Cond.selects RX6 yX6_comesTo yX6_comesTo, Cond.code yX6_comesTo cX6_comesTo 3 (some .int), Cond.methodLink RX6 120 yX2_isEnough, Cond.static yX2_isEnough, Cond.code yX2_isEnough cX2_isEnough 4 (some .boolean), Cond.fieldLink RX2 15 "PaperWalls$Kinds" "LEAST" "[I", Cond.methodLink RL 83 yX8_hush, Cond.instanceMethod yX8_hush, Cond.selects RX8 yX8_hush yX8_hush, Cond.code yX8_hush cX8_hush 4 (some .int), Cond.methodLink RX8 196 yX8_isFewer, Cond.static yX8_isFewer, Cond.code yX8_isFewer cX8_isFewer 2 (some .boolean), Cond.methodLink RX8 151 yJ6_bitCount_0f7a4, Cond.static yJ6_bitCount_0f7a4, Cond.initialized RJ6, Cond.code yJ6_bitCount_0f7a4 cJ6_bitCount_0f7a4 1 (some .int), Cond.constant RJ6 265 (1431655765)]
def wsL_law_r14 : List Cond := [Cond.constant RJ6 266 (858993459), Cond.constant RJ6 267 (252645135), Cond.methodLink RX8 199 yX8_tellSet, Cond.instanceMethod yX8_tellSet, Cond.selects RX8 yX8_tellSet yX8_tellSet, Cond.code yX8_tellSet cX8_tellSet 2 (some .int), Cond.fieldLink RX8 92 "PaperWalls" "told" "I", Cond.methodLink RL 86 yX8_asked, Cond.instanceMethod yX8_asked, Cond.selects RX8 yX8_asked yX8_asked, Cond.code yX8_asked cX8_asked 1 (some .int), Cond.methodLink RL 90 yL_size, Cond.static yL_size, Cond.code yL_size cL_size 3 (some .int), Cond.methodLink RL 93 yX8_leak, Cond.instanceMethod yX8_leak, Cond.selects RX8 yX8_leak yX8_leak, Cond.code yX8_leak cX8_leak 4 (some .int), Cond.methodLink RX8 308 yX6_circleOf, Cond.instanceMethod yX6_circleOf, Cond.selects RX6 yX6_circleOf yX6_circleOf, Cond.code yX6_circleOf cX6_circleOf 2 (some .int), Cond.methodLink RX6 132 yX6_whoHear, Cond.methodLink RL 96 yX8_tearOff]
def wsL_law_r15 : List Cond := [Cond.instanceMethod yX8_tearOff, Cond.selects RX8 yX8_tearOff yX8_tearOff, Cond.code yX8_tearOff cX8_tearOff 7 (some .int), Cond.fieldLink RX8 263 "PaperWalls$Kinds" "LEAST" "[I", Cond.fieldLink RX8 142 "PaperWalls$Street" "kinds" "[I", Cond.fieldLink RX8 177 "PaperWalls$Street" "rooms" "[I", Cond.methodLink RX8 266 Lib.Math.min.name, Cond.static Lib.Math.min.name, Cond.code Lib.Math.min.name Lib.Math.min.code 2 (some .int), Cond.methodLink RX8 271 Lib.Math.max.name, Cond.fieldLink RX8 168 "PaperWalls$Street" "layers" "[I", Cond.methodLink RX8 183 yX6_comesTo, Cond.methodLink RL 99 yX8_hears, Cond.instanceMethod yX8_hears, Cond.selects RX8 yX8_hears yX8_hears, Cond.code yX8_hears cX8_hears 3 (some .int), Cond.methodLink RX8 186 yX6_isHeardBy, Cond.instanceMethod yX6_isHeardBy, Cond.selects RX6 yX6_isHeardBy yX6_isHeardBy, Cond.code yX6_isHeardBy cX6_isHeardBy 3 (some .boolean), Cond.methodLink RL 102 yX8_wall, Cond.instanceMethod yX8_wall, Cond.selects RX8 yX8_wall yX8_wall, Cond.code yX8_wall cX8_wall 4 (some .int)]
def wsL_law_r16 : List Cond := [Cond.methodLink RX8 171 yX6_measure, Cond.methodLink RL 105 yX8_cover, Cond.instanceMethod yX8_cover, Cond.selects RX8 yX8_cover yX8_cover, Cond.code yX8_cover cX8_cover 4 (some .int), Cond.methodLink RX8 218 yX6_isSafe, Cond.instanceMethod yX6_isSafe, Cond.selects RX6 yX6_isSafe yX6_isSafe, Cond.code yX6_isSafe cX6_isSafe 3 (some .boolean), Cond.methodLink RX6 140 yX6_bothOf, Cond.instanceMethod yX6_bothOf, Cond.selects RX6 yX6_bothOf yX6_bothOf, Cond.code yX6_bothOf cX6_bothOf 2 (some .int), Cond.methodLink RX6 143 yX6_isHeardRightly, Cond.instanceMethod yX6_isHeardRightly, Cond.selects RX6 yX6_isHeardRightly yX6_isHeardRightly, Cond.code yX6_isHeardRightly cX6_isHeardRightly 6 (some .boolean), Cond.methodLink RL 108 yX8_safe, Cond.instanceMethod yX8_safe, Cond.selects RX8 yX8_safe yX8_safe, Cond.code yX8_safe cX8_safe 3 (some .int), Cond.fieldLink RX8 212 "PaperWalls$Street" "speaker" "[I", Cond.fieldLink RX8 215 "PaperWalls$Street" "barred" "[I", Cond.methodLink RL 110 yX8_paste]
def wsL_law_r17 : List Cond := [Cond.instanceMethod yX8_paste, Cond.selects RX8 yX8_paste yX8_paste, Cond.code yX8_paste cX8_paste 4 (some .int), Cond.fieldLink RX8 260 "PaperWalls$Shares" "of" "[I", Cond.methodLink RX8 66 yX8_isRow, Cond.static yX8_isRow, Cond.code yX8_isRow cX8_isRow 1 (some .boolean), Cond.methodLink RX8 257 yX8_isSafeByPasting, Cond.instanceMethod yX8_isSafeByPasting, Cond.selects RX8 yX8_isSafeByPasting yX8_isSafeByPasting, Cond.code yX8_isSafeByPasting cX8_isSafeByPasting 5 (some .boolean), Cond.methodLink RX8 356 yX5_begin, Cond.instanceMethod yX5_begin, Cond.selects RX5 yX5_begin yX5_begin, Cond.code yX5_begin cX5_begin 4 none, Cond.fieldLink RX5 15 "PaperWalls$Shares" "size" "I", Cond.methodLink RX8 358 yX5_advance, Cond.instanceMethod yX5_advance, Cond.selects RX5 yX5_advance yX5_advance, Cond.code yX5_advance cX5_advance 3 (some .boolean), Cond.methodLink RX8 250 yX4_fill, Cond.instanceMethod yX4_fill, Cond.selects RX4 yX4_fill yX4_fill, Cond.code yX4_fill cX4_fill 3 none]
def wsL_law_r18 : List Cond := [Cond.methodLink RX4 21 arraycopyName, Cond.methodLink RX4 17 yX4_begin, Cond.instanceMethod yX4_begin, Cond.selects RX4 yX4_begin yX4_begin, Cond.code yX4_begin cX4_begin 3 none, Cond.methodLink RL 113 yX8_at, Cond.instanceMethod yX8_at, Cond.selects RX8 yX8_at yX8_at, Cond.code yX8_at cX8_at 4 (some .int), Cond.fieldLink RX8 82 "PaperWalls$Row" "ints" "[I", Cond.methodLink RX8 89 yX4_has, Cond.instanceMethod yX4_has, Cond.selects RX4 yX4_has yX4_has, Cond.code yX4_has cX4_has 2 (some .boolean), Cond.methodLink RL 116 yX8_on, Cond.instanceMethod yX8_on, Cond.selects RX8 yX8_on yX8_on, Cond.code yX8_on cX8_on 2 (some .int), Cond.methodLink RL 119 yX8_most, Cond.instanceMethod yX8_most, Cond.selects RX8 yX8_most yX8_most, Cond.code yX8_most cX8_most 1 (some .int), Cond.methodLink RX8 227 yX3_draw, Cond.instanceMethod yX3_draw]
def wsL_law_r19 : List Cond := [Cond.selects RX3 yX3_draw yX3_draw, Cond.code yX3_draw cX3_draw 3 none, Cond.methodLink RX3 21 yX6_everyTalk, Cond.instanceMethod yX6_everyTalk, Cond.selects RX6 yX6_everyTalk yX6_everyTalk, Cond.code yX6_everyTalk cX6_everyTalk 1 (some .int), Cond.methodLink RX3 25 yX6_goTogether, Cond.instanceMethod yX6_goTogether, Cond.selects RX6 yX6_goTogether yX6_goTogether, Cond.code yX6_goTogether cX6_goTogether 6 (some .boolean), Cond.methodLink RX3 29 yX3_fewestOf, Cond.instanceMethod yX3_fewestOf, Cond.selects RX3 yX3_fewestOf yX3_fewestOf, Cond.code yX3_fewestOf cX3_fewestOf 5 (some .int), Cond.methodLink RX3 33 Lib.Math.min.name, Cond.methodLink RX8 237 yX3_largest, Cond.instanceMethod yX3_largest, Cond.selects RX3 yX3_largest yX3_largest, Cond.code yX3_largest cX3_largest 4 (some .int), Cond.methodLink RX3 39 yJ6_bitCount_0f7a4, Cond.methodLink RL 122 yX8_turns, Cond.instanceMethod yX8_turns, Cond.selects RX8 yX8_turns yX8_turns, Cond.code yX8_turns cX8_turns 2 (some .int)]
def wsL_law_r20 : List Cond := [Cond.methodLink RX8 230 yX3_hours, Cond.instanceMethod yX3_hours, Cond.selects RX3 yX3_hours yX3_hours, Cond.code yX3_hours cX3_hours 3 (some .int), Cond.methodLink RX8 234 yX3_firstHour, Cond.instanceMethod yX3_firstHour, Cond.selects RX3 yX3_firstHour yX3_firstHour, Cond.code yX3_firstHour cX3_firstHour 4 (some .int), Cond.methodLink RL 125 yX8_beside, Cond.instanceMethod yX8_beside, Cond.selects RX8 yX8_beside yX8_beside, Cond.code yX8_beside cX8_beside 2 (some .int), Cond.methodLink RX8 221 yX6_everyTalk, Cond.methodLink RX8 224 yX6_goTogether, Cond.methodLink RL 128 yX8_know, Cond.instanceMethod yX8_know, Cond.selects RX8 yX8_know yX8_know, Cond.code yX8_know cX8_know 2 (some .int), Cond.methodLink RX8 278 yX8_isThing, Cond.static yX8_isThing, Cond.code yX8_isThing cX8_isThing 1 (some .boolean), Cond.methodLink RX8 290 yX1_whoKnow, Cond.instanceMethod yX1_whoKnow, Cond.selects RX1 yX1_whoKnow yX1_whoKnow]
def wsL_law_r21 : List Cond := [Cond.code yX1_whoKnow cX1_whoKnow 2 (some .int), Cond.methodLink RL 131 yX8_tell, Cond.instanceMethod yX8_tell, Cond.selects RX8 yX8_tell yX8_tell, Cond.code yX8_tell cX8_tell 3 (some .int), Cond.methodLink RX8 294 yX1_add, Cond.instanceMethod yX1_add, Cond.selects RX1 yX1_add yX1_add, Cond.code yX1_add cX1_add 4 none, Cond.methodLink RX1 41 yX1_learn, Cond.instanceMethod yX1_learn, Cond.selects RX1 yX1_learn yX1_learn, Cond.code yX1_learn cX1_learn 3 none, Cond.methodLink RL 134 yX8_comes, Cond.instanceMethod yX8_comes, Cond.selects RX8 yX8_comes yX8_comes, Cond.code yX8_comes cX8_comes 3 (some .int), Cond.methodLink RX8 284 yX1_learn, Cond.methodLink RL 137 yX8_spread, Cond.instanceMethod yX8_spread, Cond.selects RX8 yX8_spread yX8_spread, Cond.code yX8_spread cX8_spread 7 (some .int), Cond.methodLink RL 140 yX8_leaks, Cond.instanceMethod yX8_leaks]
def wsL_law_r22 : List Cond := [Cond.selects RX8 yX8_leaks yX8_leaks, Cond.code yX8_leaks cX8_leaks 6 (some .int), Cond.methodLink RL 143 yX8_knowsThat, Cond.instanceMethod yX8_knowsThat, Cond.selects RX8 yX8_knowsThat yX8_knowsThat, Cond.code yX8_knowsThat cX8_knowsThat 6 (some .int), Cond.fieldLink RX8 301 "PaperWalls$Hours" "things" "[I", Cond.methodLink RX8 304 yX1_showed, Cond.instanceMethod yX1_showed, Cond.selects RX1 yX1_showed yX1_showed, Cond.code yX1_showed cX1_showed 7 (some .boolean), Cond.methodLink RL 146 yX8_undo, Cond.instanceMethod yX8_undo, Cond.selects RX8 yX8_undo yX8_undo, Cond.code yX8_undo cX8_undo 3 (some .int), Cond.methodLink RX8 298 yX1_backTo, Cond.instanceMethod yX1_backTo, Cond.selects RX1 yX1_backTo yX1_backTo, Cond.code yX1_backTo cX1_backTo 2 none, Cond.methodLink RL 149 yX8_upper, Cond.instanceMethod yX8_upper, Cond.selects RX8 yX8_upper yX8_upper, Cond.code yX8_upper cX8_upper 2 (some .long), Cond.methodLink RX8 319 yX6_heardPairs]
def wsL_law_r23 : List Cond := [Cond.instanceMethod yX6_heardPairs, Cond.selects RX6 yX6_heardPairs yX6_heardPairs, Cond.code yX6_heardPairs cX6_heardPairs 3 (some .int), Cond.methodLink RX6 135 yJ6_bitCount_0f7a4, Cond.methodLink RX8 322 yX6_pairs, Cond.instanceMethod yX6_pairs, Cond.selects RX6 yX6_pairs yX6_pairs, Cond.code yX6_pairs cX6_pairs 1 (some .int), Cond.methodLink RX8 325 yX8_commonDivisor, Cond.static yX8_commonDivisor, Cond.code yX8_commonDivisor cX8_commonDivisor 4 (some .int), Cond.methodLink RL 153 yX8_lower, Cond.instanceMethod yX8_lower, Cond.selects RX8 yX8_lower yX8_lower, Cond.code yX8_lower cX8_lower 2 (some .long)]
def wsL_law : List Cond := (wsL_law_r1 ++ (wsL_law_r2 ++ (wsL_law_r3 ++ (wsL_law_r4 ++ (wsL_law_r5 ++ (wsL_law_r6 ++ (wsL_law_r7 ++ (wsL_law_r8 ++ (wsL_law_r9 ++ (wsL_law_r10 ++ (wsL_law_r11 ++ (wsL_law_r12 ++ (wsL_law_r13 ++ (wsL_law_r14 ++ (wsL_law_r15 ++ (wsL_law_r16 ++ (wsL_law_r17 ++ (wsL_law_r18 ++ (wsL_law_r19 ++ (wsL_law_r20 ++ (wsL_law_r21 ++ (wsL_law_r22 ++ wsL_law_r23)))))))))))))))))))))) ++ wsX80 ++ wsX60 ++ wsX30 ++ wsX00 ++ wsX50 ++ wsX40 ++ wsX70 ++ wsX10 ++ ([] : List Cond)
theorem inJ6 : ∀ w ∈ wsJ60, w ∈ lw_tbl := by decide +kernel
theorem inJ9 : ∀ w ∈ wsJ90, w ∈ lw_tbl := by decide +kernel
theorem inJ10 : ∀ w ∈ wsJ100, w ∈ lw_tbl := by decide +kernel
end
section
theorem dX0_init_0 : decode cX0_init 0 = .ok (.aload_n 0, 1) := by decide +kernel
theorem dX0_init_1 : decode cX0_init 1 = .ok (.invokespecial 3, 3) := by decide +kernel
theorem dX0_init_4 : decode cX0_init 4 = .ok (.aload_n 0, 1) := by decide +kernel
theorem dX0_init_5 : decode cX0_init 5 = .ok (.bipush 7, 2) := by decide +kernel
theorem dX0_init_7 : decode cX0_init 7 = .ok (.newarray .int, 2) := by decide +kernel
theorem dX0_init_9 : decode cX0_init 9 = .ok (.putfield 11, 3) := by decide +kernel
theorem dX0_init_12 : decode cX0_init 12 = .ok (.aload_n 0, 1) := by decide +kernel
theorem dX0_init_13 : decode cX0_init 13 = .ok (.bipush 7, 2) := by decide +kernel
theorem dX0_init_15 : decode cX0_init 15 = .ok (.newarray .int, 2) := by decide +kernel
theorem dX0_init_17 : decode cX0_init 17 = .ok (.putfield 17, 3) := by decide +kernel
theorem dX0_init_20 : decode cX0_init 20 = .ok (.return_, 1) := by decide +kernel
theorem dX1_init_0 : decode cX1_init 0 = .ok (.aload_n 0, 1) := by decide +kernel
theorem dX1_init_1 : decode cX1_init 1 = .ok (.invokespecial 1, 3) := by decide +kernel
theorem dX1_init_4 : decode cX1_init 4 = .ok (.aload_n 0, 1) := by decide +kernel
theorem dX1_init_5 : decode cX1_init 5 = .ok (.bipush 40, 2) := by decide +kernel
theorem dX1_init_7 : decode cX1_init 7 = .ok (.newarray .int, 2) := by decide +kernel
theorem dX1_init_9 : decode cX1_init 9 = .ok (.putfield 9, 3) := by decide +kernel
theorem dX1_init_12 : decode cX1_init 12 = .ok (.aload_n 0, 1) := by decide +kernel
theorem dX1_init_13 : decode cX1_init 13 = .ok (.bipush 40, 2) := by decide +kernel
theorem dX1_init_15 : decode cX1_init 15 = .ok (.newarray .int, 2) := by decide +kernel
theorem dX1_init_17 : decode cX1_init 17 = .ok (.putfield 13, 3) := by decide +kernel
theorem dX1_init_20 : decode cX1_init 20 = .ok (.aload_n 0, 1) := by decide +kernel
theorem dX1_init_21 : decode cX1_init 21 = .ok (.bipush 40, 2) := by decide +kernel
theorem dX1_init_23 : decode cX1_init 23 = .ok (.newarray .int, 2) := by decide +kernel
theorem dX1_init_25 : decode cX1_init 25 = .ok (.putfield 16, 3) := by decide +kernel
theorem dX1_init_28 : decode cX1_init 28 = .ok (.aload_n 0, 1) := by decide +kernel
theorem dX1_init_29 : decode cX1_init 29 = .ok (.bipush 40, 2) := by decide +kernel
theorem dX1_init_31 : decode cX1_init 31 = .ok (.newarray .long, 2) := by decide +kernel
theorem dX1_init_33 : decode cX1_init 33 = .ok (.putfield 19, 3) := by decide +kernel
theorem dX1_init_36 : decode cX1_init 36 = .ok (.return_, 1) := by decide +kernel
theorem dX1_begin_0 : decode cX1_begin 0 = .ok (.aload_n 0, 1) := by decide +kernel
theorem dX1_begin_1 : decode cX1_begin 1 = .ok (.lconst 0, 1) := by decide +kernel
theorem dX1_begin_2 : decode cX1_begin 2 = .ok (.putfield 23, 3) := by decide +kernel
theorem dX1_begin_5 : decode cX1_begin 5 = .ok (.aload_n 0, 1) := by decide +kernel
theorem dX1_begin_6 : decode cX1_begin 6 = .ok (.iconst 0, 1) := by decide +kernel
theorem dX1_begin_7 : decode cX1_begin 7 = .ok (.putfield 27, 3) := by decide +kernel
theorem dX1_begin_10 : decode cX1_begin 10 = .ok (.return_, 1) := by decide +kernel
theorem dX1_become_0 : decode cX1_become 0 = .ok (.aload_n 1, 1) := by decide +kernel
theorem dX1_become_1 : decode cX1_become 1 = .ok (.getfield 9, 3) := by decide +kernel
theorem dX1_become_4 : decode cX1_become 4 = .ok (.iconst 0, 1) := by decide +kernel
theorem dX1_become_5 : decode cX1_become 5 = .ok (.aload_n 0, 1) := by decide +kernel
theorem dX1_become_6 : decode cX1_become 6 = .ok (.getfield 9, 3) := by decide +kernel
theorem dX1_become_9 : decode cX1_become 9 = .ok (.iconst 0, 1) := by decide +kernel
theorem dX1_become_10 : decode cX1_become 10 = .ok (.bipush 40, 2) := by decide +kernel
theorem dX1_become_12 : decode cX1_become 12 = .ok (.invokestatic 31, 3) := by decide +kernel
theorem dX1_become_15 : decode cX1_become 15 = .ok (.aload_n 1, 1) := by decide +kernel
theorem dX1_become_16 : decode cX1_become 16 = .ok (.getfield 13, 3) := by decide +kernel
theorem dX1_become_19 : decode cX1_become 19 = .ok (.iconst 0, 1) := by decide +kernel
theorem dX1_become_20 : decode cX1_become 20 = .ok (.aload_n 0, 1) := by decide +kernel
theorem dX1_become_21 : decode cX1_become 21 = .ok (.getfield 13, 3) := by decide +kernel
theorem dX1_become_24 : decode cX1_become 24 = .ok (.iconst 0, 1) := by decide +kernel
theorem dX1_become_25 : decode cX1_become 25 = .ok (.bipush 40, 2) := by decide +kernel
theorem dX1_become_27 : decode cX1_become 27 = .ok (.invokestatic 31, 3) := by decide +kernel
theorem dX1_become_30 : decode cX1_become 30 = .ok (.aload_n 1, 1) := by decide +kernel
theorem dX1_become_31 : decode cX1_become 31 = .ok (.getfield 16, 3) := by decide +kernel
theorem dX1_become_34 : decode cX1_become 34 = .ok (.iconst 0, 1) := by decide +kernel
theorem dX1_become_35 : decode cX1_become 35 = .ok (.aload_n 0, 1) := by decide +kernel
theorem dX1_become_36 : decode cX1_become 36 = .ok (.getfield 16, 3) := by decide +kernel
theorem dX1_become_39 : decode cX1_become 39 = .ok (.iconst 0, 1) := by decide +kernel
theorem dX1_become_40 : decode cX1_become 40 = .ok (.bipush 40, 2) := by decide +kernel
theorem dX1_become_42 : decode cX1_become 42 = .ok (.invokestatic 31, 3) := by decide +kernel
theorem dX1_become_45 : decode cX1_become 45 = .ok (.aload_n 1, 1) := by decide +kernel
theorem dX1_become_46 : decode cX1_become 46 = .ok (.getfield 19, 3) := by decide +kernel
theorem dX1_become_49 : decode cX1_become 49 = .ok (.iconst 0, 1) := by decide +kernel
theorem dX1_become_50 : decode cX1_become 50 = .ok (.aload_n 0, 1) := by decide +kernel
theorem dX1_become_51 : decode cX1_become 51 = .ok (.getfield 19, 3) := by decide +kernel
theorem dX1_become_54 : decode cX1_become 54 = .ok (.iconst 0, 1) := by decide +kernel
theorem dX1_become_55 : decode cX1_become 55 = .ok (.bipush 40, 2) := by decide +kernel
theorem dX1_become_57 : decode cX1_become 57 = .ok (.invokestatic 31, 3) := by decide +kernel
theorem dX1_become_60 : decode cX1_become 60 = .ok (.aload_n 0, 1) := by decide +kernel
theorem dX1_become_61 : decode cX1_become 61 = .ok (.aload_n 1, 1) := by decide +kernel
theorem dX1_become_62 : decode cX1_become 62 = .ok (.getfield 23, 3) := by decide +kernel
theorem dX1_become_65 : decode cX1_become 65 = .ok (.putfield 23, 3) := by decide +kernel
theorem dX1_become_68 : decode cX1_become 68 = .ok (.aload_n 0, 1) := by decide +kernel
theorem dX1_become_69 : decode cX1_become 69 = .ok (.aload_n 1, 1) := by decide +kernel
theorem dX1_become_70 : decode cX1_become 70 = .ok (.getfield 27, 3) := by decide +kernel
theorem dX1_become_73 : decode cX1_become 73 = .ok (.putfield 27, 3) := by decide +kernel
theorem dX1_become_76 : decode cX1_become 76 = .ok (.return_, 1) := by decide +kernel
theorem dX1_whoKnow_0 : decode cX1_whoKnow 0 = .ok (.aload_n 0, 1) := by decide +kernel
theorem dX1_whoKnow_1 : decode cX1_whoKnow 1 = .ok (.getfield 23, 3) := by decide +kernel
theorem dX1_whoKnow_4 : decode cX1_whoKnow 4 = .ok (.bipush 8, 2) := by decide +kernel
theorem dX1_whoKnow_6 : decode cX1_whoKnow 6 = .ok (.iload_n 1, 1) := by decide +kernel
theorem dX1_whoKnow_7 : decode cX1_whoKnow 7 = .ok (.imul, 1) := by decide +kernel
theorem dX1_whoKnow_8 : decode cX1_whoKnow 8 = .ok (.lushr, 1) := by decide +kernel
theorem dX1_whoKnow_9 : decode cX1_whoKnow 9 = .ok (.l2i, 1) := by decide +kernel
theorem dX1_whoKnow_10 : decode cX1_whoKnow 10 = .ok (.sipush 255, 3) := by decide +kernel
theorem dX1_whoKnow_13 : decode cX1_whoKnow 13 = .ok (.iand, 1) := by decide +kernel
theorem dX1_whoKnow_14 : decode cX1_whoKnow 14 = .ok (.ireturn, 1) := by decide +kernel
theorem dX1_learn_0 : decode cX1_learn 0 = .ok (.aload_n 0, 1) := by decide +kernel
theorem dX1_learn_1 : decode cX1_learn 1 = .ok (.dup, 1) := by decide +kernel
theorem dX1_learn_2 : decode cX1_learn 2 = .ok (.getfield 23, 3) := by decide +kernel
theorem dX1_learn_5 : decode cX1_learn 5 = .ok (.iload_n 2, 1) := by decide +kernel
theorem dX1_learn_6 : decode cX1_learn 6 = .ok (.i2l, 1) := by decide +kernel
theorem dX1_learn_7 : decode cX1_learn 7 = .ok (.bipush 8, 2) := by decide +kernel
theorem dX1_learn_9 : decode cX1_learn 9 = .ok (.iload_n 1, 1) := by decide +kernel
theorem dX1_learn_10 : decode cX1_learn 10 = .ok (.imul, 1) := by decide +kernel
theorem dX1_learn_11 : decode cX1_learn 11 = .ok (.lshl, 1) := by decide +kernel
theorem dX1_learn_12 : decode cX1_learn 12 = .ok (.lor, 1) := by decide +kernel
theorem dX1_learn_13 : decode cX1_learn 13 = .ok (.putfield 23, 3) := by decide +kernel
theorem dX1_learn_16 : decode cX1_learn 16 = .ok (.return_, 1) := by decide +kernel
set_option maxRecDepth 20000 in
theorem ggX1_add_X1_learn : GoodIn wsX1_add wsX1_learn := goodIn_r _ [11, 6, 12, 13, 14, 15, 16, 17] (by decide +kernel) (by decide +kernel)
set_option maxRecDepth 20000 in
theorem gX1_add_X1_learn : GoodIn wsX1_add (wsV RX1 41 RX1 yX1_learn wsX1_learn) := goodIn_app (goodIn_of _ (by decide +kernel)) ggX1_add_X1_learn
theorem dX1_add_0 : decode cX1_add 0 = .ok (.aload_n 0, 1) := by decide +kernel
theorem dX1_add_1 : decode cX1_add 1 = .ok (.getfield 9, 3) := by decide +kernel
theorem dX1_add_4 : decode cX1_add 4 = .ok (.aload_n 0, 1) := by decide +kernel
theorem dX1_add_5 : decode cX1_add 5 = .ok (.getfield 27, 3) := by decide +kernel
theorem dX1_add_8 : decode cX1_add 8 = .ok (.iload_n 1, 1) := by decide +kernel
theorem dX1_add_9 : decode cX1_add 9 = .ok (.iastore, 1) := by decide +kernel
theorem dX1_add_10 : decode cX1_add 10 = .ok (.aload_n 0, 1) := by decide +kernel
theorem dX1_add_11 : decode cX1_add 11 = .ok (.getfield 13, 3) := by decide +kernel
theorem dX1_add_14 : decode cX1_add 14 = .ok (.aload_n 0, 1) := by decide +kernel
theorem dX1_add_15 : decode cX1_add 15 = .ok (.getfield 27, 3) := by decide +kernel
theorem dX1_add_18 : decode cX1_add 18 = .ok (.iload_n 2, 1) := by decide +kernel
theorem dX1_add_19 : decode cX1_add 19 = .ok (.iastore, 1) := by decide +kernel
theorem dX1_add_20 : decode cX1_add 20 = .ok (.aload_n 0, 1) := by decide +kernel
theorem dX1_add_21 : decode cX1_add 21 = .ok (.getfield 16, 3) := by decide +kernel
theorem dX1_add_24 : decode cX1_add 24 = .ok (.aload_n 0, 1) := by decide +kernel
theorem dX1_add_25 : decode cX1_add 25 = .ok (.getfield 27, 3) := by decide +kernel
theorem dX1_add_28 : decode cX1_add 28 = .ok (.iload_n 3, 1) := by decide +kernel
theorem dX1_add_29 : decode cX1_add 29 = .ok (.iastore, 1) := by decide +kernel
theorem dX1_add_30 : decode cX1_add 30 = .ok (.aload_n 0, 1) := by decide +kernel
theorem dX1_add_31 : decode cX1_add 31 = .ok (.getfield 19, 3) := by decide +kernel
theorem dX1_add_34 : decode cX1_add 34 = .ok (.aload_n 0, 1) := by decide +kernel
theorem dX1_add_35 : decode cX1_add 35 = .ok (.getfield 27, 3) := by decide +kernel
theorem dX1_add_38 : decode cX1_add 38 = .ok (.aload_n 0, 1) := by decide +kernel
theorem dX1_add_39 : decode cX1_add 39 = .ok (.getfield 23, 3) := by decide +kernel
theorem dX1_add_42 : decode cX1_add 42 = .ok (.lastore, 1) := by decide +kernel
theorem dX1_add_43 : decode cX1_add 43 = .ok (.aload_n 0, 1) := by decide +kernel
theorem dX1_add_44 : decode cX1_add 44 = .ok (.dup, 1) := by decide +kernel
theorem dX1_add_45 : decode cX1_add 45 = .ok (.getfield 27, 3) := by decide +kernel
theorem dX1_add_48 : decode cX1_add 48 = .ok (.iconst 1, 1) := by decide +kernel
theorem dX1_add_49 : decode cX1_add 49 = .ok (.iadd, 1) := by decide +kernel
theorem dX1_add_50 : decode cX1_add 50 = .ok (.putfield 27, 3) := by decide +kernel
theorem dX1_add_53 : decode cX1_add 53 = .ok (.aload_n 0, 1) := by decide +kernel
theorem dX1_add_54 : decode cX1_add 54 = .ok (.iload_n 2, 1) := by decide +kernel
theorem dX1_add_55 : decode cX1_add 55 = .ok (.iload_n 3, 1) := by decide +kernel
theorem dX1_add_56 : decode cX1_add 56 = .ok (.invokevirtual 41, 3) := by decide +kernel
theorem dX1_add_59 : decode cX1_add 59 = .ok (.return_, 1) := by decide +kernel
theorem dX1_backTo_0 : decode cX1_backTo 0 = .ok (.iload_n 1, 1) := by decide +kernel
theorem dX1_backTo_1 : decode cX1_backTo 1 = .ok (.aload_n 0, 1) := by decide +kernel
theorem dX1_backTo_2 : decode cX1_backTo 2 = .ok (.getfield 27, 3) := by decide +kernel
theorem dX1_backTo_5 : decode cX1_backTo 5 = .ok (.if_icmp .ge 18, 3) := by decide +kernel
theorem dX1_backTo_8 : decode cX1_backTo 8 = .ok (.aload_n 0, 1) := by decide +kernel
theorem dX1_backTo_9 : decode cX1_backTo 9 = .ok (.aload_n 0, 1) := by decide +kernel
theorem dX1_backTo_10 : decode cX1_backTo 10 = .ok (.getfield 19, 3) := by decide +kernel
theorem dX1_backTo_13 : decode cX1_backTo 13 = .ok (.iload_n 1, 1) := by decide +kernel
theorem dX1_backTo_14 : decode cX1_backTo 14 = .ok (.laload, 1) := by decide +kernel
theorem dX1_backTo_15 : decode cX1_backTo 15 = .ok (.putfield 23, 3) := by decide +kernel
theorem dX1_backTo_18 : decode cX1_backTo 18 = .ok (.aload_n 0, 1) := by decide +kernel
theorem dX1_backTo_19 : decode cX1_backTo 19 = .ok (.iload_n 1, 1) := by decide +kernel
theorem dX1_backTo_20 : decode cX1_backTo 20 = .ok (.putfield 27, 3) := by decide +kernel
theorem dX1_backTo_23 : decode cX1_backTo 23 = .ok (.return_, 1) := by decide +kernel
theorem dX1_showed_0 : decode cX1_showed 0 = .ok (.aload_n 0, 1) := by decide +kernel
theorem dX1_showed_1 : decode cX1_showed 1 = .ok (.getfield 16, 3) := by decide +kernel
theorem dX1_showed_4 : decode cX1_showed 4 = .ok (.iload_n 1, 1) := by decide +kernel
theorem dX1_showed_5 : decode cX1_showed 5 = .ok (.iaload, 1) := by decide +kernel
theorem dX1_showed_6 : decode cX1_showed 6 = .ok (.iload_n 2, 1) := by decide +kernel
theorem dX1_showed_7 : decode cX1_showed 7 = .ok (.ishr, 1) := by decide +kernel
theorem dX1_showed_8 : decode cX1_showed 8 = .ok (.iconst 1, 1) := by decide +kernel
theorem dX1_showed_9 : decode cX1_showed 9 = .ok (.iand, 1) := by decide +kernel
theorem dX1_showed_10 : decode cX1_showed 10 = .ok (.ifCond .eq 7, 3) := by decide +kernel
theorem dX1_showed_13 : decode cX1_showed 13 = .ok (.iconst 1, 1) := by decide +kernel
theorem dX1_showed_14 : decode cX1_showed 14 = .ok (.goto 4, 3) := by decide +kernel
theorem dX1_showed_17 : decode cX1_showed 17 = .ok (.iconst 0, 1) := by decide +kernel
theorem dX1_showed_18 : decode cX1_showed 18 = .ok (.istore 5, 2) := by decide +kernel
theorem dX1_showed_20 : decode cX1_showed 20 = .ok (.aload_n 0, 1) := by decide +kernel
theorem dX1_showed_21 : decode cX1_showed 21 = .ok (.getfield 16, 3) := by decide +kernel
theorem dX1_showed_24 : decode cX1_showed 24 = .ok (.iload_n 1, 1) := by decide +kernel
theorem dX1_showed_25 : decode cX1_showed 25 = .ok (.iaload, 1) := by decide +kernel
theorem dX1_showed_26 : decode cX1_showed 26 = .ok (.iload_n 3, 1) := by decide +kernel
theorem dX1_showed_27 : decode cX1_showed 27 = .ok (.ishr, 1) := by decide +kernel
theorem dX1_showed_28 : decode cX1_showed 28 = .ok (.iconst 1, 1) := by decide +kernel
theorem dX1_showed_29 : decode cX1_showed 29 = .ok (.iand, 1) := by decide +kernel
theorem dX1_showed_30 : decode cX1_showed 30 = .ok (.ifCond .eq 7, 3) := by decide +kernel
theorem dX1_showed_33 : decode cX1_showed 33 = .ok (.iconst 1, 1) := by decide +kernel
theorem dX1_showed_34 : decode cX1_showed 34 = .ok (.goto 4, 3) := by decide +kernel
theorem dX1_showed_37 : decode cX1_showed 37 = .ok (.iconst 0, 1) := by decide +kernel
theorem dX1_showed_38 : decode cX1_showed 38 = .ok (.istore 6, 2) := by decide +kernel
theorem dX1_showed_40 : decode cX1_showed 40 = .ok (.iload 5, 2) := by decide +kernel
theorem dX1_showed_42 : decode cX1_showed 42 = .ok (.ifCond .eq 13, 3) := by decide +kernel
theorem dX1_showed_45 : decode cX1_showed 45 = .ok (.iload 6, 2) := by decide +kernel
theorem dX1_showed_47 : decode cX1_showed 47 = .ok (.ifCond .eq 8, 3) := by decide +kernel
theorem dX1_showed_50 : decode cX1_showed 50 = .ok (.iload 4, 2) := by decide +kernel
theorem dX1_showed_52 : decode cX1_showed 52 = .ok (.ifCond .ne 33, 3) := by decide +kernel
theorem dX1_showed_55 : decode cX1_showed 55 = .ok (.aload_n 0, 1) := by decide +kernel
theorem dX1_showed_56 : decode cX1_showed 56 = .ok (.getfield 9, 3) := by decide +kernel
theorem dX1_showed_59 : decode cX1_showed 59 = .ok (.iload_n 1, 1) := by decide +kernel
theorem dX1_showed_60 : decode cX1_showed 60 = .ok (.iaload, 1) := by decide +kernel
theorem dX1_showed_61 : decode cX1_showed 61 = .ok (.iload_n 2, 1) := by decide +kernel
theorem dX1_showed_62 : decode cX1_showed 62 = .ok (.if_icmp .ne 8, 3) := by decide +kernel
theorem dX1_showed_65 : decode cX1_showed 65 = .ok (.iload 6, 2) := by decide +kernel
theorem dX1_showed_67 : decode cX1_showed 67 = .ok (.ifCond .ne 18, 3) := by decide +kernel
theorem dX1_showed_70 : decode cX1_showed 70 = .ok (.aload_n 0, 1) := by decide +kernel
theorem dX1_showed_71 : decode cX1_showed 71 = .ok (.getfield 9, 3) := by decide +kernel
theorem dX1_showed_74 : decode cX1_showed 74 = .ok (.iload_n 1, 1) := by decide +kernel
theorem dX1_showed_75 : decode cX1_showed 75 = .ok (.iaload, 1) := by decide +kernel
theorem dX1_showed_76 : decode cX1_showed 76 = .ok (.iload_n 3, 1) := by decide +kernel
theorem dX1_showed_77 : decode cX1_showed 77 = .ok (.if_icmp .ne 12, 3) := by decide +kernel
theorem dX1_showed_80 : decode cX1_showed 80 = .ok (.iload 5, 2) := by decide +kernel
theorem dX1_showed_82 : decode cX1_showed 82 = .ok (.ifCond .eq 7, 3) := by decide +kernel
theorem dX1_showed_85 : decode cX1_showed 85 = .ok (.iconst 1, 1) := by decide +kernel
theorem dX1_showed_86 : decode cX1_showed 86 = .ok (.goto 4, 3) := by decide +kernel
theorem dX1_showed_89 : decode cX1_showed 89 = .ok (.iconst 0, 1) := by decide +kernel
theorem dX1_showed_90 : decode cX1_showed 90 = .ok (.ireturn, 1) := by decide +kernel
theorem dX2_isOf_0 : decode cX2_isOf 0 = .ok (.iload_n 0, 1) := by decide +kernel
theorem dX2_isOf_1 : decode cX2_isOf 1 = .ok (.iload_n 1, 1) := by decide +kernel
theorem dX2_isOf_2 : decode cX2_isOf 2 = .ok (.if_icmp .eq 12, 3) := by decide +kernel
theorem dX2_isOf_5 : decode cX2_isOf 5 = .ok (.getstatic 9, 3) := by decide +kernel
theorem dX2_isOf_8 : decode cX2_isOf 8 = .ok (.iload_n 0, 1) := by decide +kernel
theorem dX2_isOf_9 : decode cX2_isOf 9 = .ok (.iaload, 1) := by decide +kernel
theorem dX2_isOf_10 : decode cX2_isOf 10 = .ok (.iload_n 1, 1) := by decide +kernel
theorem dX2_isOf_11 : decode cX2_isOf 11 = .ok (.if_icmp .ne 7, 3) := by decide +kernel
theorem dX2_isOf_14 : decode cX2_isOf 14 = .ok (.iconst 1, 1) := by decide +kernel
theorem dX2_isOf_15 : decode cX2_isOf 15 = .ok (.goto 4, 3) := by decide +kernel
theorem dX2_isOf_18 : decode cX2_isOf 18 = .ok (.iconst 0, 1) := by decide +kernel
theorem dX2_isOf_19 : decode cX2_isOf 19 = .ok (.ireturn, 1) := by decide +kernel
theorem dX2_isEnough_0 : decode cX2_isEnough 0 = .ok (.iload_n 1, 1) := by decide +kernel
theorem dX2_isEnough_1 : decode cX2_isEnough 1 = .ok (.iload_n 2, 1) := by decide +kernel
theorem dX2_isEnough_2 : decode cX2_isEnough 2 = .ok (.if_icmp .gt 13, 3) := by decide +kernel
theorem dX2_isEnough_5 : decode cX2_isEnough 5 = .ok (.iload_n 0, 1) := by decide +kernel
theorem dX2_isEnough_6 : decode cX2_isEnough 6 = .ok (.iconst 5, 1) := by decide +kernel
theorem dX2_isEnough_7 : decode cX2_isEnough 7 = .ok (.if_icmp .ne 12, 3) := by decide +kernel
theorem dX2_isEnough_10 : decode cX2_isEnough 10 = .ok (.iload_n 1, 1) := by decide +kernel
theorem dX2_isEnough_11 : decode cX2_isEnough 11 = .ok (.iload_n 2, 1) := by decide +kernel
theorem dX2_isEnough_12 : decode cX2_isEnough 12 = .ok (.if_icmp .ne 7, 3) := by decide +kernel
theorem dX2_isEnough_15 : decode cX2_isEnough 15 = .ok (.iconst 1, 1) := by decide +kernel
theorem dX2_isEnough_16 : decode cX2_isEnough 16 = .ok (.goto 4, 3) := by decide +kernel
theorem dX2_isEnough_19 : decode cX2_isEnough 19 = .ok (.iconst 0, 1) := by decide +kernel
theorem dX2_isEnough_20 : decode cX2_isEnough 20 = .ok (.istore_n 3, 1) := by decide +kernel
theorem dX2_isEnough_21 : decode cX2_isEnough 21 = .ok (.iload_n 3, 1) := by decide +kernel
theorem dX2_isEnough_22 : decode cX2_isEnough 22 = .ok (.ifCond .eq 16, 3) := by decide +kernel
theorem dX2_isEnough_25 : decode cX2_isEnough 25 = .ok (.iload_n 1, 1) := by decide +kernel
theorem dX2_isEnough_26 : decode cX2_isEnough 26 = .ok (.getstatic 15, 3) := by decide +kernel
theorem dX2_isEnough_29 : decode cX2_isEnough 29 = .ok (.iload_n 0, 1) := by decide +kernel
theorem dX2_isEnough_30 : decode cX2_isEnough 30 = .ok (.iaload, 1) := by decide +kernel
theorem dX2_isEnough_31 : decode cX2_isEnough 31 = .ok (.if_icmp .lt 7, 3) := by decide +kernel
theorem dX2_isEnough_34 : decode cX2_isEnough 34 = .ok (.iconst 1, 1) := by decide +kernel
theorem dX2_isEnough_35 : decode cX2_isEnough 35 = .ok (.goto 4, 3) := by decide +kernel
theorem dX2_isEnough_38 : decode cX2_isEnough 38 = .ok (.iconst 0, 1) := by decide +kernel
theorem dX2_isEnough_39 : decode cX2_isEnough 39 = .ok (.ireturn, 1) := by decide +kernel
theorem dX2_byLetter_0 : decode cX2_byLetter 0 = .ok (.iconst 0, 1) := by decide +kernel
theorem dX2_byLetter_1 : decode cX2_byLetter 1 = .ok (.istore_n 1, 1) := by decide +kernel
theorem dX2_byLetter_2 : decode cX2_byLetter 2 = .ok (.iload_n 1, 1) := by decide +kernel
theorem dX2_byLetter_3 : decode cX2_byLetter 3 = .ok (.bipush 6, 2) := by decide +kernel
theorem dX2_byLetter_5 : decode cX2_byLetter 5 = .ok (.if_icmp .ge 20, 3) := by decide +kernel
theorem dX2_byLetter_8 : decode cX2_byLetter 8 = .ok (.getstatic 18, 3) := by decide +kernel
theorem dX2_byLetter_11 : decode cX2_byLetter 11 = .ok (.iload_n 1, 1) := by decide +kernel
theorem dX2_byLetter_12 : decode cX2_byLetter 12 = .ok (.iaload, 1) := by decide +kernel
theorem dX2_byLetter_13 : decode cX2_byLetter 13 = .ok (.iload_n 0, 1) := by decide +kernel
theorem dX2_byLetter_14 : decode cX2_byLetter 14 = .ok (.if_icmp .ne 5, 3) := by decide +kernel
theorem dX2_byLetter_17 : decode cX2_byLetter 17 = .ok (.iload_n 1, 1) := by decide +kernel
theorem dX2_byLetter_18 : decode cX2_byLetter 18 = .ok (.ireturn, 1) := by decide +kernel
theorem dX2_byLetter_19 : decode cX2_byLetter 19 = .ok (.iinc 1 1, 3) := by decide +kernel
theorem dX2_byLetter_22 : decode cX2_byLetter 22 = .ok (.goto (-20), 3) := by decide +kernel
theorem dX2_byLetter_25 : decode cX2_byLetter 25 = .ok (.bipush (-9), 2) := by decide +kernel
theorem dX2_byLetter_27 : decode cX2_byLetter 27 = .ok (.ireturn, 1) := by decide +kernel
theorem dX3_init_0 : decode cX3_init 0 = .ok (.aload_n 0, 1) := by decide +kernel
theorem dX3_init_1 : decode cX3_init 1 = .ok (.invokespecial 5, 3) := by decide +kernel
theorem dX3_init_4 : decode cX3_init 4 = .ok (.aload_n 0, 1) := by decide +kernel
theorem dX3_init_5 : decode cX3_init 5 = .ok (.sipush 256, 3) := by decide +kernel
theorem dX3_init_8 : decode cX3_init 8 = .ok (.newarray .boolean, 2) := by decide +kernel
theorem dX3_init_10 : decode cX3_init 10 = .ok (.putfield 13, 3) := by decide +kernel
theorem dX3_init_13 : decode cX3_init 13 = .ok (.aload_n 0, 1) := by decide +kernel
theorem dX3_init_14 : decode cX3_init 14 = .ok (.sipush 256, 3) := by decide +kernel
theorem dX3_init_17 : decode cX3_init 17 = .ok (.newarray .int, 2) := by decide +kernel
theorem dX3_init_19 : decode cX3_init 19 = .ok (.putfield 17, 3) := by decide +kernel
theorem dX3_init_22 : decode cX3_init 22 = .ok (.return_, 1) := by decide +kernel
set_option maxRecDepth 20000 in
theorem ggX3_draw_X6_everyTalk : GoodIn wsX3_draw wsX6_everyTalk := goodIn_r _ [7, 8, 68, 69, 70, 71, 72, 73, 74, 75, 76, 77, 78] (by decide +kernel) (by decide +kernel)
set_option maxRecDepth 20000 in
theorem gX3_draw_X6_everyTalk : GoodIn wsX3_draw (wsV RX3 21 RX6 yX6_everyTalk wsX6_everyTalk) := goodIn_app (goodIn_of _ (by decide +kernel)) ggX3_draw_X6_everyTalk
set_option maxRecDepth 20000 in
theorem ggX3_draw_X6_goTogether : GoodIn wsX3_draw wsX6_goTogether := goodIn_r _ [12, 8, 13, 14, 15, 16, 6, 17, 18, 19, 20, 21, 22, 23, 24, 25, 26, 27, 28, 29, 30, 31, 32, 33, 34, 35, 36, 37, 38, 39, 40, 41, 42, 43, 44, 45, 46, 47, 48, 49, 50, 51, 52, 53, 54, 55, 56, 57, 68, 69, 70, 71, 72, 73, 74, 75, 76, 77, 78] (by decide +kernel) (by decide +kernel)
set_option maxRecDepth 20000 in
theorem gX3_draw_X6_goTogether : GoodIn wsX3_draw (wsV RX3 25 RX6 yX6_goTogether wsX6_goTogether) := goodIn_app (goodIn_of _ (by decide +kernel)) ggX3_draw_X6_goTogether
set_option maxRecDepth 20000 in
theorem ggX3_draw_X3_fewestOf : GoodIn wsX3_draw wsX3_fewestOf := goodIn_r _ [62, 1, 2, 63, 64, 38, 65, 66, 67] (by decide +kernel) (by decide +kernel)
set_option maxRecDepth 20000 in
theorem gX3_draw_X3_fewestOf : GoodIn wsX3_draw (wsV RX3 29 RX3 yX3_fewestOf wsX3_fewestOf) := goodIn_app (goodIn_of _ (by decide +kernel)) ggX3_draw_X3_fewestOf
theorem dX3_draw_0 : decode cX3_draw 0 = .ok (.iconst 0, 1) := by decide +kernel
theorem dX3_draw_1 : decode cX3_draw 1 = .ok (.istore_n 2, 1) := by decide +kernel
theorem dX3_draw_2 : decode cX3_draw 2 = .ok (.iload_n 2, 1) := by decide +kernel
theorem dX3_draw_3 : decode cX3_draw 3 = .ok (.aload_n 1, 1) := by decide +kernel
theorem dX3_draw_4 : decode cX3_draw 4 = .ok (.invokevirtual 21, 3) := by decide +kernel
theorem dX3_draw_7 : decode cX3_draw 7 = .ok (.if_icmp .gt 39, 3) := by decide +kernel
theorem dX3_draw_10 : decode cX3_draw 10 = .ok (.aload_n 0, 1) := by decide +kernel
theorem dX3_draw_11 : decode cX3_draw 11 = .ok (.getfield 13, 3) := by decide +kernel
theorem dX3_draw_14 : decode cX3_draw 14 = .ok (.iload_n 2, 1) := by decide +kernel
theorem dX3_draw_15 : decode cX3_draw 15 = .ok (.aload_n 1, 1) := by decide +kernel
theorem dX3_draw_16 : decode cX3_draw 16 = .ok (.iload_n 2, 1) := by decide +kernel
theorem dX3_draw_17 : decode cX3_draw 17 = .ok (.invokevirtual 25, 3) := by decide +kernel
theorem dX3_draw_20 : decode cX3_draw 20 = .ok (.bastore, 1) := by decide +kernel
theorem dX3_draw_21 : decode cX3_draw 21 = .ok (.aload_n 0, 1) := by decide +kernel
theorem dX3_draw_22 : decode cX3_draw 22 = .ok (.getfield 17, 3) := by decide +kernel
theorem dX3_draw_25 : decode cX3_draw 25 = .ok (.iload_n 2, 1) := by decide +kernel
theorem dX3_draw_26 : decode cX3_draw 26 = .ok (.iload_n 2, 1) := by decide +kernel
theorem dX3_draw_27 : decode cX3_draw 27 = .ok (.ifCond .ne 7, 3) := by decide +kernel
theorem dX3_draw_30 : decode cX3_draw 30 = .ok (.iconst 0, 1) := by decide +kernel
theorem dX3_draw_31 : decode cX3_draw 31 = .ok (.goto 8, 3) := by decide +kernel
theorem dX3_draw_34 : decode cX3_draw 34 = .ok (.aload_n 0, 1) := by decide +kernel
theorem dX3_draw_35 : decode cX3_draw 35 = .ok (.iload_n 2, 1) := by decide +kernel
theorem dX3_draw_36 : decode cX3_draw 36 = .ok (.invokevirtual 29, 3) := by decide +kernel
theorem dX3_draw_39 : decode cX3_draw 39 = .ok (.iastore, 1) := by decide +kernel
theorem dX3_draw_40 : decode cX3_draw 40 = .ok (.iinc 2 1, 3) := by decide +kernel
theorem dX3_draw_43 : decode cX3_draw 43 = .ok (.goto (-41), 3) := by decide +kernel
theorem dX3_draw_46 : decode cX3_draw 46 = .ok (.return_, 1) := by decide +kernel
theorem dX3_fewestOf_0 : decode cX3_fewestOf 0 = .ok (.iload_n 1, 1) := by decide +kernel
theorem dX3_fewestOf_1 : decode cX3_fewestOf 1 = .ok (.iload_n 1, 1) := by decide +kernel
theorem dX3_fewestOf_2 : decode cX3_fewestOf 2 = .ok (.ineg, 1) := by decide +kernel
theorem dX3_fewestOf_3 : decode cX3_fewestOf 3 = .ok (.iand, 1) := by decide +kernel
theorem dX3_fewestOf_4 : decode cX3_fewestOf 4 = .ok (.istore_n 2, 1) := by decide +kernel
theorem dX3_fewestOf_5 : decode cX3_fewestOf 5 = .ok (.bipush 100, 2) := by decide +kernel
theorem dX3_fewestOf_7 : decode cX3_fewestOf 7 = .ok (.istore_n 3, 1) := by decide +kernel
theorem dX3_fewestOf_8 : decode cX3_fewestOf 8 = .ok (.iload_n 1, 1) := by decide +kernel
theorem dX3_fewestOf_9 : decode cX3_fewestOf 9 = .ok (.istore 4, 2) := by decide +kernel
theorem dX3_fewestOf_11 : decode cX3_fewestOf 11 = .ok (.iload 4, 2) := by decide +kernel
theorem dX3_fewestOf_13 : decode cX3_fewestOf 13 = .ok (.ifCond .le 49, 3) := by decide +kernel
theorem dX3_fewestOf_16 : decode cX3_fewestOf 16 = .ok (.iload 4, 2) := by decide +kernel
theorem dX3_fewestOf_18 : decode cX3_fewestOf 18 = .ok (.iload_n 2, 1) := by decide +kernel
theorem dX3_fewestOf_19 : decode cX3_fewestOf 19 = .ok (.iand, 1) := by decide +kernel
theorem dX3_fewestOf_20 : decode cX3_fewestOf 20 = .ok (.ifCond .eq 31, 3) := by decide +kernel
theorem dX3_fewestOf_23 : decode cX3_fewestOf 23 = .ok (.aload_n 0, 1) := by decide +kernel
theorem dX3_fewestOf_24 : decode cX3_fewestOf 24 = .ok (.getfield 13, 3) := by decide +kernel
theorem dX3_fewestOf_27 : decode cX3_fewestOf 27 = .ok (.iload 4, 2) := by decide +kernel
theorem dX3_fewestOf_29 : decode cX3_fewestOf 29 = .ok (.baload, 1) := by decide +kernel
theorem dX3_fewestOf_30 : decode cX3_fewestOf 30 = .ok (.ifCond .eq 21, 3) := by decide +kernel
theorem dX3_fewestOf_33 : decode cX3_fewestOf 33 = .ok (.iload_n 3, 1) := by decide +kernel
theorem dX3_fewestOf_34 : decode cX3_fewestOf 34 = .ok (.iconst 1, 1) := by decide +kernel
theorem dX3_fewestOf_35 : decode cX3_fewestOf 35 = .ok (.aload_n 0, 1) := by decide +kernel
theorem dX3_fewestOf_36 : decode cX3_fewestOf 36 = .ok (.getfield 17, 3) := by decide +kernel
theorem dX3_fewestOf_39 : decode cX3_fewestOf 39 = .ok (.iload_n 1, 1) := by decide +kernel
theorem dX3_fewestOf_40 : decode cX3_fewestOf 40 = .ok (.iload 4, 2) := by decide +kernel
theorem dX3_fewestOf_42 : decode cX3_fewestOf 42 = .ok (.iconst (-1), 1) := by decide +kernel
theorem dX3_fewestOf_43 : decode cX3_fewestOf 43 = .ok (.ixor, 1) := by decide +kernel
theorem dX3_fewestOf_44 : decode cX3_fewestOf 44 = .ok (.iand, 1) := by decide +kernel
theorem dX3_fewestOf_45 : decode cX3_fewestOf 45 = .ok (.iaload, 1) := by decide +kernel
theorem dX3_fewestOf_46 : decode cX3_fewestOf 46 = .ok (.iadd, 1) := by decide +kernel
theorem dX3_fewestOf_47 : decode cX3_fewestOf 47 = .ok (.invokestatic 33, 3) := by decide +kernel
theorem dX3_fewestOf_50 : decode cX3_fewestOf 50 = .ok (.istore_n 3, 1) := by decide +kernel
theorem dX3_fewestOf_51 : decode cX3_fewestOf 51 = .ok (.iload 4, 2) := by decide +kernel
theorem dX3_fewestOf_53 : decode cX3_fewestOf 53 = .ok (.iconst 1, 1) := by decide +kernel
theorem dX3_fewestOf_54 : decode cX3_fewestOf 54 = .ok (.isub, 1) := by decide +kernel
theorem dX3_fewestOf_55 : decode cX3_fewestOf 55 = .ok (.iload_n 1, 1) := by decide +kernel
theorem dX3_fewestOf_56 : decode cX3_fewestOf 56 = .ok (.iand, 1) := by decide +kernel
theorem dX3_fewestOf_57 : decode cX3_fewestOf 57 = .ok (.istore 4, 2) := by decide +kernel
theorem dX3_fewestOf_59 : decode cX3_fewestOf 59 = .ok (.goto (-48), 3) := by decide +kernel
theorem dX3_fewestOf_62 : decode cX3_fewestOf 62 = .ok (.iload_n 3, 1) := by decide +kernel
theorem dX3_fewestOf_63 : decode cX3_fewestOf 63 = .ok (.ireturn, 1) := by decide +kernel
set_option maxRecDepth 20000 in
theorem ggX3_hours_X6_everyTalk : GoodIn wsX3_hours wsX6_everyTalk := goodIn_r _ [6, 7, 10, 11, 12, 13, 14, 15, 16, 17, 18, 19, 20] (by decide +kernel) (by decide +kernel)
set_option maxRecDepth 20000 in
theorem gX3_hours_X6_everyTalk : GoodIn wsX3_hours (wsV RX3 21 RX6 yX6_everyTalk wsX6_everyTalk) := goodIn_app (goodIn_of _ (by decide +kernel)) ggX3_hours_X6_everyTalk
theorem dX3_hours_0 : decode cX3_hours 0 = .ok (.aload_n 0, 1) := by decide +kernel
theorem dX3_hours_1 : decode cX3_hours 1 = .ok (.getfield 17, 3) := by decide +kernel
theorem dX3_hours_4 : decode cX3_hours 4 = .ok (.aload_n 1, 1) := by decide +kernel
theorem dX3_hours_5 : decode cX3_hours 5 = .ok (.invokevirtual 21, 3) := by decide +kernel
theorem dX3_hours_8 : decode cX3_hours 8 = .ok (.iaload, 1) := by decide +kernel
theorem dX3_hours_9 : decode cX3_hours 9 = .ok (.istore_n 2, 1) := by decide +kernel
theorem dX3_hours_10 : decode cX3_hours 10 = .ok (.iload_n 2, 1) := by decide +kernel
theorem dX3_hours_11 : decode cX3_hours 11 = .ok (.bipush 100, 2) := by decide +kernel
theorem dX3_hours_13 : decode cX3_hours 13 = .ok (.if_icmp .ge 7, 3) := by decide +kernel
theorem dX3_hours_16 : decode cX3_hours 16 = .ok (.iload_n 2, 1) := by decide +kernel
theorem dX3_hours_17 : decode cX3_hours 17 = .ok (.goto 5, 3) := by decide +kernel
theorem dX3_hours_20 : decode cX3_hours 20 = .ok (.bipush (-9), 2) := by decide +kernel
theorem dX3_hours_22 : decode cX3_hours 22 = .ok (.ireturn, 1) := by decide +kernel
set_option maxRecDepth 20000 in
theorem ggX3_firstHour_X6_everyTalk : GoodIn wsX3_firstHour wsX6_everyTalk := goodIn_r _ [7, 8, 11, 12, 13, 14, 15, 16, 17, 18, 19, 20, 21] (by decide +kernel) (by decide +kernel)
set_option maxRecDepth 20000 in
theorem gX3_firstHour_X6_everyTalk : GoodIn wsX3_firstHour (wsV RX3 21 RX6 yX6_everyTalk wsX6_everyTalk) := goodIn_app (goodIn_of _ (by decide +kernel)) ggX3_firstHour_X6_everyTalk
theorem dX3_firstHour_0 : decode cX3_firstHour 0 = .ok (.aload_n 1, 1) := by decide +kernel
theorem dX3_firstHour_1 : decode cX3_firstHour 1 = .ok (.invokevirtual 21, 3) := by decide +kernel
theorem dX3_firstHour_4 : decode cX3_firstHour 4 = .ok (.istore_n 2, 1) := by decide +kernel
theorem dX3_firstHour_5 : decode cX3_firstHour 5 = .ok (.iconst 1, 1) := by decide +kernel
theorem dX3_firstHour_6 : decode cX3_firstHour 6 = .ok (.istore_n 3, 1) := by decide +kernel
theorem dX3_firstHour_7 : decode cX3_firstHour 7 = .ok (.iload_n 3, 1) := by decide +kernel
theorem dX3_firstHour_8 : decode cX3_firstHour 8 = .ok (.iload_n 2, 1) := by decide +kernel
theorem dX3_firstHour_9 : decode cX3_firstHour 9 = .ok (.if_icmp .gt 41, 3) := by decide +kernel
theorem dX3_firstHour_12 : decode cX3_firstHour 12 = .ok (.aload_n 0, 1) := by decide +kernel
theorem dX3_firstHour_13 : decode cX3_firstHour 13 = .ok (.getfield 13, 3) := by decide +kernel
theorem dX3_firstHour_16 : decode cX3_firstHour 16 = .ok (.iload_n 3, 1) := by decide +kernel
theorem dX3_firstHour_17 : decode cX3_firstHour 17 = .ok (.baload, 1) := by decide +kernel
theorem dX3_firstHour_18 : decode cX3_firstHour 18 = .ok (.ifCond .eq 26, 3) := by decide +kernel
theorem dX3_firstHour_21 : decode cX3_firstHour 21 = .ok (.iconst 1, 1) := by decide +kernel
theorem dX3_firstHour_22 : decode cX3_firstHour 22 = .ok (.aload_n 0, 1) := by decide +kernel
theorem dX3_firstHour_23 : decode cX3_firstHour 23 = .ok (.getfield 17, 3) := by decide +kernel
theorem dX3_firstHour_26 : decode cX3_firstHour 26 = .ok (.iload_n 2, 1) := by decide +kernel
theorem dX3_firstHour_27 : decode cX3_firstHour 27 = .ok (.iload_n 3, 1) := by decide +kernel
theorem dX3_firstHour_28 : decode cX3_firstHour 28 = .ok (.iconst (-1), 1) := by decide +kernel
theorem dX3_firstHour_29 : decode cX3_firstHour 29 = .ok (.ixor, 1) := by decide +kernel
theorem dX3_firstHour_30 : decode cX3_firstHour 30 = .ok (.iand, 1) := by decide +kernel
theorem dX3_firstHour_31 : decode cX3_firstHour 31 = .ok (.iaload, 1) := by decide +kernel
theorem dX3_firstHour_32 : decode cX3_firstHour 32 = .ok (.iadd, 1) := by decide +kernel
theorem dX3_firstHour_33 : decode cX3_firstHour 33 = .ok (.aload_n 0, 1) := by decide +kernel
theorem dX3_firstHour_34 : decode cX3_firstHour 34 = .ok (.getfield 17, 3) := by decide +kernel
theorem dX3_firstHour_37 : decode cX3_firstHour 37 = .ok (.iload_n 2, 1) := by decide +kernel
theorem dX3_firstHour_38 : decode cX3_firstHour 38 = .ok (.iaload, 1) := by decide +kernel
theorem dX3_firstHour_39 : decode cX3_firstHour 39 = .ok (.if_icmp .ne 5, 3) := by decide +kernel
theorem dX3_firstHour_42 : decode cX3_firstHour 42 = .ok (.iload_n 3, 1) := by decide +kernel
theorem dX3_firstHour_43 : decode cX3_firstHour 43 = .ok (.ireturn, 1) := by decide +kernel
theorem dX3_firstHour_44 : decode cX3_firstHour 44 = .ok (.iinc 3 2, 3) := by decide +kernel
theorem dX3_firstHour_47 : decode cX3_firstHour 47 = .ok (.goto (-40), 3) := by decide +kernel
theorem dX3_firstHour_50 : decode cX3_firstHour 50 = .ok (.iconst 0, 1) := by decide +kernel
theorem dX3_firstHour_51 : decode cX3_firstHour 51 = .ok (.ireturn, 1) := by decide +kernel
set_option maxRecDepth 20000 in
theorem ggX3_largest_X6_everyTalk : GoodIn wsX3_largest wsX6_everyTalk := goodIn_r _ [6, 7, 17, 18, 19, 20, 21, 22, 23, 24, 25, 26, 27] (by decide +kernel) (by decide +kernel)
set_option maxRecDepth 20000 in
theorem gX3_largest_X6_everyTalk : GoodIn wsX3_largest (wsV RX3 21 RX6 yX6_everyTalk wsX6_everyTalk) := goodIn_app (goodIn_of _ (by decide +kernel)) ggX3_largest_X6_everyTalk
set_option maxRecDepth 20000 in
theorem ggX3_largest_J6_bitCount_0f7a4 : GoodIn wsX3_largest wsJ6_bitCount_0f7a4 := goodIn_r _ [11, 12, 13, 14] (by decide +kernel) (by decide +kernel)
set_option maxRecDepth 20000 in
theorem gX3_largest_J6_bitCount_0f7a4 : GoodIn wsX3_largest (va_wsS RX3 39 yJ6_bitCount_0f7a4 wsJ6_bitCount_0f7a4) := goodIn_app (goodIn_of _ (by decide +kernel)) ggX3_largest_J6_bitCount_0f7a4
theorem dX3_largest_0 : decode cX3_largest 0 = .ok (.iconst 0, 1) := by decide +kernel
theorem dX3_largest_1 : decode cX3_largest 1 = .ok (.istore_n 2, 1) := by decide +kernel
theorem dX3_largest_2 : decode cX3_largest 2 = .ok (.iconst 0, 1) := by decide +kernel
theorem dX3_largest_3 : decode cX3_largest 3 = .ok (.istore_n 3, 1) := by decide +kernel
theorem dX3_largest_4 : decode cX3_largest 4 = .ok (.iload_n 3, 1) := by decide +kernel
theorem dX3_largest_5 : decode cX3_largest 5 = .ok (.aload_n 1, 1) := by decide +kernel
theorem dX3_largest_6 : decode cX3_largest 6 = .ok (.invokevirtual 21, 3) := by decide +kernel
theorem dX3_largest_9 : decode cX3_largest 9 = .ok (.if_icmp .gt 31, 3) := by decide +kernel
theorem dX3_largest_12 : decode cX3_largest 12 = .ok (.aload_n 0, 1) := by decide +kernel
theorem dX3_largest_13 : decode cX3_largest 13 = .ok (.getfield 13, 3) := by decide +kernel
theorem dX3_largest_16 : decode cX3_largest 16 = .ok (.iload_n 3, 1) := by decide +kernel
theorem dX3_largest_17 : decode cX3_largest 17 = .ok (.baload, 1) := by decide +kernel
theorem dX3_largest_18 : decode cX3_largest 18 = .ok (.ifCond .eq 16, 3) := by decide +kernel
theorem dX3_largest_21 : decode cX3_largest 21 = .ok (.iload_n 3, 1) := by decide +kernel
theorem dX3_largest_22 : decode cX3_largest 22 = .ok (.invokestatic 39, 3) := by decide +kernel
theorem dX3_largest_25 : decode cX3_largest 25 = .ok (.iload_n 2, 1) := by decide +kernel
theorem dX3_largest_26 : decode cX3_largest 26 = .ok (.invokestatic 39, 3) := by decide +kernel
theorem dX3_largest_29 : decode cX3_largest 29 = .ok (.if_icmp .le 5, 3) := by decide +kernel
theorem dX3_largest_32 : decode cX3_largest 32 = .ok (.iload_n 3, 1) := by decide +kernel
theorem dX3_largest_33 : decode cX3_largest 33 = .ok (.istore_n 2, 1) := by decide +kernel
theorem dX3_largest_34 : decode cX3_largest 34 = .ok (.iinc 3 1, 3) := by decide +kernel
theorem dX3_largest_37 : decode cX3_largest 37 = .ok (.goto (-33), 3) := by decide +kernel
theorem dX3_largest_40 : decode cX3_largest 40 = .ok (.iload_n 2, 1) := by decide +kernel
theorem dX3_largest_41 : decode cX3_largest 41 = .ok (.ireturn, 1) := by decide +kernel
theorem dX4_init_0 : decode cX4_init 0 = .ok (.aload_n 0, 1) := by decide +kernel
theorem dX4_init_1 : decode cX4_init 1 = .ok (.invokespecial 1, 3) := by decide +kernel
theorem dX4_init_4 : decode cX4_init 4 = .ok (.aload_n 0, 1) := by decide +kernel
theorem dX4_init_5 : decode cX4_init 5 = .ok (.bipush 40, 2) := by decide +kernel
theorem dX4_init_7 : decode cX4_init 7 = .ok (.newarray .int, 2) := by decide +kernel
theorem dX4_init_9 : decode cX4_init 9 = .ok (.putfield 9, 3) := by decide +kernel
theorem dX4_init_12 : decode cX4_init 12 = .ok (.aload_n 0, 1) := by decide +kernel
theorem dX4_init_13 : decode cX4_init 13 = .ok (.iconst (-1), 1) := by decide +kernel
theorem dX4_init_14 : decode cX4_init 14 = .ok (.putfield 13, 3) := by decide +kernel
theorem dX4_init_17 : decode cX4_init 17 = .ok (.return_, 1) := by decide +kernel
theorem dX4_isMissing_0 : decode cX4_isMissing 0 = .ok (.aload_n 0, 1) := by decide +kernel
theorem dX4_isMissing_1 : decode cX4_isMissing 1 = .ok (.getfield 13, 3) := by decide +kernel
theorem dX4_isMissing_4 : decode cX4_isMissing 4 = .ok (.ifCond .ge 7, 3) := by decide +kernel
theorem dX4_isMissing_7 : decode cX4_isMissing 7 = .ok (.iconst 1, 1) := by decide +kernel
theorem dX4_isMissing_8 : decode cX4_isMissing 8 = .ok (.goto 4, 3) := by decide +kernel
theorem dX4_isMissing_11 : decode cX4_isMissing 11 = .ok (.iconst 0, 1) := by decide +kernel
theorem dX4_isMissing_12 : decode cX4_isMissing 12 = .ok (.ireturn, 1) := by decide +kernel
theorem dX4_has_0 : decode cX4_has 0 = .ok (.iload_n 1, 1) := by decide +kernel
theorem dX4_has_1 : decode cX4_has 1 = .ok (.ifCond .lt 15, 3) := by decide +kernel
theorem dX4_has_4 : decode cX4_has 4 = .ok (.iload_n 1, 1) := by decide +kernel
theorem dX4_has_5 : decode cX4_has 5 = .ok (.aload_n 0, 1) := by decide +kernel
theorem dX4_has_6 : decode cX4_has 6 = .ok (.getfield 13, 3) := by decide +kernel
theorem dX4_has_9 : decode cX4_has 9 = .ok (.if_icmp .ge 7, 3) := by decide +kernel
theorem dX4_has_12 : decode cX4_has 12 = .ok (.iconst 1, 1) := by decide +kernel
theorem dX4_has_13 : decode cX4_has 13 = .ok (.goto 4, 3) := by decide +kernel
theorem dX4_has_16 : decode cX4_has 16 = .ok (.iconst 0, 1) := by decide +kernel
theorem dX4_has_17 : decode cX4_has 17 = .ok (.ireturn, 1) := by decide +kernel
theorem dX4_begin_0 : decode cX4_begin 0 = .ok (.aload_n 0, 1) := by decide +kernel
theorem dX4_begin_1 : decode cX4_begin 1 = .ok (.iload_n 1, 1) := by decide +kernel
theorem dX4_begin_2 : decode cX4_begin 2 = .ok (.putfield 13, 3) := by decide +kernel
theorem dX4_begin_5 : decode cX4_begin 5 = .ok (.iconst 0, 1) := by decide +kernel
theorem dX4_begin_6 : decode cX4_begin 6 = .ok (.istore_n 2, 1) := by decide +kernel
theorem dX4_begin_7 : decode cX4_begin 7 = .ok (.iload_n 2, 1) := by decide +kernel
theorem dX4_begin_8 : decode cX4_begin 8 = .ok (.bipush 40, 2) := by decide +kernel
theorem dX4_begin_10 : decode cX4_begin 10 = .ok (.if_icmp .ge 16, 3) := by decide +kernel
theorem dX4_begin_13 : decode cX4_begin 13 = .ok (.aload_n 0, 1) := by decide +kernel
theorem dX4_begin_14 : decode cX4_begin 14 = .ok (.getfield 9, 3) := by decide +kernel
theorem dX4_begin_17 : decode cX4_begin 17 = .ok (.iload_n 2, 1) := by decide +kernel
theorem dX4_begin_18 : decode cX4_begin 18 = .ok (.iconst 0, 1) := by decide +kernel
theorem dX4_begin_19 : decode cX4_begin 19 = .ok (.iastore, 1) := by decide +kernel
theorem dX4_begin_20 : decode cX4_begin 20 = .ok (.iinc 2 1, 3) := by decide +kernel
theorem dX4_begin_23 : decode cX4_begin 23 = .ok (.goto (-16), 3) := by decide +kernel
theorem dX4_begin_26 : decode cX4_begin 26 = .ok (.return_, 1) := by decide +kernel
set_option maxRecDepth 20000 in
theorem ggX4_fill_X4_begin : GoodIn wsX4_fill wsX4_begin := goodIn_r _ [10, 11, 1, 12, 13] (by decide +kernel) (by decide +kernel)
set_option maxRecDepth 20000 in
theorem gX4_fill_X4_begin : GoodIn wsX4_fill (wsV RX4 17 RX4 yX4_begin wsX4_begin) := goodIn_app (goodIn_of _ (by decide +kernel)) ggX4_fill_X4_begin
theorem dX4_fill_0 : decode cX4_fill 0 = .ok (.aload_n 0, 1) := by decide +kernel
theorem dX4_fill_1 : decode cX4_fill 1 = .ok (.iload_n 2, 1) := by decide +kernel
theorem dX4_fill_2 : decode cX4_fill 2 = .ok (.invokevirtual 17, 3) := by decide +kernel
theorem dX4_fill_5 : decode cX4_fill 5 = .ok (.aload_n 1, 1) := by decide +kernel
theorem dX4_fill_6 : decode cX4_fill 6 = .ok (.iconst 0, 1) := by decide +kernel
theorem dX4_fill_7 : decode cX4_fill 7 = .ok (.aload_n 0, 1) := by decide +kernel
theorem dX4_fill_8 : decode cX4_fill 8 = .ok (.getfield 9, 3) := by decide +kernel
theorem dX4_fill_11 : decode cX4_fill 11 = .ok (.iconst 0, 1) := by decide +kernel
theorem dX4_fill_12 : decode cX4_fill 12 = .ok (.iload_n 2, 1) := by decide +kernel
theorem dX4_fill_13 : decode cX4_fill 13 = .ok (.invokestatic 21, 3) := by decide +kernel
theorem dX4_fill_16 : decode cX4_fill 16 = .ok (.return_, 1) := by decide +kernel
theorem dX5_init_0 : decode cX5_init 0 = .ok (.aload_n 0, 1) := by decide +kernel
theorem dX5_init_1 : decode cX5_init 1 = .ok (.invokespecial 1, 3) := by decide +kernel
theorem dX5_init_4 : decode cX5_init 4 = .ok (.aload_n 0, 1) := by decide +kernel
theorem dX5_init_5 : decode cX5_init 5 = .ok (.bipush 6, 2) := by decide +kernel
theorem dX5_init_7 : decode cX5_init 7 = .ok (.newarray .int, 2) := by decide +kernel
theorem dX5_init_9 : decode cX5_init 9 = .ok (.putfield 9, 3) := by decide +kernel
theorem dX5_init_12 : decode cX5_init 12 = .ok (.return_, 1) := by decide +kernel
theorem dX5_begin_0 : decode cX5_begin 0 = .ok (.aload_n 0, 1) := by decide +kernel
theorem dX5_begin_1 : decode cX5_begin 1 = .ok (.iload_n 1, 1) := by decide +kernel
theorem dX5_begin_2 : decode cX5_begin 2 = .ok (.putfield 15, 3) := by decide +kernel
theorem dX5_begin_5 : decode cX5_begin 5 = .ok (.iconst 0, 1) := by decide +kernel
theorem dX5_begin_6 : decode cX5_begin 6 = .ok (.istore_n 3, 1) := by decide +kernel
theorem dX5_begin_7 : decode cX5_begin 7 = .ok (.iload_n 3, 1) := by decide +kernel
theorem dX5_begin_8 : decode cX5_begin 8 = .ok (.iload_n 1, 1) := by decide +kernel
theorem dX5_begin_9 : decode cX5_begin 9 = .ok (.if_icmp .ge 27, 3) := by decide +kernel
theorem dX5_begin_12 : decode cX5_begin 12 = .ok (.aload_n 0, 1) := by decide +kernel
theorem dX5_begin_13 : decode cX5_begin 13 = .ok (.getfield 9, 3) := by decide +kernel
theorem dX5_begin_16 : decode cX5_begin 16 = .ok (.iload_n 3, 1) := by decide +kernel
theorem dX5_begin_17 : decode cX5_begin 17 = .ok (.iload_n 3, 1) := by decide +kernel
theorem dX5_begin_18 : decode cX5_begin 18 = .ok (.iload_n 1, 1) := by decide +kernel
theorem dX5_begin_19 : decode cX5_begin 19 = .ok (.iconst 1, 1) := by decide +kernel
theorem dX5_begin_20 : decode cX5_begin 20 = .ok (.isub, 1) := by decide +kernel
theorem dX5_begin_21 : decode cX5_begin 21 = .ok (.if_icmp .ne 7, 3) := by decide +kernel
theorem dX5_begin_24 : decode cX5_begin 24 = .ok (.iload_n 2, 1) := by decide +kernel
theorem dX5_begin_25 : decode cX5_begin 25 = .ok (.goto 4, 3) := by decide +kernel
theorem dX5_begin_28 : decode cX5_begin 28 = .ok (.iconst 0, 1) := by decide +kernel
theorem dX5_begin_29 : decode cX5_begin 29 = .ok (.iastore, 1) := by decide +kernel
theorem dX5_begin_30 : decode cX5_begin 30 = .ok (.iinc 3 1, 3) := by decide +kernel
theorem dX5_begin_33 : decode cX5_begin 33 = .ok (.goto (-26), 3) := by decide +kernel
theorem dX5_begin_36 : decode cX5_begin 36 = .ok (.return_, 1) := by decide +kernel
theorem dX5_advance_0 : decode cX5_advance 0 = .ok (.aload_n 0, 1) := by decide +kernel
theorem dX5_advance_1 : decode cX5_advance 1 = .ok (.getfield 15, 3) := by decide +kernel
theorem dX5_advance_4 : decode cX5_advance 4 = .ok (.iconst 1, 1) := by decide +kernel
theorem dX5_advance_5 : decode cX5_advance 5 = .ok (.isub, 1) := by decide +kernel
theorem dX5_advance_6 : decode cX5_advance 6 = .ok (.istore_n 1, 1) := by decide +kernel
theorem dX5_advance_7 : decode cX5_advance 7 = .ok (.iload_n 1, 1) := by decide +kernel
theorem dX5_advance_8 : decode cX5_advance 8 = .ok (.ifCond .le 18, 3) := by decide +kernel
theorem dX5_advance_11 : decode cX5_advance 11 = .ok (.aload_n 0, 1) := by decide +kernel
theorem dX5_advance_12 : decode cX5_advance 12 = .ok (.getfield 9, 3) := by decide +kernel
theorem dX5_advance_15 : decode cX5_advance 15 = .ok (.iload_n 1, 1) := by decide +kernel
theorem dX5_advance_16 : decode cX5_advance 16 = .ok (.iaload, 1) := by decide +kernel
theorem dX5_advance_17 : decode cX5_advance 17 = .ok (.ifCond .ne 9, 3) := by decide +kernel
theorem dX5_advance_20 : decode cX5_advance 20 = .ok (.iinc 1 (-1), 3) := by decide +kernel
theorem dX5_advance_23 : decode cX5_advance 23 = .ok (.goto (-16), 3) := by decide +kernel
theorem dX5_advance_26 : decode cX5_advance 26 = .ok (.iload_n 1, 1) := by decide +kernel
theorem dX5_advance_27 : decode cX5_advance 27 = .ok (.ifCond .gt 5, 3) := by decide +kernel
theorem dX5_advance_30 : decode cX5_advance 30 = .ok (.iconst 0, 1) := by decide +kernel
theorem dX5_advance_31 : decode cX5_advance 31 = .ok (.ireturn, 1) := by decide +kernel
theorem dX5_advance_32 : decode cX5_advance 32 = .ok (.aload_n 0, 1) := by decide +kernel
theorem dX5_advance_33 : decode cX5_advance 33 = .ok (.getfield 9, 3) := by decide +kernel
theorem dX5_advance_36 : decode cX5_advance 36 = .ok (.iload_n 1, 1) := by decide +kernel
theorem dX5_advance_37 : decode cX5_advance 37 = .ok (.iaload, 1) := by decide +kernel
theorem dX5_advance_38 : decode cX5_advance 38 = .ok (.iconst 1, 1) := by decide +kernel
theorem dX5_advance_39 : decode cX5_advance 39 = .ok (.isub, 1) := by decide +kernel
theorem dX5_advance_40 : decode cX5_advance 40 = .ok (.istore_n 2, 1) := by decide +kernel
theorem dX5_advance_41 : decode cX5_advance 41 = .ok (.aload_n 0, 1) := by decide +kernel
theorem dX5_advance_42 : decode cX5_advance 42 = .ok (.getfield 9, 3) := by decide +kernel
theorem dX5_advance_45 : decode cX5_advance 45 = .ok (.iload_n 1, 1) := by decide +kernel
theorem dX5_advance_46 : decode cX5_advance 46 = .ok (.iconst 0, 1) := by decide +kernel
theorem dX5_advance_47 : decode cX5_advance 47 = .ok (.iastore, 1) := by decide +kernel
theorem dX5_advance_48 : decode cX5_advance 48 = .ok (.aload_n 0, 1) := by decide +kernel
theorem dX5_advance_49 : decode cX5_advance 49 = .ok (.getfield 9, 3) := by decide +kernel
theorem dX5_advance_52 : decode cX5_advance 52 = .ok (.iload_n 1, 1) := by decide +kernel
theorem dX5_advance_53 : decode cX5_advance 53 = .ok (.iconst 1, 1) := by decide +kernel
theorem dX5_advance_54 : decode cX5_advance 54 = .ok (.isub, 1) := by decide +kernel
theorem dX5_advance_55 : decode cX5_advance 55 = .ok (.dup2, 1) := by decide +kernel
theorem dX5_advance_56 : decode cX5_advance 56 = .ok (.iaload, 1) := by decide +kernel
theorem dX5_advance_57 : decode cX5_advance 57 = .ok (.iconst 1, 1) := by decide +kernel
theorem dX5_advance_58 : decode cX5_advance 58 = .ok (.iadd, 1) := by decide +kernel
theorem dX5_advance_59 : decode cX5_advance 59 = .ok (.iastore, 1) := by decide +kernel
theorem dX5_advance_60 : decode cX5_advance 60 = .ok (.aload_n 0, 1) := by decide +kernel
theorem dX5_advance_61 : decode cX5_advance 61 = .ok (.getfield 9, 3) := by decide +kernel
theorem dX5_advance_64 : decode cX5_advance 64 = .ok (.aload_n 0, 1) := by decide +kernel
theorem dX5_advance_65 : decode cX5_advance 65 = .ok (.getfield 15, 3) := by decide +kernel
theorem dX5_advance_68 : decode cX5_advance 68 = .ok (.iconst 1, 1) := by decide +kernel
theorem dX5_advance_69 : decode cX5_advance 69 = .ok (.isub, 1) := by decide +kernel
theorem dX5_advance_70 : decode cX5_advance 70 = .ok (.iload_n 2, 1) := by decide +kernel
theorem dX5_advance_71 : decode cX5_advance 71 = .ok (.iastore, 1) := by decide +kernel
theorem dX5_advance_72 : decode cX5_advance 72 = .ok (.iconst 1, 1) := by decide +kernel
theorem dX5_advance_73 : decode cX5_advance 73 = .ok (.ireturn, 1) := by decide +kernel
set_option maxRecDepth 20000 in
theorem ggX6_init_X1_init : GoodIn wsX6_init wsX1_init := goodIn_r _ [18, 19, 2, 3, 4, 20, 21, 22, 23, 24, 36, 37, 38, 39, 40, 41] (by decide +kernel) (by decide +kernel)
set_option maxRecDepth 20000 in
theorem gX6_init_X1_init : GoodIn wsX6_init (wsX1_init) := ggX6_init_X1_init
theorem dX6_init_0 : decode cX6_init 0 = .ok (.aload_n 0, 1) := by decide +kernel
theorem dX6_init_1 : decode cX6_init 1 = .ok (.invokespecial 3, 3) := by decide +kernel
theorem dX6_init_4 : decode cX6_init 4 = .ok (.aload_n 0, 1) := by decide +kernel
theorem dX6_init_5 : decode cX6_init 5 = .ok (.bipush 6, 2) := by decide +kernel
theorem dX6_init_7 : decode cX6_init 7 = .ok (.newarray .int, 2) := by decide +kernel
theorem dX6_init_9 : decode cX6_init 9 = .ok (.putfield 11, 3) := by decide +kernel
theorem dX6_init_12 : decode cX6_init 12 = .ok (.aload_n 0, 1) := by decide +kernel
theorem dX6_init_13 : decode cX6_init 13 = .ok (.bipush 7, 2) := by decide +kernel
theorem dX6_init_15 : decode cX6_init 15 = .ok (.newarray .int, 2) := by decide +kernel
theorem dX6_init_17 : decode cX6_init 17 = .ok (.putfield 15, 3) := by decide +kernel
theorem dX6_init_20 : decode cX6_init 20 = .ok (.aload_n 0, 1) := by decide +kernel
theorem dX6_init_21 : decode cX6_init 21 = .ok (.bipush 7, 2) := by decide +kernel
theorem dX6_init_23 : decode cX6_init 23 = .ok (.newarray .int, 2) := by decide +kernel
theorem dX6_init_25 : decode cX6_init 25 = .ok (.putfield 18, 3) := by decide +kernel
theorem dX6_init_28 : decode cX6_init 28 = .ok (.aload_n 0, 1) := by decide +kernel
theorem dX6_init_29 : decode cX6_init 29 = .ok (.bipush 7, 2) := by decide +kernel
theorem dX6_init_31 : decode cX6_init 31 = .ok (.newarray .int, 2) := by decide +kernel
theorem dX6_init_33 : decode cX6_init 33 = .ok (.putfield 21, 3) := by decide +kernel
theorem dX6_init_36 : decode cX6_init 36 = .ok (.aload_n 0, 1) := by decide +kernel
theorem dX6_init_37 : decode cX6_init 37 = .ok (.bipush 8, 2) := by decide +kernel
theorem dX6_init_39 : decode cX6_init 39 = .ok (.newarray .int, 2) := by decide +kernel
theorem dX6_init_41 : decode cX6_init 41 = .ok (.putfield 24, 3) := by decide +kernel
theorem dX6_init_44 : decode cX6_init 44 = .ok (.aload_n 0, 1) := by decide +kernel
theorem dX6_init_45 : decode cX6_init 45 = .ok (.bipush 8, 2) := by decide +kernel
theorem dX6_init_47 : decode cX6_init 47 = .ok (.newarray .int, 2) := by decide +kernel
theorem dX6_init_49 : decode cX6_init 49 = .ok (.putfield 27, 3) := by decide +kernel
theorem dX6_init_52 : decode cX6_init 52 = .ok (.aload_n 0, 1) := by decide +kernel
theorem dX6_init_53 : decode cX6_init 53 = .ok (.bipush 8, 2) := by decide +kernel
theorem dX6_init_55 : decode cX6_init 55 = .ok (.newarray .int, 2) := by decide +kernel
theorem dX6_init_57 : decode cX6_init 57 = .ok (.putfield 30, 3) := by decide +kernel
theorem dX6_init_60 : decode cX6_init 60 = .ok (.aload_n 0, 1) := by decide +kernel
theorem dX6_init_61 : decode cX6_init 61 = .ok (.new 33, 3) := by decide +kernel
theorem dX6_init_64 : decode cX6_init 64 = .ok (.dup, 1) := by decide +kernel
theorem dX6_init_65 : decode cX6_init 65 = .ok (.invokespecial 35, 3) := by decide +kernel
theorem dX6_init_68 : decode cX6_init 68 = .ok (.putfield 36, 3) := by decide +kernel
theorem dX6_init_71 : decode cX6_init 71 = .ok (.return_, 1) := by decide +kernel
set_option maxRecDepth 20000 in
theorem ggX6_become_X1_become : GoodIn wsX6_become wsX1_become := goodIn_r _ [20, 21, 22, 6, 7, 8, 23, 24, 25, 26, 27, 39, 40, 41, 42, 43, 44] (by decide +kernel) (by decide +kernel)
set_option maxRecDepth 20000 in
theorem gX6_become_X1_become : GoodIn wsX6_become (wsV RX6 56 RX1 yX1_become wsX1_become) := goodIn_app (goodIn_of _ (by decide +kernel)) ggX6_become_X1_become
theorem dX6_become_0 : decode cX6_become 0 = .ok (.aload_n 0, 1) := by decide +kernel
theorem dX6_become_1 : decode cX6_become 1 = .ok (.aload_n 1, 1) := by decide +kernel
theorem dX6_become_2 : decode cX6_become 2 = .ok (.getfield 40, 3) := by decide +kernel
theorem dX6_become_5 : decode cX6_become 5 = .ok (.putfield 40, 3) := by decide +kernel
theorem dX6_become_8 : decode cX6_become 8 = .ok (.aload_n 0, 1) := by decide +kernel
theorem dX6_become_9 : decode cX6_become 9 = .ok (.aload_n 1, 1) := by decide +kernel
theorem dX6_become_10 : decode cX6_become 10 = .ok (.getfield 44, 3) := by decide +kernel
theorem dX6_become_13 : decode cX6_become 13 = .ok (.putfield 44, 3) := by decide +kernel
theorem dX6_become_16 : decode cX6_become 16 = .ok (.aload_n 0, 1) := by decide +kernel
theorem dX6_become_17 : decode cX6_become 17 = .ok (.aload_n 1, 1) := by decide +kernel
theorem dX6_become_18 : decode cX6_become 18 = .ok (.getfield 47, 3) := by decide +kernel
theorem dX6_become_21 : decode cX6_become 21 = .ok (.putfield 47, 3) := by decide +kernel
theorem dX6_become_24 : decode cX6_become 24 = .ok (.aload_n 1, 1) := by decide +kernel
theorem dX6_become_25 : decode cX6_become 25 = .ok (.getfield 11, 3) := by decide +kernel
theorem dX6_become_28 : decode cX6_become 28 = .ok (.iconst 0, 1) := by decide +kernel
theorem dX6_become_29 : decode cX6_become 29 = .ok (.aload_n 0, 1) := by decide +kernel
theorem dX6_become_30 : decode cX6_become 30 = .ok (.getfield 11, 3) := by decide +kernel
theorem dX6_become_33 : decode cX6_become 33 = .ok (.iconst 0, 1) := by decide +kernel
theorem dX6_become_34 : decode cX6_become 34 = .ok (.bipush 6, 2) := by decide +kernel
theorem dX6_become_36 : decode cX6_become 36 = .ok (.invokestatic 50, 3) := by decide +kernel
theorem dX6_become_39 : decode cX6_become 39 = .ok (.aload_n 1, 1) := by decide +kernel
theorem dX6_become_40 : decode cX6_become 40 = .ok (.getfield 15, 3) := by decide +kernel
theorem dX6_become_43 : decode cX6_become 43 = .ok (.iconst 0, 1) := by decide +kernel
theorem dX6_become_44 : decode cX6_become 44 = .ok (.aload_n 0, 1) := by decide +kernel
theorem dX6_become_45 : decode cX6_become 45 = .ok (.getfield 15, 3) := by decide +kernel
theorem dX6_become_48 : decode cX6_become 48 = .ok (.iconst 0, 1) := by decide +kernel
theorem dX6_become_49 : decode cX6_become 49 = .ok (.bipush 7, 2) := by decide +kernel
theorem dX6_become_51 : decode cX6_become 51 = .ok (.invokestatic 50, 3) := by decide +kernel
theorem dX6_become_54 : decode cX6_become 54 = .ok (.aload_n 1, 1) := by decide +kernel
theorem dX6_become_55 : decode cX6_become 55 = .ok (.getfield 18, 3) := by decide +kernel
theorem dX6_become_58 : decode cX6_become 58 = .ok (.iconst 0, 1) := by decide +kernel
theorem dX6_become_59 : decode cX6_become 59 = .ok (.aload_n 0, 1) := by decide +kernel
theorem dX6_become_60 : decode cX6_become 60 = .ok (.getfield 18, 3) := by decide +kernel
theorem dX6_become_63 : decode cX6_become 63 = .ok (.iconst 0, 1) := by decide +kernel
theorem dX6_become_64 : decode cX6_become 64 = .ok (.bipush 7, 2) := by decide +kernel
theorem dX6_become_66 : decode cX6_become 66 = .ok (.invokestatic 50, 3) := by decide +kernel
theorem dX6_become_69 : decode cX6_become 69 = .ok (.aload_n 1, 1) := by decide +kernel
theorem dX6_become_70 : decode cX6_become 70 = .ok (.getfield 21, 3) := by decide +kernel
theorem dX6_become_73 : decode cX6_become 73 = .ok (.iconst 0, 1) := by decide +kernel
theorem dX6_become_74 : decode cX6_become 74 = .ok (.aload_n 0, 1) := by decide +kernel
theorem dX6_become_75 : decode cX6_become 75 = .ok (.getfield 21, 3) := by decide +kernel
theorem dX6_become_78 : decode cX6_become 78 = .ok (.iconst 0, 1) := by decide +kernel
theorem dX6_become_79 : decode cX6_become 79 = .ok (.bipush 7, 2) := by decide +kernel
theorem dX6_become_81 : decode cX6_become 81 = .ok (.invokestatic 50, 3) := by decide +kernel
theorem dX6_become_84 : decode cX6_become 84 = .ok (.aload_n 1, 1) := by decide +kernel
theorem dX6_become_85 : decode cX6_become 85 = .ok (.getfield 24, 3) := by decide +kernel
theorem dX6_become_88 : decode cX6_become 88 = .ok (.iconst 0, 1) := by decide +kernel
theorem dX6_become_89 : decode cX6_become 89 = .ok (.aload_n 0, 1) := by decide +kernel
theorem dX6_become_90 : decode cX6_become 90 = .ok (.getfield 24, 3) := by decide +kernel
theorem dX6_become_93 : decode cX6_become 93 = .ok (.iconst 0, 1) := by decide +kernel
theorem dX6_become_94 : decode cX6_become 94 = .ok (.bipush 8, 2) := by decide +kernel
theorem dX6_become_96 : decode cX6_become 96 = .ok (.invokestatic 50, 3) := by decide +kernel
theorem dX6_become_99 : decode cX6_become 99 = .ok (.aload_n 1, 1) := by decide +kernel
theorem dX6_become_100 : decode cX6_become 100 = .ok (.getfield 27, 3) := by decide +kernel
theorem dX6_become_103 : decode cX6_become 103 = .ok (.iconst 0, 1) := by decide +kernel
theorem dX6_become_104 : decode cX6_become 104 = .ok (.aload_n 0, 1) := by decide +kernel
theorem dX6_become_105 : decode cX6_become 105 = .ok (.getfield 27, 3) := by decide +kernel
theorem dX6_become_108 : decode cX6_become 108 = .ok (.iconst 0, 1) := by decide +kernel
theorem dX6_become_109 : decode cX6_become 109 = .ok (.bipush 8, 2) := by decide +kernel
theorem dX6_become_111 : decode cX6_become 111 = .ok (.invokestatic 50, 3) := by decide +kernel
theorem dX6_become_114 : decode cX6_become 114 = .ok (.aload_n 1, 1) := by decide +kernel
theorem dX6_become_115 : decode cX6_become 115 = .ok (.getfield 30, 3) := by decide +kernel
theorem dX6_become_118 : decode cX6_become 118 = .ok (.iconst 0, 1) := by decide +kernel
theorem dX6_become_119 : decode cX6_become 119 = .ok (.aload_n 0, 1) := by decide +kernel
theorem dX6_become_120 : decode cX6_become 120 = .ok (.getfield 30, 3) := by decide +kernel
theorem dX6_become_123 : decode cX6_become 123 = .ok (.iconst 0, 1) := by decide +kernel
theorem dX6_become_124 : decode cX6_become 124 = .ok (.bipush 8, 2) := by decide +kernel
theorem dX6_become_126 : decode cX6_become 126 = .ok (.invokestatic 50, 3) := by decide +kernel
theorem dX6_become_129 : decode cX6_become 129 = .ok (.aload_n 0, 1) := by decide +kernel
theorem dX6_become_130 : decode cX6_become 130 = .ok (.getfield 36, 3) := by decide +kernel
theorem dX6_become_133 : decode cX6_become 133 = .ok (.aload_n 1, 1) := by decide +kernel
theorem dX6_become_134 : decode cX6_become 134 = .ok (.getfield 36, 3) := by decide +kernel
theorem dX6_become_137 : decode cX6_become 137 = .ok (.invokevirtual 56, 3) := by decide +kernel
theorem dX6_become_140 : decode cX6_become 140 = .ok (.return_, 1) := by decide +kernel
set_option maxRecDepth 20000 in
theorem ggX6_readFrom_X1_begin : GoodIn wsX6_readFrom wsX1_begin := goodIn_r _ [10, 11, 12, 62, 63, 64, 65, 66, 67] (by decide +kernel) (by decide +kernel)
set_option maxRecDepth 20000 in
theorem gX6_readFrom_X1_begin : GoodIn wsX6_readFrom (wsV RX6 60 RX1 yX1_begin wsX1_begin) := goodIn_app (goodIn_of _ (by decide +kernel)) ggX6_readFrom_X1_begin
set_option maxRecDepth 20000 in
theorem ggX6_readFrom_X7_pastBlanks : GoodIn wsX6_readFrom wsX7_pastBlanks := goodIn_r _ [17, 18, 19, 20, 21, 16, 22, 23, 24, 25, 26, 27, 68, 69] (by decide +kernel) (by decide +kernel)
set_option maxRecDepth 20000 in
theorem gX6_readFrom_X7_pastBlanks : GoodIn wsX6_readFrom (wsV RX6 63 RX7 yX7_pastBlanks wsX7_pastBlanks) := goodIn_app (goodIn_of _ (by decide +kernel)) ggX6_readFrom_X7_pastBlanks
set_option maxRecDepth 20000 in
theorem ggX6_readFrom_X7_sign : GoodIn wsX6_readFrom wsX7_sign := goodIn_r _ [22, 23, 24, 25, 26, 16, 27, 18, 68, 69] (by decide +kernel) (by decide +kernel)
set_option maxRecDepth 20000 in
theorem gX6_readFrom_X7_sign : GoodIn wsX6_readFrom (wsV RX6 69 RX7 yX7_sign wsX7_sign) := goodIn_app (goodIn_of _ (by decide +kernel)) ggX6_readFrom_X7_sign
set_option maxRecDepth 20000 in
theorem ggX6_readFrom_X7_isFigure : GoodIn wsX6_readFrom wsX7_isFigure := goodIn_r _ [32, 19, 20, 21, 16, 22, 23, 24, 25, 26, 27, 18, 68, 69] (by decide +kernel) (by decide +kernel)
set_option maxRecDepth 20000 in
theorem gX6_readFrom_X7_isFigure : GoodIn wsX6_readFrom (wsV RX6 72 RX7 yX7_isFigure wsX7_isFigure) := goodIn_app (goodIn_of _ (by decide +kernel)) ggX6_readFrom_X7_isFigure
set_option maxRecDepth 20000 in
theorem ggX6_readFrom_X6_measure : GoodIn wsX6_readFrom wsX6_measure := goodIn_r _ [37, 1, 38, 5, 51, 52, 53, 54, 55, 56, 57, 58, 59, 60, 61] (by decide +kernel) (by decide +kernel)
set_option maxRecDepth 20000 in
theorem gX6_readFrom_X6_measure : GoodIn wsX6_readFrom (wsV RX6 76 RX6 yX6_measure wsX6_measure) := goodIn_app (goodIn_of _ (by decide +kernel)) ggX6_readFrom_X6_measure
set_option maxRecDepth 20000 in
theorem ggX6_readFrom_X6_readPeople : GoodIn wsX6_readFrom wsX6_readPeople := goodIn_r _ [42, 43, 2, 1, 44, 45, 13, 14, 15, 16, 17, 18, 19, 20, 21, 22, 23, 24, 25, 26, 27, 28, 46, 47, 48, 49, 50, 68, 69, 51, 52, 53, 54, 55, 56, 57, 58, 59, 60, 61] (by decide +kernel) (by decide +kernel)
set_option maxRecDepth 20000 in
theorem gX6_readFrom_X6_readPeople : GoodIn wsX6_readFrom (wsV RX6 79 RX6 yX6_readPeople wsX6_readPeople) := goodIn_app (goodIn_of _ (by decide +kernel)) ggX6_readFrom_X6_readPeople
theorem dX6_readFrom_0 : decode cX6_readFrom 0 = .ok (.aload_n 0, 1) := by decide +kernel
theorem dX6_readFrom_1 : decode cX6_readFrom 1 = .ok (.iconst 0, 1) := by decide +kernel
theorem dX6_readFrom_2 : decode cX6_readFrom 2 = .ok (.putfield 40, 3) := by decide +kernel
theorem dX6_readFrom_5 : decode cX6_readFrom 5 = .ok (.aload_n 0, 1) := by decide +kernel
theorem dX6_readFrom_6 : decode cX6_readFrom 6 = .ok (.iconst 0, 1) := by decide +kernel
theorem dX6_readFrom_7 : decode cX6_readFrom 7 = .ok (.putfield 44, 3) := by decide +kernel
theorem dX6_readFrom_10 : decode cX6_readFrom 10 = .ok (.aload_n 0, 1) := by decide +kernel
theorem dX6_readFrom_11 : decode cX6_readFrom 11 = .ok (.iconst 0, 1) := by decide +kernel
theorem dX6_readFrom_12 : decode cX6_readFrom 12 = .ok (.putfield 47, 3) := by decide +kernel
theorem dX6_readFrom_15 : decode cX6_readFrom 15 = .ok (.aload_n 0, 1) := by decide +kernel
theorem dX6_readFrom_16 : decode cX6_readFrom 16 = .ok (.getfield 36, 3) := by decide +kernel
theorem dX6_readFrom_19 : decode cX6_readFrom 19 = .ok (.invokevirtual 60, 3) := by decide +kernel
theorem dX6_readFrom_22 : decode cX6_readFrom 22 = .ok (.aload_n 1, 1) := by decide +kernel
theorem dX6_readFrom_23 : decode cX6_readFrom 23 = .ok (.iconst 0, 1) := by decide +kernel
theorem dX6_readFrom_24 : decode cX6_readFrom 24 = .ok (.invokevirtual 63, 3) := by decide +kernel
theorem dX6_readFrom_27 : decode cX6_readFrom 27 = .ok (.istore_n 2, 1) := by decide +kernel
theorem dX6_readFrom_28 : decode cX6_readFrom 28 = .ok (.aload_n 1, 1) := by decide +kernel
theorem dX6_readFrom_29 : decode cX6_readFrom 29 = .ok (.iload_n 2, 1) := by decide +kernel
theorem dX6_readFrom_30 : decode cX6_readFrom 30 = .ok (.invokevirtual 69, 3) := by decide +kernel
theorem dX6_readFrom_33 : decode cX6_readFrom 33 = .ok (.bipush 112, 2) := by decide +kernel
theorem dX6_readFrom_35 : decode cX6_readFrom 35 = .ok (.if_icmp .eq 5, 3) := by decide +kernel
theorem dX6_readFrom_38 : decode cX6_readFrom 38 = .ok (.iload_n 2, 1) := by decide +kernel
theorem dX6_readFrom_39 : decode cX6_readFrom 39 = .ok (.ireturn, 1) := by decide +kernel
theorem dX6_readFrom_40 : decode cX6_readFrom 40 = .ok (.iinc 2 1, 3) := by decide +kernel
theorem dX6_readFrom_43 : decode cX6_readFrom 43 = .ok (.aload_n 0, 1) := by decide +kernel
theorem dX6_readFrom_44 : decode cX6_readFrom 44 = .ok (.getfield 40, 3) := by decide +kernel
theorem dX6_readFrom_47 : decode cX6_readFrom 47 = .ok (.bipush 6, 2) := by decide +kernel
theorem dX6_readFrom_49 : decode cX6_readFrom 49 = .ok (.if_icmp .ge 44, 3) := by decide +kernel
theorem dX6_readFrom_52 : decode cX6_readFrom 52 = .ok (.aload_n 1, 1) := by decide +kernel
theorem dX6_readFrom_53 : decode cX6_readFrom 53 = .ok (.iload_n 2, 1) := by decide +kernel
theorem dX6_readFrom_54 : decode cX6_readFrom 54 = .ok (.invokevirtual 72, 3) := by decide +kernel
theorem dX6_readFrom_57 : decode cX6_readFrom 57 = .ok (.ifCond .eq 36, 3) := by decide +kernel
theorem dX6_readFrom_60 : decode cX6_readFrom 60 = .ok (.aload_n 0, 1) := by decide +kernel
theorem dX6_readFrom_61 : decode cX6_readFrom 61 = .ok (.getfield 11, 3) := by decide +kernel
theorem dX6_readFrom_64 : decode cX6_readFrom 64 = .ok (.aload_n 0, 1) := by decide +kernel
theorem dX6_readFrom_65 : decode cX6_readFrom 65 = .ok (.getfield 40, 3) := by decide +kernel
theorem dX6_readFrom_68 : decode cX6_readFrom 68 = .ok (.aload_n 1, 1) := by decide +kernel
theorem dX6_readFrom_69 : decode cX6_readFrom 69 = .ok (.iload_n 2, 1) := by decide +kernel
theorem dX6_readFrom_70 : decode cX6_readFrom 70 = .ok (.invokevirtual 69, 3) := by decide +kernel
theorem dX6_readFrom_73 : decode cX6_readFrom 73 = .ok (.bipush 48, 2) := by decide +kernel
theorem dX6_readFrom_75 : decode cX6_readFrom 75 = .ok (.isub, 1) := by decide +kernel
theorem dX6_readFrom_76 : decode cX6_readFrom 76 = .ok (.iastore, 1) := by decide +kernel
theorem dX6_readFrom_77 : decode cX6_readFrom 77 = .ok (.aload_n 0, 1) := by decide +kernel
theorem dX6_readFrom_78 : decode cX6_readFrom 78 = .ok (.dup, 1) := by decide +kernel
theorem dX6_readFrom_79 : decode cX6_readFrom 79 = .ok (.getfield 40, 3) := by decide +kernel
theorem dX6_readFrom_82 : decode cX6_readFrom 82 = .ok (.iconst 1, 1) := by decide +kernel
theorem dX6_readFrom_83 : decode cX6_readFrom 83 = .ok (.iadd, 1) := by decide +kernel
theorem dX6_readFrom_84 : decode cX6_readFrom 84 = .ok (.putfield 40, 3) := by decide +kernel
theorem dX6_readFrom_87 : decode cX6_readFrom 87 = .ok (.iinc 2 1, 3) := by decide +kernel
theorem dX6_readFrom_90 : decode cX6_readFrom 90 = .ok (.goto (-47), 3) := by decide +kernel
theorem dX6_readFrom_93 : decode cX6_readFrom 93 = .ok (.aload_n 0, 1) := by decide +kernel
theorem dX6_readFrom_94 : decode cX6_readFrom 94 = .ok (.invokevirtual 76, 3) := by decide +kernel
theorem dX6_readFrom_97 : decode cX6_readFrom 97 = .ok (.aload_n 0, 1) := by decide +kernel
theorem dX6_readFrom_98 : decode cX6_readFrom 98 = .ok (.getfield 40, 3) := by decide +kernel
theorem dX6_readFrom_101 : decode cX6_readFrom 101 = .ok (.ifCond .ne 7, 3) := by decide +kernel
theorem dX6_readFrom_104 : decode cX6_readFrom 104 = .ok (.iload_n 2, 1) := by decide +kernel
theorem dX6_readFrom_105 : decode cX6_readFrom 105 = .ok (.goto 9, 3) := by decide +kernel
theorem dX6_readFrom_108 : decode cX6_readFrom 108 = .ok (.aload_n 0, 1) := by decide +kernel
theorem dX6_readFrom_109 : decode cX6_readFrom 109 = .ok (.aload_n 1, 1) := by decide +kernel
theorem dX6_readFrom_110 : decode cX6_readFrom 110 = .ok (.iload_n 2, 1) := by decide +kernel
theorem dX6_readFrom_111 : decode cX6_readFrom 111 = .ok (.invokevirtual 79, 3) := by decide +kernel
theorem dX6_readFrom_114 : decode cX6_readFrom 114 = .ok (.ireturn, 1) := by decide +kernel
set_option maxRecDepth 20000 in
theorem ggX6_readPeople_X7_pastBlanks : GoodIn wsX6_readPeople wsX7_pastBlanks := goodIn_r _ [10, 11, 12, 13, 14, 9, 15, 16, 17, 18, 19, 20, 27, 28] (by decide +kernel) (by decide +kernel)
set_option maxRecDepth 20000 in
theorem gX6_readPeople_X7_pastBlanks : GoodIn wsX6_readPeople (wsV RX6 63 RX7 yX7_pastBlanks wsX7_pastBlanks) := goodIn_app (goodIn_of _ (by decide +kernel)) ggX6_readPeople_X7_pastBlanks
set_option maxRecDepth 20000 in
theorem ggX6_readPeople_X7_sign : GoodIn wsX6_readPeople wsX7_sign := goodIn_r _ [15, 16, 17, 18, 19, 9, 20, 11, 27, 28] (by decide +kernel) (by decide +kernel)
set_option maxRecDepth 20000 in
theorem gX6_readPeople_X7_sign : GoodIn wsX6_readPeople (wsV RX6 69 RX7 yX7_sign wsX7_sign) := goodIn_app (goodIn_of _ (by decide +kernel)) ggX6_readPeople_X7_sign
set_option maxRecDepth 20000 in
theorem ggX6_readPeople_X2_byLetter : GoodIn wsX6_readPeople wsX2_byLetter := goodIn_r _ [25, 26] (by decide +kernel) (by decide +kernel)
set_option maxRecDepth 20000 in
theorem gX6_readPeople_X2_byLetter : GoodIn wsX6_readPeople (va_wsS RX6 86 yX2_byLetter wsX2_byLetter) := goodIn_app (goodIn_of _ (by decide +kernel)) ggX6_readPeople_X2_byLetter
theorem dX6_readPeople_0 : decode cX6_readPeople 0 = .ok (.aload_n 1, 1) := by decide +kernel
theorem dX6_readPeople_1 : decode cX6_readPeople 1 = .ok (.iload_n 2, 1) := by decide +kernel
theorem dX6_readPeople_2 : decode cX6_readPeople 2 = .ok (.invokevirtual 63, 3) := by decide +kernel
theorem dX6_readPeople_5 : decode cX6_readPeople 5 = .ok (.istore_n 3, 1) := by decide +kernel
theorem dX6_readPeople_6 : decode cX6_readPeople 6 = .ok (.iload_n 3, 1) := by decide +kernel
theorem dX6_readPeople_7 : decode cX6_readPeople 7 = .ok (.aload_n 1, 1) := by decide +kernel
theorem dX6_readPeople_8 : decode cX6_readPeople 8 = .ok (.getfield 83, 3) := by decide +kernel
theorem dX6_readPeople_11 : decode cX6_readPeople 11 = .ok (.if_icmp .ge 104, 3) := by decide +kernel
theorem dX6_readPeople_14 : decode cX6_readPeople 14 = .ok (.aload_n 0, 1) := by decide +kernel
theorem dX6_readPeople_15 : decode cX6_readPeople 15 = .ok (.getfield 44, 3) := by decide +kernel
theorem dX6_readPeople_18 : decode cX6_readPeople 18 = .ok (.bipush 7, 2) := by decide +kernel
theorem dX6_readPeople_20 : decode cX6_readPeople 20 = .ok (.if_icmp .ge 95, 3) := by decide +kernel
theorem dX6_readPeople_23 : decode cX6_readPeople 23 = .ok (.aload_n 1, 1) := by decide +kernel
theorem dX6_readPeople_24 : decode cX6_readPeople 24 = .ok (.iload_n 3, 1) := by decide +kernel
theorem dX6_readPeople_25 : decode cX6_readPeople 25 = .ok (.invokevirtual 69, 3) := by decide +kernel
theorem dX6_readPeople_28 : decode cX6_readPeople 28 = .ok (.invokestatic 86, 3) := by decide +kernel
theorem dX6_readPeople_31 : decode cX6_readPeople 31 = .ok (.istore 4, 2) := by decide +kernel
theorem dX6_readPeople_33 : decode cX6_readPeople 33 = .ok (.iload 4, 2) := by decide +kernel
theorem dX6_readPeople_35 : decode cX6_readPeople 35 = .ok (.bipush (-9), 2) := by decide +kernel
theorem dX6_readPeople_37 : decode cX6_readPeople 37 = .ok (.if_icmp .ne 5, 3) := by decide +kernel
theorem dX6_readPeople_40 : decode cX6_readPeople 40 = .ok (.iload_n 3, 1) := by decide +kernel
theorem dX6_readPeople_41 : decode cX6_readPeople 41 = .ok (.ireturn, 1) := by decide +kernel
theorem dX6_readPeople_42 : decode cX6_readPeople 42 = .ok (.aload_n 1, 1) := by decide +kernel
theorem dX6_readPeople_43 : decode cX6_readPeople 43 = .ok (.iload_n 3, 1) := by decide +kernel
theorem dX6_readPeople_44 : decode cX6_readPeople 44 = .ok (.iconst 1, 1) := by decide +kernel
theorem dX6_readPeople_45 : decode cX6_readPeople 45 = .ok (.iadd, 1) := by decide +kernel
theorem dX6_readPeople_46 : decode cX6_readPeople 46 = .ok (.invokevirtual 69, 3) := by decide +kernel
theorem dX6_readPeople_49 : decode cX6_readPeople 49 = .ok (.bipush 48, 2) := by decide +kernel
theorem dX6_readPeople_51 : decode cX6_readPeople 51 = .ok (.isub, 1) := by decide +kernel
theorem dX6_readPeople_52 : decode cX6_readPeople 52 = .ok (.istore 5, 2) := by decide +kernel
theorem dX6_readPeople_54 : decode cX6_readPeople 54 = .ok (.iload 5, 2) := by decide +kernel
theorem dX6_readPeople_56 : decode cX6_readPeople 56 = .ok (.ifCond .lt 12, 3) := by decide +kernel
theorem dX6_readPeople_59 : decode cX6_readPeople 59 = .ok (.iload 5, 2) := by decide +kernel
theorem dX6_readPeople_61 : decode cX6_readPeople 61 = .ok (.aload_n 0, 1) := by decide +kernel
theorem dX6_readPeople_62 : decode cX6_readPeople 62 = .ok (.getfield 40, 3) := by decide +kernel
theorem dX6_readPeople_65 : decode cX6_readPeople 65 = .ok (.if_icmp .le 7, 3) := by decide +kernel
theorem dX6_readPeople_68 : decode cX6_readPeople 68 = .ok (.iload_n 3, 1) := by decide +kernel
theorem dX6_readPeople_69 : decode cX6_readPeople 69 = .ok (.iconst 1, 1) := by decide +kernel
theorem dX6_readPeople_70 : decode cX6_readPeople 70 = .ok (.iadd, 1) := by decide +kernel
theorem dX6_readPeople_71 : decode cX6_readPeople 71 = .ok (.ireturn, 1) := by decide +kernel
theorem dX6_readPeople_72 : decode cX6_readPeople 72 = .ok (.aload_n 0, 1) := by decide +kernel
theorem dX6_readPeople_73 : decode cX6_readPeople 73 = .ok (.getfield 18, 3) := by decide +kernel
theorem dX6_readPeople_76 : decode cX6_readPeople 76 = .ok (.aload_n 0, 1) := by decide +kernel
theorem dX6_readPeople_77 : decode cX6_readPeople 77 = .ok (.getfield 44, 3) := by decide +kernel
theorem dX6_readPeople_80 : decode cX6_readPeople 80 = .ok (.iload 4, 2) := by decide +kernel
theorem dX6_readPeople_82 : decode cX6_readPeople 82 = .ok (.iastore, 1) := by decide +kernel
theorem dX6_readPeople_83 : decode cX6_readPeople 83 = .ok (.aload_n 0, 1) := by decide +kernel
theorem dX6_readPeople_84 : decode cX6_readPeople 84 = .ok (.getfield 21, 3) := by decide +kernel
theorem dX6_readPeople_87 : decode cX6_readPeople 87 = .ok (.aload_n 0, 1) := by decide +kernel
theorem dX6_readPeople_88 : decode cX6_readPeople 88 = .ok (.getfield 44, 3) := by decide +kernel
theorem dX6_readPeople_91 : decode cX6_readPeople 91 = .ok (.iload 5, 2) := by decide +kernel
theorem dX6_readPeople_93 : decode cX6_readPeople 93 = .ok (.iastore, 1) := by decide +kernel
theorem dX6_readPeople_94 : decode cX6_readPeople 94 = .ok (.aload_n 0, 1) := by decide +kernel
theorem dX6_readPeople_95 : decode cX6_readPeople 95 = .ok (.dup, 1) := by decide +kernel
theorem dX6_readPeople_96 : decode cX6_readPeople 96 = .ok (.getfield 44, 3) := by decide +kernel
theorem dX6_readPeople_99 : decode cX6_readPeople 99 = .ok (.iconst 1, 1) := by decide +kernel
theorem dX6_readPeople_100 : decode cX6_readPeople 100 = .ok (.iadd, 1) := by decide +kernel
theorem dX6_readPeople_101 : decode cX6_readPeople 101 = .ok (.putfield 44, 3) := by decide +kernel
theorem dX6_readPeople_104 : decode cX6_readPeople 104 = .ok (.aload_n 1, 1) := by decide +kernel
theorem dX6_readPeople_105 : decode cX6_readPeople 105 = .ok (.iload_n 3, 1) := by decide +kernel
theorem dX6_readPeople_106 : decode cX6_readPeople 106 = .ok (.iconst 2, 1) := by decide +kernel
theorem dX6_readPeople_107 : decode cX6_readPeople 107 = .ok (.iadd, 1) := by decide +kernel
theorem dX6_readPeople_108 : decode cX6_readPeople 108 = .ok (.invokevirtual 63, 3) := by decide +kernel
theorem dX6_readPeople_111 : decode cX6_readPeople 111 = .ok (.istore_n 3, 1) := by decide +kernel
theorem dX6_readPeople_112 : decode cX6_readPeople 112 = .ok (.goto (-106), 3) := by decide +kernel
theorem dX6_readPeople_115 : decode cX6_readPeople 115 = .ok (.iload_n 3, 1) := by decide +kernel
theorem dX6_readPeople_116 : decode cX6_readPeople 116 = .ok (.aload_n 1, 1) := by decide +kernel
theorem dX6_readPeople_117 : decode cX6_readPeople 117 = .ok (.getfield 83, 3) := by decide +kernel
theorem dX6_readPeople_120 : decode cX6_readPeople 120 = .ok (.if_icmp .ge 7, 3) := by decide +kernel
theorem dX6_readPeople_123 : decode cX6_readPeople 123 = .ok (.iload_n 3, 1) := by decide +kernel
theorem dX6_readPeople_124 : decode cX6_readPeople 124 = .ok (.goto 5, 3) := by decide +kernel
theorem dX6_readPeople_127 : decode cX6_readPeople 127 = .ok (.bipush (-9), 2) := by decide +kernel
theorem dX6_readPeople_129 : decode cX6_readPeople 129 = .ok (.ireturn, 1) := by decide +kernel
theorem dX6_measure_0 : decode cX6_measure 0 = .ok (.iconst 0, 1) := by decide +kernel
theorem dX6_measure_1 : decode cX6_measure 1 = .ok (.istore_n 1, 1) := by decide +kernel
theorem dX6_measure_2 : decode cX6_measure 2 = .ok (.iload_n 1, 1) := by decide +kernel
theorem dX6_measure_3 : decode cX6_measure 3 = .ok (.aload_n 0, 1) := by decide +kernel
theorem dX6_measure_4 : decode cX6_measure 4 = .ok (.getfield 40, 3) := by decide +kernel
theorem dX6_measure_7 : decode cX6_measure 7 = .ok (.if_icmp .ge 30, 3) := by decide +kernel
theorem dX6_measure_10 : decode cX6_measure 10 = .ok (.aload_n 0, 1) := by decide +kernel
theorem dX6_measure_11 : decode cX6_measure 11 = .ok (.getfield 15, 3) := by decide +kernel
theorem dX6_measure_14 : decode cX6_measure 14 = .ok (.iload_n 1, 1) := by decide +kernel
theorem dX6_measure_15 : decode cX6_measure 15 = .ok (.iconst 1, 1) := by decide +kernel
theorem dX6_measure_16 : decode cX6_measure 16 = .ok (.iadd, 1) := by decide +kernel
theorem dX6_measure_17 : decode cX6_measure 17 = .ok (.aload_n 0, 1) := by decide +kernel
theorem dX6_measure_18 : decode cX6_measure 18 = .ok (.getfield 15, 3) := by decide +kernel
theorem dX6_measure_21 : decode cX6_measure 21 = .ok (.iload_n 1, 1) := by decide +kernel
theorem dX6_measure_22 : decode cX6_measure 22 = .ok (.iaload, 1) := by decide +kernel
theorem dX6_measure_23 : decode cX6_measure 23 = .ok (.aload_n 0, 1) := by decide +kernel
theorem dX6_measure_24 : decode cX6_measure 24 = .ok (.getfield 11, 3) := by decide +kernel
theorem dX6_measure_27 : decode cX6_measure 27 = .ok (.iload_n 1, 1) := by decide +kernel
theorem dX6_measure_28 : decode cX6_measure 28 = .ok (.iaload, 1) := by decide +kernel
theorem dX6_measure_29 : decode cX6_measure 29 = .ok (.iadd, 1) := by decide +kernel
theorem dX6_measure_30 : decode cX6_measure 30 = .ok (.iastore, 1) := by decide +kernel
theorem dX6_measure_31 : decode cX6_measure 31 = .ok (.iinc 1 1, 3) := by decide +kernel
theorem dX6_measure_34 : decode cX6_measure 34 = .ok (.goto (-32), 3) := by decide +kernel
theorem dX6_measure_37 : decode cX6_measure 37 = .ok (.return_, 1) := by decide +kernel
theorem dX6_everyone_0 : decode cX6_everyone 0 = .ok (.iconst 1, 1) := by decide +kernel
theorem dX6_everyone_1 : decode cX6_everyone 1 = .ok (.aload_n 0, 1) := by decide +kernel
theorem dX6_everyone_2 : decode cX6_everyone 2 = .ok (.getfield 44, 3) := by decide +kernel
theorem dX6_everyone_5 : decode cX6_everyone 5 = .ok (.ishl, 1) := by decide +kernel
theorem dX6_everyone_6 : decode cX6_everyone 6 = .ok (.iconst 1, 1) := by decide +kernel
theorem dX6_everyone_7 : decode cX6_everyone 7 = .ok (.isub, 1) := by decide +kernel
theorem dX6_everyone_8 : decode cX6_everyone 8 = .ok (.ireturn, 1) := by decide +kernel
theorem dX6_everyTalk_0 : decode cX6_everyTalk 0 = .ok (.iconst 1, 1) := by decide +kernel
theorem dX6_everyTalk_1 : decode cX6_everyTalk 1 = .ok (.aload_n 0, 1) := by decide +kernel
theorem dX6_everyTalk_2 : decode cX6_everyTalk 2 = .ok (.getfield 47, 3) := by decide +kernel
theorem dX6_everyTalk_5 : decode cX6_everyTalk 5 = .ok (.ishl, 1) := by decide +kernel
theorem dX6_everyTalk_6 : decode cX6_everyTalk 6 = .ok (.iconst 1, 1) := by decide +kernel
theorem dX6_everyTalk_7 : decode cX6_everyTalk 7 = .ok (.isub, 1) := by decide +kernel
theorem dX6_everyTalk_8 : decode cX6_everyTalk 8 = .ok (.ireturn, 1) := by decide +kernel
set_option maxRecDepth 20000 in
theorem ggX6_howManyOf_X2_isOf : GoodIn wsX6_howManyOf wsX2_isOf := goodIn_r _ [6, 7] (by decide +kernel) (by decide +kernel)
set_option maxRecDepth 20000 in
theorem gX6_howManyOf_X2_isOf : GoodIn wsX6_howManyOf (va_wsS RX6 100 yX2_isOf wsX2_isOf) := goodIn_app (goodIn_of _ (by decide +kernel)) ggX6_howManyOf_X2_isOf
theorem dX6_howManyOf_0 : decode cX6_howManyOf 0 = .ok (.iconst 0, 1) := by decide +kernel
theorem dX6_howManyOf_1 : decode cX6_howManyOf 1 = .ok (.istore_n 2, 1) := by decide +kernel
theorem dX6_howManyOf_2 : decode cX6_howManyOf 2 = .ok (.iconst 0, 1) := by decide +kernel
theorem dX6_howManyOf_3 : decode cX6_howManyOf 3 = .ok (.istore_n 3, 1) := by decide +kernel
theorem dX6_howManyOf_4 : decode cX6_howManyOf 4 = .ok (.iload_n 3, 1) := by decide +kernel
theorem dX6_howManyOf_5 : decode cX6_howManyOf 5 = .ok (.aload_n 0, 1) := by decide +kernel
theorem dX6_howManyOf_6 : decode cX6_howManyOf 6 = .ok (.getfield 44, 3) := by decide +kernel
theorem dX6_howManyOf_9 : decode cX6_howManyOf 9 = .ok (.if_icmp .ge 30, 3) := by decide +kernel
theorem dX6_howManyOf_12 : decode cX6_howManyOf 12 = .ok (.iload_n 2, 1) := by decide +kernel
theorem dX6_howManyOf_13 : decode cX6_howManyOf 13 = .ok (.aload_n 0, 1) := by decide +kernel
theorem dX6_howManyOf_14 : decode cX6_howManyOf 14 = .ok (.getfield 18, 3) := by decide +kernel
theorem dX6_howManyOf_17 : decode cX6_howManyOf 17 = .ok (.iload_n 3, 1) := by decide +kernel
theorem dX6_howManyOf_18 : decode cX6_howManyOf 18 = .ok (.iaload, 1) := by decide +kernel
theorem dX6_howManyOf_19 : decode cX6_howManyOf 19 = .ok (.iload_n 1, 1) := by decide +kernel
theorem dX6_howManyOf_20 : decode cX6_howManyOf 20 = .ok (.invokestatic 100, 3) := by decide +kernel
theorem dX6_howManyOf_23 : decode cX6_howManyOf 23 = .ok (.ifCond .eq 7, 3) := by decide +kernel
theorem dX6_howManyOf_26 : decode cX6_howManyOf 26 = .ok (.iconst 1, 1) := by decide +kernel
theorem dX6_howManyOf_27 : decode cX6_howManyOf 27 = .ok (.goto 4, 3) := by decide +kernel
theorem dX6_howManyOf_30 : decode cX6_howManyOf 30 = .ok (.iconst 0, 1) := by decide +kernel
theorem dX6_howManyOf_31 : decode cX6_howManyOf 31 = .ok (.iadd, 1) := by decide +kernel
theorem dX6_howManyOf_32 : decode cX6_howManyOf 32 = .ok (.istore_n 2, 1) := by decide +kernel
theorem dX6_howManyOf_33 : decode cX6_howManyOf 33 = .ok (.iinc 3 1, 3) := by decide +kernel
theorem dX6_howManyOf_36 : decode cX6_howManyOf 36 = .ok (.goto (-32), 3) := by decide +kernel
theorem dX6_howManyOf_39 : decode cX6_howManyOf 39 = .ok (.iload_n 2, 1) := by decide +kernel
theorem dX6_howManyOf_40 : decode cX6_howManyOf 40 = .ok (.ireturn, 1) := by decide +kernel
theorem dX6_comesTo_0 : decode cX6_comesTo 0 = .ok (.getstatic 91, 3) := by decide +kernel
theorem dX6_comesTo_3 : decode cX6_comesTo 3 = .ok (.aload_n 0, 1) := by decide +kernel
theorem dX6_comesTo_4 : decode cX6_comesTo 4 = .ok (.getfield 18, 3) := by decide +kernel
theorem dX6_comesTo_7 : decode cX6_comesTo 7 = .ok (.iload_n 2, 1) := by decide +kernel
theorem dX6_comesTo_8 : decode cX6_comesTo 8 = .ok (.iaload, 1) := by decide +kernel
theorem dX6_comesTo_9 : decode cX6_comesTo 9 = .ok (.iaload, 1) := by decide +kernel
theorem dX6_comesTo_10 : decode cX6_comesTo 10 = .ok (.aload_n 0, 1) := by decide +kernel
theorem dX6_comesTo_11 : decode cX6_comesTo 11 = .ok (.getfield 15, 3) := by decide +kernel
theorem dX6_comesTo_14 : decode cX6_comesTo 14 = .ok (.iload_n 1, 1) := by decide +kernel
theorem dX6_comesTo_15 : decode cX6_comesTo 15 = .ok (.iaload, 1) := by decide +kernel
theorem dX6_comesTo_16 : decode cX6_comesTo 16 = .ok (.aload_n 0, 1) := by decide +kernel
theorem dX6_comesTo_17 : decode cX6_comesTo 17 = .ok (.getfield 15, 3) := by decide +kernel
theorem dX6_comesTo_20 : decode cX6_comesTo 20 = .ok (.aload_n 0, 1) := by decide +kernel
theorem dX6_comesTo_21 : decode cX6_comesTo 21 = .ok (.getfield 21, 3) := by decide +kernel
theorem dX6_comesTo_24 : decode cX6_comesTo 24 = .ok (.iload_n 2, 1) := by decide +kernel
theorem dX6_comesTo_25 : decode cX6_comesTo 25 = .ok (.iaload, 1) := by decide +kernel
theorem dX6_comesTo_26 : decode cX6_comesTo 26 = .ok (.iaload, 1) := by decide +kernel
theorem dX6_comesTo_27 : decode cX6_comesTo 27 = .ok (.isub, 1) := by decide +kernel
theorem dX6_comesTo_28 : decode cX6_comesTo 28 = .ok (.invokestatic 104, 3) := by decide +kernel
theorem dX6_comesTo_31 : decode cX6_comesTo 31 = .ok (.isub, 1) := by decide +kernel
theorem dX6_comesTo_32 : decode cX6_comesTo 32 = .ok (.ireturn, 1) := by decide +kernel
theorem dX6_loudestIn_0 : decode cX6_loudestIn 0 = .ok (.iconst 0, 1) := by decide +kernel
theorem dX6_loudestIn_1 : decode cX6_loudestIn 1 = .ok (.istore 4, 2) := by decide +kernel
theorem dX6_loudestIn_3 : decode cX6_loudestIn 3 = .ok (.iconst 0, 1) := by decide +kernel
theorem dX6_loudestIn_4 : decode cX6_loudestIn 4 = .ok (.istore 5, 2) := by decide +kernel
theorem dX6_loudestIn_6 : decode cX6_loudestIn 6 = .ok (.iload 5, 2) := by decide +kernel
theorem dX6_loudestIn_8 : decode cX6_loudestIn 8 = .ok (.aload_n 0, 1) := by decide +kernel
theorem dX6_loudestIn_9 : decode cX6_loudestIn 9 = .ok (.getfield 44, 3) := by decide +kernel
theorem dX6_loudestIn_12 : decode cX6_loudestIn 12 = .ok (.if_icmp .ge 68, 3) := by decide +kernel
theorem dX6_loudestIn_15 : decode cX6_loudestIn 15 = .ok (.iload_n 2, 1) := by decide +kernel
theorem dX6_loudestIn_16 : decode cX6_loudestIn 16 = .ok (.iload 5, 2) := by decide +kernel
theorem dX6_loudestIn_18 : decode cX6_loudestIn 18 = .ok (.ishr, 1) := by decide +kernel
theorem dX6_loudestIn_19 : decode cX6_loudestIn 19 = .ok (.ifCond .eq 61, 3) := by decide +kernel
theorem dX6_loudestIn_22 : decode cX6_loudestIn 22 = .ok (.iload_n 2, 1) := by decide +kernel
theorem dX6_loudestIn_23 : decode cX6_loudestIn 23 = .ok (.iload 5, 2) := by decide +kernel
theorem dX6_loudestIn_25 : decode cX6_loudestIn 25 = .ok (.ishr, 1) := by decide +kernel
theorem dX6_loudestIn_26 : decode cX6_loudestIn 26 = .ok (.iconst 1, 1) := by decide +kernel
theorem dX6_loudestIn_27 : decode cX6_loudestIn 27 = .ok (.iand, 1) := by decide +kernel
theorem dX6_loudestIn_28 : decode cX6_loudestIn 28 = .ok (.ifCond .eq 46, 3) := by decide +kernel
theorem dX6_loudestIn_31 : decode cX6_loudestIn 31 = .ok (.aload_n 3, 1) := by decide +kernel
theorem dX6_loudestIn_32 : decode cX6_loudestIn 32 = .ok (.aload_n 0, 1) := by decide +kernel
theorem dX6_loudestIn_33 : decode cX6_loudestIn 33 = .ok (.getfield 18, 3) := by decide +kernel
theorem dX6_loudestIn_36 : decode cX6_loudestIn 36 = .ok (.iload 5, 2) := by decide +kernel
theorem dX6_loudestIn_38 : decode cX6_loudestIn 38 = .ok (.iaload, 1) := by decide +kernel
theorem dX6_loudestIn_39 : decode cX6_loudestIn 39 = .ok (.iaload, 1) := by decide +kernel
theorem dX6_loudestIn_40 : decode cX6_loudestIn 40 = .ok (.aload_n 0, 1) := by decide +kernel
theorem dX6_loudestIn_41 : decode cX6_loudestIn 41 = .ok (.getfield 15, 3) := by decide +kernel
theorem dX6_loudestIn_44 : decode cX6_loudestIn 44 = .ok (.iload_n 1, 1) := by decide +kernel
theorem dX6_loudestIn_45 : decode cX6_loudestIn 45 = .ok (.iaload, 1) := by decide +kernel
theorem dX6_loudestIn_46 : decode cX6_loudestIn 46 = .ok (.aload_n 0, 1) := by decide +kernel
theorem dX6_loudestIn_47 : decode cX6_loudestIn 47 = .ok (.getfield 15, 3) := by decide +kernel
theorem dX6_loudestIn_50 : decode cX6_loudestIn 50 = .ok (.aload_n 0, 1) := by decide +kernel
theorem dX6_loudestIn_51 : decode cX6_loudestIn 51 = .ok (.getfield 21, 3) := by decide +kernel
theorem dX6_loudestIn_54 : decode cX6_loudestIn 54 = .ok (.iload 5, 2) := by decide +kernel
theorem dX6_loudestIn_56 : decode cX6_loudestIn 56 = .ok (.iaload, 1) := by decide +kernel
theorem dX6_loudestIn_57 : decode cX6_loudestIn 57 = .ok (.iaload, 1) := by decide +kernel
theorem dX6_loudestIn_58 : decode cX6_loudestIn 58 = .ok (.isub, 1) := by decide +kernel
theorem dX6_loudestIn_59 : decode cX6_loudestIn 59 = .ok (.invokestatic 104, 3) := by decide +kernel
theorem dX6_loudestIn_62 : decode cX6_loudestIn 62 = .ok (.isub, 1) := by decide +kernel
theorem dX6_loudestIn_63 : decode cX6_loudestIn 63 = .ok (.istore 6, 2) := by decide +kernel
theorem dX6_loudestIn_65 : decode cX6_loudestIn 65 = .ok (.iload 4, 2) := by decide +kernel
theorem dX6_loudestIn_67 : decode cX6_loudestIn 67 = .ok (.iload 6, 2) := by decide +kernel
theorem dX6_loudestIn_69 : decode cX6_loudestIn 69 = .ok (.invokestatic 113, 3) := by decide +kernel
theorem dX6_loudestIn_72 : decode cX6_loudestIn 72 = .ok (.istore 4, 2) := by decide +kernel
theorem dX6_loudestIn_74 : decode cX6_loudestIn 74 = .ok (.iinc 5 1, 3) := by decide +kernel
theorem dX6_loudestIn_77 : decode cX6_loudestIn 77 = .ok (.goto (-71), 3) := by decide +kernel
theorem dX6_loudestIn_80 : decode cX6_loudestIn 80 = .ok (.iload 4, 2) := by decide +kernel
theorem dX6_loudestIn_82 : decode cX6_loudestIn 82 = .ok (.ireturn, 1) := by decide +kernel
set_option maxRecDepth 20000 in
theorem ggX6_isHeardBy_X6_comesTo : GoodIn wsX6_isHeardBy wsX6_comesTo := goodIn_r _ [7, 8, 1, 9, 2, 10, 11, 12, 13, 19, 20, 21, 22, 23, 24, 25, 26, 27, 28, 29] (by decide +kernel) (by decide +kernel)
set_option maxRecDepth 20000 in
theorem gX6_isHeardBy_X6_comesTo : GoodIn wsX6_isHeardBy (wsV RX6 117 RX6 yX6_comesTo wsX6_comesTo) := goodIn_app (goodIn_of _ (by decide +kernel)) ggX6_isHeardBy_X6_comesTo
set_option maxRecDepth 20000 in
theorem ggX6_isHeardBy_X2_isEnough : GoodIn wsX6_isHeardBy wsX2_isEnough := goodIn_r _ [17, 18] (by decide +kernel) (by decide +kernel)
set_option maxRecDepth 20000 in
theorem gX6_isHeardBy_X2_isEnough : GoodIn wsX6_isHeardBy (va_wsS RX6 120 yX2_isEnough wsX2_isEnough) := goodIn_app (goodIn_of _ (by decide +kernel)) ggX6_isHeardBy_X2_isEnough
theorem dX6_isHeardBy_0 : decode cX6_isHeardBy 0 = .ok (.aload_n 0, 1) := by decide +kernel
theorem dX6_isHeardBy_1 : decode cX6_isHeardBy 1 = .ok (.getfield 18, 3) := by decide +kernel
theorem dX6_isHeardBy_4 : decode cX6_isHeardBy 4 = .ok (.iload_n 1, 1) := by decide +kernel
theorem dX6_isHeardBy_5 : decode cX6_isHeardBy 5 = .ok (.iaload, 1) := by decide +kernel
theorem dX6_isHeardBy_6 : decode cX6_isHeardBy 6 = .ok (.aload_n 0, 1) := by decide +kernel
theorem dX6_isHeardBy_7 : decode cX6_isHeardBy 7 = .ok (.aload_n 0, 1) := by decide +kernel
theorem dX6_isHeardBy_8 : decode cX6_isHeardBy 8 = .ok (.getfield 21, 3) := by decide +kernel
theorem dX6_isHeardBy_11 : decode cX6_isHeardBy 11 = .ok (.iload_n 1, 1) := by decide +kernel
theorem dX6_isHeardBy_12 : decode cX6_isHeardBy 12 = .ok (.iaload, 1) := by decide +kernel
theorem dX6_isHeardBy_13 : decode cX6_isHeardBy 13 = .ok (.iload_n 2, 1) := by decide +kernel
theorem dX6_isHeardBy_14 : decode cX6_isHeardBy 14 = .ok (.invokevirtual 117, 3) := by decide +kernel
theorem dX6_isHeardBy_17 : decode cX6_isHeardBy 17 = .ok (.iconst 0, 1) := by decide +kernel
theorem dX6_isHeardBy_18 : decode cX6_isHeardBy 18 = .ok (.invokestatic 120, 3) := by decide +kernel
theorem dX6_isHeardBy_21 : decode cX6_isHeardBy 21 = .ok (.ireturn, 1) := by decide +kernel
set_option maxRecDepth 20000 in
theorem ggX6_whoHear_X6_everyone : GoodIn wsX6_whoHear wsX6_everyone := goodIn_r _ [5, 6, 36, 37, 38, 39, 40, 41, 42, 43, 44, 45, 46] (by decide +kernel) (by decide +kernel)
set_option maxRecDepth 20000 in
theorem gX6_whoHear_X6_everyone : GoodIn wsX6_whoHear (wsV RX6 124 RX6 yX6_everyone wsX6_everyone) := goodIn_app (goodIn_of _ (by decide +kernel)) ggX6_whoHear_X6_everyone
set_option maxRecDepth 20000 in
theorem ggX6_whoHear_X6_whoHearOf : GoodIn wsX6_whoHear wsX6_whoHearOf := goodIn_r _ [10, 6, 11, 12, 13, 14, 15, 16, 17, 18, 19, 20, 21, 4, 22, 23, 24, 25, 26, 27, 28, 29, 30, 31, 32, 33, 34, 35, 36, 37, 38, 39, 40, 41, 42, 43, 44, 45, 46] (by decide +kernel) (by decide +kernel)
set_option maxRecDepth 20000 in
theorem gX6_whoHear_X6_whoHearOf : GoodIn wsX6_whoHear (wsV RX6 128 RX6 yX6_whoHearOf wsX6_whoHearOf) := goodIn_app (goodIn_of _ (by decide +kernel)) ggX6_whoHear_X6_whoHearOf
theorem dX6_whoHear_0 : decode cX6_whoHear 0 = .ok (.aload_n 0, 1) := by decide +kernel
theorem dX6_whoHear_1 : decode cX6_whoHear 1 = .ok (.aload_n 0, 1) := by decide +kernel
theorem dX6_whoHear_2 : decode cX6_whoHear 2 = .ok (.invokevirtual 124, 3) := by decide +kernel
theorem dX6_whoHear_5 : decode cX6_whoHear 5 = .ok (.iload_n 1, 1) := by decide +kernel
theorem dX6_whoHear_6 : decode cX6_whoHear 6 = .ok (.iload_n 2, 1) := by decide +kernel
theorem dX6_whoHear_7 : decode cX6_whoHear 7 = .ok (.iconst 0, 1) := by decide +kernel
theorem dX6_whoHear_8 : decode cX6_whoHear 8 = .ok (.invokevirtual 128, 3) := by decide +kernel
theorem dX6_whoHear_11 : decode cX6_whoHear 11 = .ok (.ireturn, 1) := by decide +kernel
set_option maxRecDepth 20000 in
theorem ggX6_whoHearOf_X6_loudestIn : GoodIn wsX6_whoHearOf wsX6_loudestIn := goodIn_r _ [14, 1, 9, 15, 2, 16, 17, 7, 18, 5, 6, 8, 28, 29, 30, 31, 32, 33, 34, 35, 36, 37, 38] (by decide +kernel) (by decide +kernel)
set_option maxRecDepth 20000 in
theorem gX6_whoHearOf_X6_loudestIn : GoodIn wsX6_whoHearOf (wsV RX6 109 RX6 yX6_loudestIn wsX6_loudestIn) := goodIn_app (goodIn_of _ (by decide +kernel)) ggX6_whoHearOf_X6_loudestIn
set_option maxRecDepth 20000 in
theorem ggX6_whoHearOf_X6_comesTo : GoodIn wsX6_whoHearOf wsX6_comesTo := goodIn_r _ [22, 4, 9, 15, 2, 16, 17, 7, 18, 28, 29, 30, 31, 32, 33, 34, 35, 36, 37, 38] (by decide +kernel) (by decide +kernel)
set_option maxRecDepth 20000 in
theorem gX6_whoHearOf_X6_comesTo : GoodIn wsX6_whoHearOf (wsV RX6 117 RX6 yX6_comesTo wsX6_comesTo) := goodIn_app (goodIn_of _ (by decide +kernel)) ggX6_whoHearOf_X6_comesTo
set_option maxRecDepth 20000 in
theorem ggX6_whoHearOf_X2_isEnough : GoodIn wsX6_whoHearOf wsX2_isEnough := goodIn_r _ [26, 27] (by decide +kernel) (by decide +kernel)
set_option maxRecDepth 20000 in
theorem gX6_whoHearOf_X2_isEnough : GoodIn wsX6_whoHearOf (va_wsS RX6 120 yX2_isEnough wsX2_isEnough) := goodIn_app (goodIn_of _ (by decide +kernel)) ggX6_whoHearOf_X2_isEnough
theorem dX6_whoHearOf_0 : decode cX6_whoHearOf 0 = .ok (.iload_n 1, 1) := by decide +kernel
theorem dX6_whoHearOf_1 : decode cX6_whoHearOf 1 = .ok (.iload_n 3, 1) := by decide +kernel
theorem dX6_whoHearOf_2 : decode cX6_whoHearOf 2 = .ok (.iconst (-1), 1) := by decide +kernel
theorem dX6_whoHearOf_3 : decode cX6_whoHearOf 3 = .ok (.ixor, 1) := by decide +kernel
theorem dX6_whoHearOf_4 : decode cX6_whoHearOf 4 = .ok (.iand, 1) := by decide +kernel
theorem dX6_whoHearOf_5 : decode cX6_whoHearOf 5 = .ok (.iconst 1, 1) := by decide +kernel
theorem dX6_whoHearOf_6 : decode cX6_whoHearOf 6 = .ok (.iload_n 2, 1) := by decide +kernel
theorem dX6_whoHearOf_7 : decode cX6_whoHearOf 7 = .ok (.ishl, 1) := by decide +kernel
theorem dX6_whoHearOf_8 : decode cX6_whoHearOf 8 = .ok (.iconst (-1), 1) := by decide +kernel
theorem dX6_whoHearOf_9 : decode cX6_whoHearOf 9 = .ok (.ixor, 1) := by decide +kernel
theorem dX6_whoHearOf_10 : decode cX6_whoHearOf 10 = .ok (.iand, 1) := by decide +kernel
theorem dX6_whoHearOf_11 : decode cX6_whoHearOf 11 = .ok (.istore 5, 2) := by decide +kernel
theorem dX6_whoHearOf_13 : decode cX6_whoHearOf 13 = .ok (.iconst 0, 1) := by decide +kernel
theorem dX6_whoHearOf_14 : decode cX6_whoHearOf 14 = .ok (.istore 6, 2) := by decide +kernel
theorem dX6_whoHearOf_16 : decode cX6_whoHearOf 16 = .ok (.iconst 0, 1) := by decide +kernel
theorem dX6_whoHearOf_17 : decode cX6_whoHearOf 17 = .ok (.istore 7, 2) := by decide +kernel
theorem dX6_whoHearOf_19 : decode cX6_whoHearOf 19 = .ok (.iload 7, 2) := by decide +kernel
theorem dX6_whoHearOf_21 : decode cX6_whoHearOf 21 = .ok (.aload_n 0, 1) := by decide +kernel
theorem dX6_whoHearOf_22 : decode cX6_whoHearOf 22 = .ok (.getfield 44, 3) := by decide +kernel
theorem dX6_whoHearOf_25 : decode cX6_whoHearOf 25 = .ok (.if_icmp .ge 103, 3) := by decide +kernel
theorem dX6_whoHearOf_28 : decode cX6_whoHearOf 28 = .ok (.iload 5, 2) := by decide +kernel
theorem dX6_whoHearOf_30 : decode cX6_whoHearOf 30 = .ok (.iload 7, 2) := by decide +kernel
theorem dX6_whoHearOf_32 : decode cX6_whoHearOf 32 = .ok (.ishr, 1) := by decide +kernel
theorem dX6_whoHearOf_33 : decode cX6_whoHearOf 33 = .ok (.ifCond .eq 95, 3) := by decide +kernel
theorem dX6_whoHearOf_36 : decode cX6_whoHearOf 36 = .ok (.iload 5, 2) := by decide +kernel
theorem dX6_whoHearOf_38 : decode cX6_whoHearOf 38 = .ok (.iload 7, 2) := by decide +kernel
theorem dX6_whoHearOf_40 : decode cX6_whoHearOf 40 = .ok (.ishr, 1) := by decide +kernel
theorem dX6_whoHearOf_41 : decode cX6_whoHearOf 41 = .ok (.iconst 1, 1) := by decide +kernel
theorem dX6_whoHearOf_42 : decode cX6_whoHearOf 42 = .ok (.iand, 1) := by decide +kernel
theorem dX6_whoHearOf_43 : decode cX6_whoHearOf 43 = .ok (.ifCond .eq 79, 3) := by decide +kernel
theorem dX6_whoHearOf_46 : decode cX6_whoHearOf 46 = .ok (.aload_n 0, 1) := by decide +kernel
theorem dX6_whoHearOf_47 : decode cX6_whoHearOf 47 = .ok (.aload_n 0, 1) := by decide +kernel
theorem dX6_whoHearOf_48 : decode cX6_whoHearOf 48 = .ok (.getfield 21, 3) := by decide +kernel
theorem dX6_whoHearOf_51 : decode cX6_whoHearOf 51 = .ok (.iload 7, 2) := by decide +kernel
theorem dX6_whoHearOf_53 : decode cX6_whoHearOf 53 = .ok (.iaload, 1) := by decide +kernel
theorem dX6_whoHearOf_54 : decode cX6_whoHearOf 54 = .ok (.iload_n 3, 1) := by decide +kernel
theorem dX6_whoHearOf_55 : decode cX6_whoHearOf 55 = .ok (.getstatic 94, 3) := by decide +kernel
theorem dX6_whoHearOf_58 : decode cX6_whoHearOf 58 = .ok (.invokevirtual 109, 3) := by decide +kernel
theorem dX6_whoHearOf_61 : decode cX6_whoHearOf 61 = .ok (.istore 8, 2) := by decide +kernel
theorem dX6_whoHearOf_63 : decode cX6_whoHearOf 63 = .ok (.iload 8, 2) := by decide +kernel
theorem dX6_whoHearOf_65 : decode cX6_whoHearOf 65 = .ok (.aload_n 0, 1) := by decide +kernel
theorem dX6_whoHearOf_66 : decode cX6_whoHearOf 66 = .ok (.aload_n 0, 1) := by decide +kernel
theorem dX6_whoHearOf_67 : decode cX6_whoHearOf 67 = .ok (.getfield 21, 3) := by decide +kernel
theorem dX6_whoHearOf_70 : decode cX6_whoHearOf 70 = .ok (.iload 7, 2) := by decide +kernel
theorem dX6_whoHearOf_72 : decode cX6_whoHearOf 72 = .ok (.iaload, 1) := by decide +kernel
theorem dX6_whoHearOf_73 : decode cX6_whoHearOf 73 = .ok (.iload 4, 2) := by decide +kernel
theorem dX6_whoHearOf_75 : decode cX6_whoHearOf 75 = .ok (.getstatic 91, 3) := by decide +kernel
theorem dX6_whoHearOf_78 : decode cX6_whoHearOf 78 = .ok (.invokevirtual 109, 3) := by decide +kernel
theorem dX6_whoHearOf_81 : decode cX6_whoHearOf 81 = .ok (.invokestatic 113, 3) := by decide +kernel
theorem dX6_whoHearOf_84 : decode cX6_whoHearOf 84 = .ok (.istore 9, 2) := by decide +kernel
theorem dX6_whoHearOf_86 : decode cX6_whoHearOf 86 = .ok (.aload_n 0, 1) := by decide +kernel
theorem dX6_whoHearOf_87 : decode cX6_whoHearOf 87 = .ok (.getfield 18, 3) := by decide +kernel
theorem dX6_whoHearOf_90 : decode cX6_whoHearOf 90 = .ok (.iload 7, 2) := by decide +kernel
theorem dX6_whoHearOf_92 : decode cX6_whoHearOf 92 = .ok (.iaload, 1) := by decide +kernel
theorem dX6_whoHearOf_93 : decode cX6_whoHearOf 93 = .ok (.aload_n 0, 1) := by decide +kernel
theorem dX6_whoHearOf_94 : decode cX6_whoHearOf 94 = .ok (.aload_n 0, 1) := by decide +kernel
theorem dX6_whoHearOf_95 : decode cX6_whoHearOf 95 = .ok (.getfield 21, 3) := by decide +kernel
theorem dX6_whoHearOf_98 : decode cX6_whoHearOf 98 = .ok (.iload 7, 2) := by decide +kernel
theorem dX6_whoHearOf_100 : decode cX6_whoHearOf 100 = .ok (.iaload, 1) := by decide +kernel
theorem dX6_whoHearOf_101 : decode cX6_whoHearOf 101 = .ok (.iload_n 2, 1) := by decide +kernel
theorem dX6_whoHearOf_102 : decode cX6_whoHearOf 102 = .ok (.invokevirtual 117, 3) := by decide +kernel
theorem dX6_whoHearOf_105 : decode cX6_whoHearOf 105 = .ok (.iload 9, 2) := by decide +kernel
theorem dX6_whoHearOf_107 : decode cX6_whoHearOf 107 = .ok (.invokestatic 120, 3) := by decide +kernel
theorem dX6_whoHearOf_110 : decode cX6_whoHearOf 110 = .ok (.ifCond .eq 12, 3) := by decide +kernel
theorem dX6_whoHearOf_113 : decode cX6_whoHearOf 113 = .ok (.iload 6, 2) := by decide +kernel
theorem dX6_whoHearOf_115 : decode cX6_whoHearOf 115 = .ok (.iconst 1, 1) := by decide +kernel
theorem dX6_whoHearOf_116 : decode cX6_whoHearOf 116 = .ok (.iload 7, 2) := by decide +kernel
theorem dX6_whoHearOf_118 : decode cX6_whoHearOf 118 = .ok (.ishl, 1) := by decide +kernel
theorem dX6_whoHearOf_119 : decode cX6_whoHearOf 119 = .ok (.ior, 1) := by decide +kernel
theorem dX6_whoHearOf_120 : decode cX6_whoHearOf 120 = .ok (.istore 6, 2) := by decide +kernel
theorem dX6_whoHearOf_122 : decode cX6_whoHearOf 122 = .ok (.iinc 7 1, 3) := by decide +kernel
theorem dX6_whoHearOf_125 : decode cX6_whoHearOf 125 = .ok (.goto (-106), 3) := by decide +kernel
theorem dX6_whoHearOf_128 : decode cX6_whoHearOf 128 = .ok (.iload 6, 2) := by decide +kernel
theorem dX6_whoHearOf_130 : decode cX6_whoHearOf 130 = .ok (.ireturn, 1) := by decide +kernel
set_option maxRecDepth 20000 in
theorem ggX6_circleOf_X6_whoHear : GoodIn wsX6_circleOf wsX6_whoHear := goodIn_r _ [5, 6, 7, 8, 4, 9, 10, 11, 12, 13, 14, 15, 16, 17, 18, 19, 20, 21, 22, 23, 24, 25, 26, 27, 28, 29, 30, 31, 32, 33, 34, 35, 36, 37, 38, 39, 40, 41, 42, 43, 44, 45, 46, 47, 48, 49, 50] (by decide +kernel) (by decide +kernel)
set_option maxRecDepth 20000 in
theorem gX6_circleOf_X6_whoHear : GoodIn wsX6_circleOf (wsV RX6 132 RX6 yX6_whoHear wsX6_whoHear) := goodIn_app (goodIn_of _ (by decide +kernel)) ggX6_circleOf_X6_whoHear
theorem dX6_circleOf_0 : decode cX6_circleOf 0 = .ok (.aload_n 0, 1) := by decide +kernel
theorem dX6_circleOf_1 : decode cX6_circleOf 1 = .ok (.iload_n 1, 1) := by decide +kernel
theorem dX6_circleOf_2 : decode cX6_circleOf 2 = .ok (.iconst 0, 1) := by decide +kernel
theorem dX6_circleOf_3 : decode cX6_circleOf 3 = .ok (.invokevirtual 132, 3) := by decide +kernel
theorem dX6_circleOf_6 : decode cX6_circleOf 6 = .ok (.iconst 1, 1) := by decide +kernel
theorem dX6_circleOf_7 : decode cX6_circleOf 7 = .ok (.iload_n 1, 1) := by decide +kernel
theorem dX6_circleOf_8 : decode cX6_circleOf 8 = .ok (.ishl, 1) := by decide +kernel
theorem dX6_circleOf_9 : decode cX6_circleOf 9 = .ok (.ior, 1) := by decide +kernel
theorem dX6_circleOf_10 : decode cX6_circleOf 10 = .ok (.ireturn, 1) := by decide +kernel
set_option maxRecDepth 20000 in
theorem ggX6_heardPairs_X6_whoHear : GoodIn wsX6_heardPairs wsX6_whoHear := goodIn_r _ [6, 7, 8, 9, 5, 10, 1, 11, 12, 13, 14, 15, 16, 17, 18, 19, 20, 21, 22, 23, 24, 25, 26, 27, 28, 29, 30, 31, 32, 33, 34, 35, 36, 37, 38, 39, 47, 48, 49, 50, 51, 52, 53, 54, 55, 56, 57] (by decide +kernel) (by decide +kernel)
set_option maxRecDepth 20000 in
theorem gX6_heardPairs_X6_whoHear : GoodIn wsX6_heardPairs (wsV RX6 132 RX6 yX6_whoHear wsX6_whoHear) := goodIn_app (goodIn_of _ (by decide +kernel)) ggX6_heardPairs_X6_whoHear
set_option maxRecDepth 20000 in
theorem ggX6_heardPairs_J6_bitCount_0f7a4 : GoodIn wsX6_heardPairs wsJ6_bitCount_0f7a4 := goodIn_r _ [43, 44, 45, 46] (by decide +kernel) (by decide +kernel)
set_option maxRecDepth 20000 in
theorem gX6_heardPairs_J6_bitCount_0f7a4 : GoodIn wsX6_heardPairs (va_wsS RX6 135 yJ6_bitCount_0f7a4 wsJ6_bitCount_0f7a4) := goodIn_app (goodIn_of _ (by decide +kernel)) ggX6_heardPairs_J6_bitCount_0f7a4
theorem dX6_heardPairs_0 : decode cX6_heardPairs 0 = .ok (.iconst 0, 1) := by decide +kernel
theorem dX6_heardPairs_1 : decode cX6_heardPairs 1 = .ok (.istore_n 1, 1) := by decide +kernel
theorem dX6_heardPairs_2 : decode cX6_heardPairs 2 = .ok (.iconst 0, 1) := by decide +kernel
theorem dX6_heardPairs_3 : decode cX6_heardPairs 3 = .ok (.istore_n 2, 1) := by decide +kernel
theorem dX6_heardPairs_4 : decode cX6_heardPairs 4 = .ok (.iload_n 2, 1) := by decide +kernel
theorem dX6_heardPairs_5 : decode cX6_heardPairs 5 = .ok (.aload_n 0, 1) := by decide +kernel
theorem dX6_heardPairs_6 : decode cX6_heardPairs 6 = .ok (.getfield 44, 3) := by decide +kernel
theorem dX6_heardPairs_9 : decode cX6_heardPairs 9 = .ok (.if_icmp .ge 21, 3) := by decide +kernel
theorem dX6_heardPairs_12 : decode cX6_heardPairs 12 = .ok (.iload_n 1, 1) := by decide +kernel
theorem dX6_heardPairs_13 : decode cX6_heardPairs 13 = .ok (.aload_n 0, 1) := by decide +kernel
theorem dX6_heardPairs_14 : decode cX6_heardPairs 14 = .ok (.iload_n 2, 1) := by decide +kernel
theorem dX6_heardPairs_15 : decode cX6_heardPairs 15 = .ok (.iconst 0, 1) := by decide +kernel
theorem dX6_heardPairs_16 : decode cX6_heardPairs 16 = .ok (.invokevirtual 132, 3) := by decide +kernel
theorem dX6_heardPairs_19 : decode cX6_heardPairs 19 = .ok (.invokestatic 135, 3) := by decide +kernel
theorem dX6_heardPairs_22 : decode cX6_heardPairs 22 = .ok (.iadd, 1) := by decide +kernel
theorem dX6_heardPairs_23 : decode cX6_heardPairs 23 = .ok (.istore_n 1, 1) := by decide +kernel
theorem dX6_heardPairs_24 : decode cX6_heardPairs 24 = .ok (.iinc 2 1, 3) := by decide +kernel
theorem dX6_heardPairs_27 : decode cX6_heardPairs 27 = .ok (.goto (-23), 3) := by decide +kernel
theorem dX6_heardPairs_30 : decode cX6_heardPairs 30 = .ok (.iload_n 1, 1) := by decide +kernel
theorem dX6_heardPairs_31 : decode cX6_heardPairs 31 = .ok (.ireturn, 1) := by decide +kernel
theorem dX6_pairs_0 : decode cX6_pairs 0 = .ok (.aload_n 0, 1) := by decide +kernel
theorem dX6_pairs_1 : decode cX6_pairs 1 = .ok (.getfield 44, 3) := by decide +kernel
theorem dX6_pairs_4 : decode cX6_pairs 4 = .ok (.iconst 0, 1) := by decide +kernel
theorem dX6_pairs_5 : decode cX6_pairs 5 = .ok (.aload_n 0, 1) := by decide +kernel
theorem dX6_pairs_6 : decode cX6_pairs 6 = .ok (.getfield 44, 3) := by decide +kernel
theorem dX6_pairs_9 : decode cX6_pairs 9 = .ok (.iconst 1, 1) := by decide +kernel
theorem dX6_pairs_10 : decode cX6_pairs 10 = .ok (.isub, 1) := by decide +kernel
theorem dX6_pairs_11 : decode cX6_pairs 11 = .ok (.invokestatic 113, 3) := by decide +kernel
theorem dX6_pairs_14 : decode cX6_pairs 14 = .ok (.imul, 1) := by decide +kernel
theorem dX6_pairs_15 : decode cX6_pairs 15 = .ok (.ireturn, 1) := by decide +kernel
theorem dX6_addTalk_0 : decode cX6_addTalk 0 = .ok (.aload_n 0, 1) := by decide +kernel
theorem dX6_addTalk_1 : decode cX6_addTalk 1 = .ok (.getfield 24, 3) := by decide +kernel
theorem dX6_addTalk_4 : decode cX6_addTalk 4 = .ok (.aload_n 0, 1) := by decide +kernel
theorem dX6_addTalk_5 : decode cX6_addTalk 5 = .ok (.getfield 47, 3) := by decide +kernel
theorem dX6_addTalk_8 : decode cX6_addTalk 8 = .ok (.iload_n 1, 1) := by decide +kernel
theorem dX6_addTalk_9 : decode cX6_addTalk 9 = .ok (.iastore, 1) := by decide +kernel
theorem dX6_addTalk_10 : decode cX6_addTalk 10 = .ok (.aload_n 0, 1) := by decide +kernel
theorem dX6_addTalk_11 : decode cX6_addTalk 11 = .ok (.getfield 27, 3) := by decide +kernel
theorem dX6_addTalk_14 : decode cX6_addTalk 14 = .ok (.aload_n 0, 1) := by decide +kernel
theorem dX6_addTalk_15 : decode cX6_addTalk 15 = .ok (.getfield 47, 3) := by decide +kernel
theorem dX6_addTalk_18 : decode cX6_addTalk 18 = .ok (.iload_n 2, 1) := by decide +kernel
theorem dX6_addTalk_19 : decode cX6_addTalk 19 = .ok (.iastore, 1) := by decide +kernel
theorem dX6_addTalk_20 : decode cX6_addTalk 20 = .ok (.aload_n 0, 1) := by decide +kernel
theorem dX6_addTalk_21 : decode cX6_addTalk 21 = .ok (.getfield 30, 3) := by decide +kernel
theorem dX6_addTalk_24 : decode cX6_addTalk 24 = .ok (.aload_n 0, 1) := by decide +kernel
theorem dX6_addTalk_25 : decode cX6_addTalk 25 = .ok (.getfield 47, 3) := by decide +kernel
theorem dX6_addTalk_28 : decode cX6_addTalk 28 = .ok (.iload_n 3, 1) := by decide +kernel
theorem dX6_addTalk_29 : decode cX6_addTalk 29 = .ok (.iastore, 1) := by decide +kernel
theorem dX6_addTalk_30 : decode cX6_addTalk 30 = .ok (.aload_n 0, 1) := by decide +kernel
theorem dX6_addTalk_31 : decode cX6_addTalk 31 = .ok (.dup, 1) := by decide +kernel
theorem dX6_addTalk_32 : decode cX6_addTalk 32 = .ok (.getfield 47, 3) := by decide +kernel
theorem dX6_addTalk_35 : decode cX6_addTalk 35 = .ok (.iconst 1, 1) := by decide +kernel
theorem dX6_addTalk_36 : decode cX6_addTalk 36 = .ok (.iadd, 1) := by decide +kernel
theorem dX6_addTalk_37 : decode cX6_addTalk 37 = .ok (.putfield 47, 3) := by decide +kernel
theorem dX6_addTalk_40 : decode cX6_addTalk 40 = .ok (.aload_n 0, 1) := by decide +kernel
theorem dX6_addTalk_41 : decode cX6_addTalk 41 = .ok (.getfield 47, 3) := by decide +kernel
theorem dX6_addTalk_44 : decode cX6_addTalk 44 = .ok (.iconst 1, 1) := by decide +kernel
theorem dX6_addTalk_45 : decode cX6_addTalk 45 = .ok (.isub, 1) := by decide +kernel
theorem dX6_addTalk_46 : decode cX6_addTalk 46 = .ok (.ireturn, 1) := by decide +kernel
theorem dX6_bothOf_0 : decode cX6_bothOf 0 = .ok (.iconst 1, 1) := by decide +kernel
theorem dX6_bothOf_1 : decode cX6_bothOf 1 = .ok (.aload_n 0, 1) := by decide +kernel
theorem dX6_bothOf_2 : decode cX6_bothOf 2 = .ok (.getfield 24, 3) := by decide +kernel
theorem dX6_bothOf_5 : decode cX6_bothOf 5 = .ok (.iload_n 1, 1) := by decide +kernel
theorem dX6_bothOf_6 : decode cX6_bothOf 6 = .ok (.iaload, 1) := by decide +kernel
theorem dX6_bothOf_7 : decode cX6_bothOf 7 = .ok (.ishl, 1) := by decide +kernel
theorem dX6_bothOf_8 : decode cX6_bothOf 8 = .ok (.iconst 1, 1) := by decide +kernel
theorem dX6_bothOf_9 : decode cX6_bothOf 9 = .ok (.aload_n 0, 1) := by decide +kernel
theorem dX6_bothOf_10 : decode cX6_bothOf 10 = .ok (.getfield 27, 3) := by decide +kernel
theorem dX6_bothOf_13 : decode cX6_bothOf 13 = .ok (.iload_n 1, 1) := by decide +kernel
theorem dX6_bothOf_14 : decode cX6_bothOf 14 = .ok (.iaload, 1) := by decide +kernel
theorem dX6_bothOf_15 : decode cX6_bothOf 15 = .ok (.ishl, 1) := by decide +kernel
theorem dX6_bothOf_16 : decode cX6_bothOf 16 = .ok (.ior, 1) := by decide +kernel
theorem dX6_bothOf_17 : decode cX6_bothOf 17 = .ok (.ireturn, 1) := by decide +kernel
set_option maxRecDepth 20000 in
theorem ggX6_isSafe_X6_bothOf : GoodIn wsX6_isSafe wsX6_bothOf := goodIn_r _ [5, 6, 7, 47, 48, 49, 50, 51, 52, 53, 54, 55, 56, 57] (by decide +kernel) (by decide +kernel)
end
section
set_option maxRecDepth 20000 in
theorem gX6_isSafe_X6_bothOf : GoodIn wsX6_isSafe (wsV RX6 140 RX6 yX6_bothOf wsX6_bothOf) := goodIn_app (goodIn_of _ (by decide +kernel)) ggX6_isSafe_X6_bothOf
set_option maxRecDepth 20000 in
theorem ggX6_isSafe_X6_everyone : GoodIn wsX6_isSafe wsX6_everyone := goodIn_r _ [11, 12, 47, 48, 49, 50, 51, 52, 53, 54, 55, 56, 57] (by decide +kernel) (by decide +kernel)
set_option maxRecDepth 20000 in
theorem gX6_isSafe_X6_everyone : GoodIn wsX6_isSafe (wsV RX6 124 RX6 yX6_everyone wsX6_everyone) := goodIn_app (goodIn_of _ (by decide +kernel)) ggX6_isSafe_X6_everyone
set_option maxRecDepth 20000 in
theorem ggX6_isSafe_X6_isHeardRightly : GoodIn wsX6_isSafe wsX6_isHeardRightly := goodIn_r _ [16, 7, 17, 6, 18, 19, 20, 4, 21, 12, 22, 23, 24, 25, 26, 27, 28, 29, 30, 31, 32, 33, 34, 35, 36, 37, 38, 39, 40, 41, 42, 43, 44, 45, 46, 47, 48, 49, 50, 51, 52, 53, 54, 55, 56, 57] (by decide +kernel) (by decide +kernel)
set_option maxRecDepth 20000 in
theorem gX6_isSafe_X6_isHeardRightly : GoodIn wsX6_isSafe (wsV RX6 143 RX6 yX6_isHeardRightly wsX6_isHeardRightly) := goodIn_app (goodIn_of _ (by decide +kernel)) ggX6_isSafe_X6_isHeardRightly
theorem dX6_isSafe_0 : decode cX6_isSafe 0 = .ok (.iload_n 2, 1) := by decide +kernel
theorem dX6_isSafe_1 : decode cX6_isSafe 1 = .ok (.aload_n 0, 1) := by decide +kernel
theorem dX6_isSafe_2 : decode cX6_isSafe 2 = .ok (.iload_n 1, 1) := by decide +kernel
theorem dX6_isSafe_3 : decode cX6_isSafe 3 = .ok (.invokevirtual 140, 3) := by decide +kernel
theorem dX6_isSafe_6 : decode cX6_isSafe 6 = .ok (.iand, 1) := by decide +kernel
theorem dX6_isSafe_7 : decode cX6_isSafe 7 = .ok (.ifCond .ne 21, 3) := by decide +kernel
theorem dX6_isSafe_10 : decode cX6_isSafe 10 = .ok (.aload_n 0, 1) := by decide +kernel
theorem dX6_isSafe_11 : decode cX6_isSafe 11 = .ok (.iload_n 1, 1) := by decide +kernel
theorem dX6_isSafe_12 : decode cX6_isSafe 12 = .ok (.aload_n 0, 1) := by decide +kernel
theorem dX6_isSafe_13 : decode cX6_isSafe 13 = .ok (.invokevirtual 124, 3) := by decide +kernel
theorem dX6_isSafe_16 : decode cX6_isSafe 16 = .ok (.iload_n 2, 1) := by decide +kernel
theorem dX6_isSafe_17 : decode cX6_isSafe 17 = .ok (.iconst 0, 1) := by decide +kernel
theorem dX6_isSafe_18 : decode cX6_isSafe 18 = .ok (.invokevirtual 143, 3) := by decide +kernel
theorem dX6_isSafe_21 : decode cX6_isSafe 21 = .ok (.ifCond .eq 7, 3) := by decide +kernel
theorem dX6_isSafe_24 : decode cX6_isSafe 24 = .ok (.iconst 1, 1) := by decide +kernel
theorem dX6_isSafe_25 : decode cX6_isSafe 25 = .ok (.goto 4, 3) := by decide +kernel
theorem dX6_isSafe_28 : decode cX6_isSafe 28 = .ok (.iconst 0, 1) := by decide +kernel
theorem dX6_isSafe_29 : decode cX6_isSafe 29 = .ok (.ireturn, 1) := by decide +kernel
set_option maxRecDepth 20000 in
theorem ggX6_isHeardRightly_X6_whoHearOf : GoodIn wsX6_isHeardRightly wsX6_whoHearOf := goodIn_r _ [8, 9, 10, 11, 12, 13, 14, 15, 16, 17, 18, 19, 20, 7, 21, 22, 23, 24, 25, 26, 27, 28, 29, 30, 31, 32, 33, 34, 35, 36, 37, 38, 39, 40, 41, 42, 43, 44, 45] (by decide +kernel) (by decide +kernel)
set_option maxRecDepth 20000 in
theorem gX6_isHeardRightly_X6_whoHearOf : GoodIn wsX6_isHeardRightly (wsV RX6 128 RX6 yX6_whoHearOf wsX6_whoHearOf) := goodIn_app (goodIn_of _ (by decide +kernel)) ggX6_isHeardRightly_X6_whoHearOf
theorem dX6_isHeardRightly_0 : decode cX6_isHeardRightly 0 = .ok (.iload_n 2, 1) := by decide +kernel
theorem dX6_isHeardRightly_1 : decode cX6_isHeardRightly 1 = .ok (.iconst 1, 1) := by decide +kernel
theorem dX6_isHeardRightly_2 : decode cX6_isHeardRightly 2 = .ok (.aload_n 0, 1) := by decide +kernel
theorem dX6_isHeardRightly_3 : decode cX6_isHeardRightly 3 = .ok (.getfield 27, 3) := by decide +kernel
theorem dX6_isHeardRightly_6 : decode cX6_isHeardRightly 6 = .ok (.iload_n 1, 1) := by decide +kernel
theorem dX6_isHeardRightly_7 : decode cX6_isHeardRightly 7 = .ok (.iaload, 1) := by decide +kernel
theorem dX6_isHeardRightly_8 : decode cX6_isHeardRightly 8 = .ok (.ishl, 1) := by decide +kernel
theorem dX6_isHeardRightly_9 : decode cX6_isHeardRightly 9 = .ok (.iand, 1) := by decide +kernel
theorem dX6_isHeardRightly_10 : decode cX6_isHeardRightly 10 = .ok (.istore 5, 2) := by decide +kernel
theorem dX6_isHeardRightly_12 : decode cX6_isHeardRightly 12 = .ok (.aload_n 0, 1) := by decide +kernel
theorem dX6_isHeardRightly_13 : decode cX6_isHeardRightly 13 = .ok (.iload 5, 2) := by decide +kernel
theorem dX6_isHeardRightly_15 : decode cX6_isHeardRightly 15 = .ok (.iload_n 2, 1) := by decide +kernel
theorem dX6_isHeardRightly_16 : decode cX6_isHeardRightly 16 = .ok (.aload_n 0, 1) := by decide +kernel
theorem dX6_isHeardRightly_17 : decode cX6_isHeardRightly 17 = .ok (.getfield 30, 3) := by decide +kernel
theorem dX6_isHeardRightly_20 : decode cX6_isHeardRightly 20 = .ok (.iload_n 1, 1) := by decide +kernel
theorem dX6_isHeardRightly_21 : decode cX6_isHeardRightly 21 = .ok (.iaload, 1) := by decide +kernel
theorem dX6_isHeardRightly_22 : decode cX6_isHeardRightly 22 = .ok (.iand, 1) := by decide +kernel
theorem dX6_isHeardRightly_23 : decode cX6_isHeardRightly 23 = .ok (.ior, 1) := by decide +kernel
theorem dX6_isHeardRightly_24 : decode cX6_isHeardRightly 24 = .ok (.aload_n 0, 1) := by decide +kernel
theorem dX6_isHeardRightly_25 : decode cX6_isHeardRightly 25 = .ok (.getfield 24, 3) := by decide +kernel
theorem dX6_isHeardRightly_28 : decode cX6_isHeardRightly 28 = .ok (.iload_n 1, 1) := by decide +kernel
theorem dX6_isHeardRightly_29 : decode cX6_isHeardRightly 29 = .ok (.iaload, 1) := by decide +kernel
theorem dX6_isHeardRightly_30 : decode cX6_isHeardRightly 30 = .ok (.iload_n 3, 1) := by decide +kernel
theorem dX6_isHeardRightly_31 : decode cX6_isHeardRightly 31 = .ok (.iload 4, 2) := by decide +kernel
theorem dX6_isHeardRightly_33 : decode cX6_isHeardRightly 33 = .ok (.invokevirtual 128, 3) := by decide +kernel
theorem dX6_isHeardRightly_36 : decode cX6_isHeardRightly 36 = .ok (.iload 5, 2) := by decide +kernel
theorem dX6_isHeardRightly_38 : decode cX6_isHeardRightly 38 = .ok (.if_icmp .ne 7, 3) := by decide +kernel
theorem dX6_isHeardRightly_41 : decode cX6_isHeardRightly 41 = .ok (.iconst 1, 1) := by decide +kernel
theorem dX6_isHeardRightly_42 : decode cX6_isHeardRightly 42 = .ok (.goto 4, 3) := by decide +kernel
theorem dX6_isHeardRightly_45 : decode cX6_isHeardRightly 45 = .ok (.iconst 0, 1) := by decide +kernel
theorem dX6_isHeardRightly_46 : decode cX6_isHeardRightly 46 = .ok (.ireturn, 1) := by decide +kernel
set_option maxRecDepth 20000 in
theorem ggX6_goTogether_X6_bothOf : GoodIn wsX6_goTogether wsX6_bothOf := goodIn_r _ [7, 2, 8, 48, 49, 50, 51, 52, 53, 54, 55, 56, 57, 58] (by decide +kernel) (by decide +kernel)
set_option maxRecDepth 20000 in
theorem gX6_goTogether_X6_bothOf : GoodIn wsX6_goTogether (wsV RX6 140 RX6 yX6_bothOf wsX6_bothOf) := goodIn_app (goodIn_of _ (by decide +kernel)) ggX6_goTogether_X6_bothOf
set_option maxRecDepth 20000 in
theorem ggX6_goTogether_X6_everyone : GoodIn wsX6_goTogether wsX6_everyone := goodIn_r _ [12, 13, 48, 49, 50, 51, 52, 53, 54, 55, 56, 57, 58] (by decide +kernel) (by decide +kernel)
set_option maxRecDepth 20000 in
theorem gX6_goTogether_X6_everyone : GoodIn wsX6_goTogether (wsV RX6 124 RX6 yX6_everyone wsX6_everyone) := goodIn_app (goodIn_of _ (by decide +kernel)) ggX6_goTogether_X6_everyone
set_option maxRecDepth 20000 in
theorem ggX6_goTogether_X6_isHeardRightly : GoodIn wsX6_goTogether wsX6_isHeardRightly := goodIn_r _ [17, 8, 18, 2, 19, 20, 21, 6, 22, 13, 23, 24, 25, 26, 27, 28, 29, 30, 31, 32, 33, 34, 35, 36, 37, 38, 39, 40, 41, 42, 43, 44, 45, 46, 47, 48, 49, 50, 51, 52, 53, 54, 55, 56, 57, 58] (by decide +kernel) (by decide +kernel)
set_option maxRecDepth 20000 in
theorem gX6_goTogether_X6_isHeardRightly : GoodIn wsX6_goTogether (wsV RX6 143 RX6 yX6_isHeardRightly wsX6_isHeardRightly) := goodIn_app (goodIn_of _ (by decide +kernel)) ggX6_goTogether_X6_isHeardRightly
theorem dX6_goTogether_0 : decode cX6_goTogether 0 = .ok (.iconst 0, 1) := by decide +kernel
theorem dX6_goTogether_1 : decode cX6_goTogether 1 = .ok (.istore_n 2, 1) := by decide +kernel
theorem dX6_goTogether_2 : decode cX6_goTogether 2 = .ok (.iconst 0, 1) := by decide +kernel
theorem dX6_goTogether_3 : decode cX6_goTogether 3 = .ok (.istore_n 3, 1) := by decide +kernel
theorem dX6_goTogether_4 : decode cX6_goTogether 4 = .ok (.iconst 0, 1) := by decide +kernel
theorem dX6_goTogether_5 : decode cX6_goTogether 5 = .ok (.istore 4, 2) := by decide +kernel
theorem dX6_goTogether_7 : decode cX6_goTogether 7 = .ok (.iload 4, 2) := by decide +kernel
theorem dX6_goTogether_9 : decode cX6_goTogether 9 = .ok (.aload_n 0, 1) := by decide +kernel
theorem dX6_goTogether_10 : decode cX6_goTogether 10 = .ok (.getfield 47, 3) := by decide +kernel
theorem dX6_goTogether_13 : decode cX6_goTogether 13 = .ok (.if_icmp .ge 52, 3) := by decide +kernel
theorem dX6_goTogether_16 : decode cX6_goTogether 16 = .ok (.iload_n 1, 1) := by decide +kernel
theorem dX6_goTogether_17 : decode cX6_goTogether 17 = .ok (.iload 4, 2) := by decide +kernel
theorem dX6_goTogether_19 : decode cX6_goTogether 19 = .ok (.ishr, 1) := by decide +kernel
theorem dX6_goTogether_20 : decode cX6_goTogether 20 = .ok (.iconst 1, 1) := by decide +kernel
theorem dX6_goTogether_21 : decode cX6_goTogether 21 = .ok (.iand, 1) := by decide +kernel
theorem dX6_goTogether_22 : decode cX6_goTogether 22 = .ok (.ifCond .eq 37, 3) := by decide +kernel
theorem dX6_goTogether_25 : decode cX6_goTogether 25 = .ok (.iload_n 2, 1) := by decide +kernel
theorem dX6_goTogether_26 : decode cX6_goTogether 26 = .ok (.aload_n 0, 1) := by decide +kernel
theorem dX6_goTogether_27 : decode cX6_goTogether 27 = .ok (.iload 4, 2) := by decide +kernel
theorem dX6_goTogether_29 : decode cX6_goTogether 29 = .ok (.invokevirtual 140, 3) := by decide +kernel
theorem dX6_goTogether_32 : decode cX6_goTogether 32 = .ok (.iand, 1) := by decide +kernel
theorem dX6_goTogether_33 : decode cX6_goTogether 33 = .ok (.ifCond .eq 5, 3) := by decide +kernel
theorem dX6_goTogether_36 : decode cX6_goTogether 36 = .ok (.iconst 0, 1) := by decide +kernel
theorem dX6_goTogether_37 : decode cX6_goTogether 37 = .ok (.ireturn, 1) := by decide +kernel
theorem dX6_goTogether_38 : decode cX6_goTogether 38 = .ok (.iload_n 2, 1) := by decide +kernel
theorem dX6_goTogether_39 : decode cX6_goTogether 39 = .ok (.aload_n 0, 1) := by decide +kernel
theorem dX6_goTogether_40 : decode cX6_goTogether 40 = .ok (.iload 4, 2) := by decide +kernel
theorem dX6_goTogether_42 : decode cX6_goTogether 42 = .ok (.invokevirtual 140, 3) := by decide +kernel
theorem dX6_goTogether_45 : decode cX6_goTogether 45 = .ok (.ior, 1) := by decide +kernel
theorem dX6_goTogether_46 : decode cX6_goTogether 46 = .ok (.istore_n 2, 1) := by decide +kernel
theorem dX6_goTogether_47 : decode cX6_goTogether 47 = .ok (.iload_n 3, 1) := by decide +kernel
theorem dX6_goTogether_48 : decode cX6_goTogether 48 = .ok (.iconst 1, 1) := by decide +kernel
theorem dX6_goTogether_49 : decode cX6_goTogether 49 = .ok (.aload_n 0, 1) := by decide +kernel
theorem dX6_goTogether_50 : decode cX6_goTogether 50 = .ok (.getfield 24, 3) := by decide +kernel
theorem dX6_goTogether_53 : decode cX6_goTogether 53 = .ok (.iload 4, 2) := by decide +kernel
theorem dX6_goTogether_55 : decode cX6_goTogether 55 = .ok (.iaload, 1) := by decide +kernel
theorem dX6_goTogether_56 : decode cX6_goTogether 56 = .ok (.ishl, 1) := by decide +kernel
theorem dX6_goTogether_57 : decode cX6_goTogether 57 = .ok (.ior, 1) := by decide +kernel
theorem dX6_goTogether_58 : decode cX6_goTogether 58 = .ok (.istore_n 3, 1) := by decide +kernel
theorem dX6_goTogether_59 : decode cX6_goTogether 59 = .ok (.iinc 4 1, 3) := by decide +kernel
theorem dX6_goTogether_62 : decode cX6_goTogether 62 = .ok (.goto (-55), 3) := by decide +kernel
theorem dX6_goTogether_65 : decode cX6_goTogether 65 = .ok (.iconst 0, 1) := by decide +kernel
theorem dX6_goTogether_66 : decode cX6_goTogether 66 = .ok (.istore 4, 2) := by decide +kernel
theorem dX6_goTogether_68 : decode cX6_goTogether 68 = .ok (.iload 4, 2) := by decide +kernel
theorem dX6_goTogether_70 : decode cX6_goTogether 70 = .ok (.aload_n 0, 1) := by decide +kernel
theorem dX6_goTogether_71 : decode cX6_goTogether 71 = .ok (.getfield 47, 3) := by decide +kernel
theorem dX6_goTogether_74 : decode cX6_goTogether 74 = .ok (.if_icmp .ge 51, 3) := by decide +kernel
theorem dX6_goTogether_77 : decode cX6_goTogether 77 = .ok (.iload_n 3, 1) := by decide +kernel
theorem dX6_goTogether_78 : decode cX6_goTogether 78 = .ok (.iconst 1, 1) := by decide +kernel
theorem dX6_goTogether_79 : decode cX6_goTogether 79 = .ok (.aload_n 0, 1) := by decide +kernel
theorem dX6_goTogether_80 : decode cX6_goTogether 80 = .ok (.getfield 24, 3) := by decide +kernel
theorem dX6_goTogether_83 : decode cX6_goTogether 83 = .ok (.iload 4, 2) := by decide +kernel
theorem dX6_goTogether_85 : decode cX6_goTogether 85 = .ok (.iaload, 1) := by decide +kernel
theorem dX6_goTogether_86 : decode cX6_goTogether 86 = .ok (.ishl, 1) := by decide +kernel
theorem dX6_goTogether_87 : decode cX6_goTogether 87 = .ok (.iconst (-1), 1) := by decide +kernel
theorem dX6_goTogether_88 : decode cX6_goTogether 88 = .ok (.ixor, 1) := by decide +kernel
theorem dX6_goTogether_89 : decode cX6_goTogether 89 = .ok (.iand, 1) := by decide +kernel
theorem dX6_goTogether_90 : decode cX6_goTogether 90 = .ok (.istore 5, 2) := by decide +kernel
theorem dX6_goTogether_92 : decode cX6_goTogether 92 = .ok (.iload_n 1, 1) := by decide +kernel
theorem dX6_goTogether_93 : decode cX6_goTogether 93 = .ok (.iload 4, 2) := by decide +kernel
theorem dX6_goTogether_95 : decode cX6_goTogether 95 = .ok (.ishr, 1) := by decide +kernel
theorem dX6_goTogether_96 : decode cX6_goTogether 96 = .ok (.iconst 1, 1) := by decide +kernel
theorem dX6_goTogether_97 : decode cX6_goTogether 97 = .ok (.iand, 1) := by decide +kernel
theorem dX6_goTogether_98 : decode cX6_goTogether 98 = .ok (.ifCond .eq 21, 3) := by decide +kernel
theorem dX6_goTogether_101 : decode cX6_goTogether 101 = .ok (.aload_n 0, 1) := by decide +kernel
theorem dX6_goTogether_102 : decode cX6_goTogether 102 = .ok (.iload 4, 2) := by decide +kernel
theorem dX6_goTogether_104 : decode cX6_goTogether 104 = .ok (.aload_n 0, 1) := by decide +kernel
theorem dX6_goTogether_105 : decode cX6_goTogether 105 = .ok (.invokevirtual 124, 3) := by decide +kernel
theorem dX6_goTogether_108 : decode cX6_goTogether 108 = .ok (.iconst 0, 1) := by decide +kernel
theorem dX6_goTogether_109 : decode cX6_goTogether 109 = .ok (.iload 5, 2) := by decide +kernel
theorem dX6_goTogether_111 : decode cX6_goTogether 111 = .ok (.invokevirtual 143, 3) := by decide +kernel
theorem dX6_goTogether_114 : decode cX6_goTogether 114 = .ok (.ifCond .ne 5, 3) := by decide +kernel
theorem dX6_goTogether_117 : decode cX6_goTogether 117 = .ok (.iconst 0, 1) := by decide +kernel
theorem dX6_goTogether_118 : decode cX6_goTogether 118 = .ok (.ireturn, 1) := by decide +kernel
theorem dX6_goTogether_119 : decode cX6_goTogether 119 = .ok (.iinc 4 1, 3) := by decide +kernel
theorem dX6_goTogether_122 : decode cX6_goTogether 122 = .ok (.goto (-54), 3) := by decide +kernel
theorem dX6_goTogether_125 : decode cX6_goTogether 125 = .ok (.iconst 1, 1) := by decide +kernel
theorem dX6_goTogether_126 : decode cX6_goTogether 126 = .ok (.ireturn, 1) := by decide +kernel
theorem dX7_init_0 : decode cX7_init 0 = .ok (.aload_n 0, 1) := by decide +kernel
theorem dX7_init_1 : decode cX7_init 1 = .ok (.invokespecial 1, 3) := by decide +kernel
theorem dX7_init_4 : decode cX7_init 4 = .ok (.aload_n 0, 1) := by decide +kernel
theorem dX7_init_5 : decode cX7_init 5 = .ok (.bipush 80, 2) := by decide +kernel
theorem dX7_init_7 : decode cX7_init 7 = .ok (.newarray .byte, 2) := by decide +kernel
theorem dX7_init_9 : decode cX7_init 9 = .ok (.putfield 9, 3) := by decide +kernel
theorem dX7_init_12 : decode cX7_init 12 = .ok (.aload_n 0, 1) := by decide +kernel
theorem dX7_init_13 : decode cX7_init 13 = .ok (.iconst (-1), 1) := by decide +kernel
theorem dX7_init_14 : decode cX7_init 14 = .ok (.putfield 13, 3) := by decide +kernel
theorem dX7_init_17 : decode cX7_init 17 = .ok (.return_, 1) := by decide +kernel
theorem dX7_isMissing_0 : decode cX7_isMissing 0 = .ok (.aload_n 0, 1) := by decide +kernel
theorem dX7_isMissing_1 : decode cX7_isMissing 1 = .ok (.getfield 13, 3) := by decide +kernel
theorem dX7_isMissing_4 : decode cX7_isMissing 4 = .ok (.ifCond .ge 7, 3) := by decide +kernel
theorem dX7_isMissing_7 : decode cX7_isMissing 7 = .ok (.iconst 1, 1) := by decide +kernel
theorem dX7_isMissing_8 : decode cX7_isMissing 8 = .ok (.goto 4, 3) := by decide +kernel
theorem dX7_isMissing_11 : decode cX7_isMissing 11 = .ok (.iconst 0, 1) := by decide +kernel
theorem dX7_isMissing_12 : decode cX7_isMissing 12 = .ok (.ireturn, 1) := by decide +kernel
theorem dX7_has_0 : decode cX7_has 0 = .ok (.iload_n 1, 1) := by decide +kernel
theorem dX7_has_1 : decode cX7_has 1 = .ok (.ifCond .lt 15, 3) := by decide +kernel
theorem dX7_has_4 : decode cX7_has 4 = .ok (.iload_n 1, 1) := by decide +kernel
theorem dX7_has_5 : decode cX7_has 5 = .ok (.aload_n 0, 1) := by decide +kernel
theorem dX7_has_6 : decode cX7_has 6 = .ok (.getfield 13, 3) := by decide +kernel
theorem dX7_has_9 : decode cX7_has 9 = .ok (.if_icmp .ge 7, 3) := by decide +kernel
theorem dX7_has_12 : decode cX7_has 12 = .ok (.iconst 1, 1) := by decide +kernel
theorem dX7_has_13 : decode cX7_has 13 = .ok (.goto 4, 3) := by decide +kernel
theorem dX7_has_16 : decode cX7_has 16 = .ok (.iconst 0, 1) := by decide +kernel
theorem dX7_has_17 : decode cX7_has 17 = .ok (.ireturn, 1) := by decide +kernel
theorem dX7_begin_0 : decode cX7_begin 0 = .ok (.aload_n 0, 1) := by decide +kernel
theorem dX7_begin_1 : decode cX7_begin 1 = .ok (.iload_n 1, 1) := by decide +kernel
theorem dX7_begin_2 : decode cX7_begin 2 = .ok (.putfield 13, 3) := by decide +kernel
theorem dX7_begin_5 : decode cX7_begin 5 = .ok (.iconst 0, 1) := by decide +kernel
theorem dX7_begin_6 : decode cX7_begin 6 = .ok (.istore_n 2, 1) := by decide +kernel
theorem dX7_begin_7 : decode cX7_begin 7 = .ok (.iload_n 2, 1) := by decide +kernel
theorem dX7_begin_8 : decode cX7_begin 8 = .ok (.bipush 80, 2) := by decide +kernel
theorem dX7_begin_10 : decode cX7_begin 10 = .ok (.if_icmp .ge 17, 3) := by decide +kernel
theorem dX7_begin_13 : decode cX7_begin 13 = .ok (.aload_n 0, 1) := by decide +kernel
theorem dX7_begin_14 : decode cX7_begin 14 = .ok (.getfield 9, 3) := by decide +kernel
theorem dX7_begin_17 : decode cX7_begin 17 = .ok (.iload_n 2, 1) := by decide +kernel
theorem dX7_begin_18 : decode cX7_begin 18 = .ok (.bipush 32, 2) := by decide +kernel
theorem dX7_begin_20 : decode cX7_begin 20 = .ok (.bastore, 1) := by decide +kernel
theorem dX7_begin_21 : decode cX7_begin 21 = .ok (.iinc 2 1, 3) := by decide +kernel
theorem dX7_begin_24 : decode cX7_begin 24 = .ok (.goto (-17), 3) := by decide +kernel
theorem dX7_begin_27 : decode cX7_begin 27 = .ok (.return_, 1) := by decide +kernel
set_option maxRecDepth 20000 in
theorem ggX7_sign_X7_has : GoodIn wsX7_sign wsX7_has := goodIn_r _ [6, 7, 8, 9] (by decide +kernel) (by decide +kernel)
set_option maxRecDepth 20000 in
theorem gX7_sign_X7_has : GoodIn wsX7_sign (wsV RX7 17 RX7 yX7_has wsX7_has) := goodIn_app (goodIn_of _ (by decide +kernel)) ggX7_sign_X7_has
theorem dX7_sign_0 : decode cX7_sign 0 = .ok (.aload_n 0, 1) := by decide +kernel
theorem dX7_sign_1 : decode cX7_sign 1 = .ok (.iload_n 1, 1) := by decide +kernel
theorem dX7_sign_2 : decode cX7_sign 2 = .ok (.invokevirtual 17, 3) := by decide +kernel
theorem dX7_sign_5 : decode cX7_sign 5 = .ok (.ifCond .eq 12, 3) := by decide +kernel
theorem dX7_sign_8 : decode cX7_sign 8 = .ok (.aload_n 0, 1) := by decide +kernel
theorem dX7_sign_9 : decode cX7_sign 9 = .ok (.getfield 9, 3) := by decide +kernel
theorem dX7_sign_12 : decode cX7_sign 12 = .ok (.iload_n 1, 1) := by decide +kernel
theorem dX7_sign_13 : decode cX7_sign 13 = .ok (.baload, 1) := by decide +kernel
theorem dX7_sign_14 : decode cX7_sign 14 = .ok (.goto 6, 3) := by decide +kernel
theorem dX7_sign_17 : decode cX7_sign 17 = .ok (.sipush 1000, 3) := by decide +kernel
theorem dX7_sign_20 : decode cX7_sign 20 = .ok (.ireturn, 1) := by decide +kernel
set_option maxRecDepth 20000 in
theorem ggX7_isFigure_X7_sign : GoodIn wsX7_isFigure wsX7_sign := goodIn_r _ [5, 6, 7, 8, 9, 4, 10, 11, 12, 13] (by decide +kernel) (by decide +kernel)
set_option maxRecDepth 20000 in
theorem gX7_isFigure_X7_sign : GoodIn wsX7_isFigure (wsV RX7 21 RX7 yX7_sign wsX7_sign) := goodIn_app (goodIn_of _ (by decide +kernel)) ggX7_isFigure_X7_sign
theorem dX7_isFigure_0 : decode cX7_isFigure 0 = .ok (.aload_n 0, 1) := by decide +kernel
theorem dX7_isFigure_1 : decode cX7_isFigure 1 = .ok (.iload_n 1, 1) := by decide +kernel
theorem dX7_isFigure_2 : decode cX7_isFigure 2 = .ok (.invokevirtual 21, 3) := by decide +kernel
theorem dX7_isFigure_5 : decode cX7_isFigure 5 = .ok (.bipush 48, 2) := by decide +kernel
theorem dX7_isFigure_7 : decode cX7_isFigure 7 = .ok (.if_icmp .lt 17, 3) := by decide +kernel
theorem dX7_isFigure_10 : decode cX7_isFigure 10 = .ok (.aload_n 0, 1) := by decide +kernel
theorem dX7_isFigure_11 : decode cX7_isFigure 11 = .ok (.iload_n 1, 1) := by decide +kernel
theorem dX7_isFigure_12 : decode cX7_isFigure 12 = .ok (.invokevirtual 21, 3) := by decide +kernel
theorem dX7_isFigure_15 : decode cX7_isFigure 15 = .ok (.bipush 57, 2) := by decide +kernel
theorem dX7_isFigure_17 : decode cX7_isFigure 17 = .ok (.if_icmp .gt 7, 3) := by decide +kernel
theorem dX7_isFigure_20 : decode cX7_isFigure 20 = .ok (.iconst 1, 1) := by decide +kernel
theorem dX7_isFigure_21 : decode cX7_isFigure 21 = .ok (.goto 4, 3) := by decide +kernel
theorem dX7_isFigure_24 : decode cX7_isFigure 24 = .ok (.iconst 0, 1) := by decide +kernel
theorem dX7_isFigure_25 : decode cX7_isFigure 25 = .ok (.ireturn, 1) := by decide +kernel
set_option maxRecDepth 20000 in
theorem ggX7_pastBlanks_X7_sign : GoodIn wsX7_pastBlanks wsX7_sign := goodIn_r _ [6, 7, 8, 9, 10, 5, 11, 1, 12, 13] (by decide +kernel) (by decide +kernel)
set_option maxRecDepth 20000 in
theorem gX7_pastBlanks_X7_sign : GoodIn wsX7_pastBlanks (wsV RX7 21 RX7 yX7_sign wsX7_sign) := goodIn_app (goodIn_of _ (by decide +kernel)) ggX7_pastBlanks_X7_sign
theorem dX7_pastBlanks_0 : decode cX7_pastBlanks 0 = .ok (.iload_n 1, 1) := by decide +kernel
theorem dX7_pastBlanks_1 : decode cX7_pastBlanks 1 = .ok (.istore_n 2, 1) := by decide +kernel
theorem dX7_pastBlanks_2 : decode cX7_pastBlanks 2 = .ok (.iload_n 2, 1) := by decide +kernel
theorem dX7_pastBlanks_3 : decode cX7_pastBlanks 3 = .ok (.aload_n 0, 1) := by decide +kernel
theorem dX7_pastBlanks_4 : decode cX7_pastBlanks 4 = .ok (.getfield 13, 3) := by decide +kernel
theorem dX7_pastBlanks_7 : decode cX7_pastBlanks 7 = .ok (.if_icmp .ge 19, 3) := by decide +kernel
theorem dX7_pastBlanks_10 : decode cX7_pastBlanks 10 = .ok (.aload_n 0, 1) := by decide +kernel
theorem dX7_pastBlanks_11 : decode cX7_pastBlanks 11 = .ok (.iload_n 2, 1) := by decide +kernel
theorem dX7_pastBlanks_12 : decode cX7_pastBlanks 12 = .ok (.invokevirtual 21, 3) := by decide +kernel
theorem dX7_pastBlanks_15 : decode cX7_pastBlanks 15 = .ok (.bipush 32, 2) := by decide +kernel
theorem dX7_pastBlanks_17 : decode cX7_pastBlanks 17 = .ok (.if_icmp .ne 9, 3) := by decide +kernel
theorem dX7_pastBlanks_20 : decode cX7_pastBlanks 20 = .ok (.iinc 2 1, 3) := by decide +kernel
theorem dX7_pastBlanks_23 : decode cX7_pastBlanks 23 = .ok (.goto (-21), 3) := by decide +kernel
theorem dX7_pastBlanks_26 : decode cX7_pastBlanks 26 = .ok (.iload_n 2, 1) := by decide +kernel
theorem dX7_pastBlanks_27 : decode cX7_pastBlanks 27 = .ok (.ireturn, 1) := by decide +kernel
set_option maxRecDepth 20000 in
theorem ggX8_init_X6_init : GoodIn wsX8_init wsX6_init := goodIn_r _ [36, 37, 2, 3, 28, 38, 39, 40, 41, 42, 43, 44, 45, 46, 47, 48, 49, 50, 51, 52, 53, 54, 55, 56, 57, 100, 101, 102, 103, 104, 105, 106, 107, 108, 109, 110, 122, 123, 124, 125, 126, 127] (by decide +kernel) (by decide +kernel)
set_option maxRecDepth 20000 in
theorem gX8_init_X6_init : GoodIn wsX8_init (wsX6_init) := ggX8_init_X6_init
set_option maxRecDepth 20000 in
theorem ggX8_init_X3_init : GoodIn wsX8_init wsX3_init := goodIn_r _ [60, 61, 2, 3, 14, 62, 28, 63, 111, 112] (by decide +kernel) (by decide +kernel)
set_option maxRecDepth 20000 in
theorem gX8_init_X3_init : GoodIn wsX8_init (wsX3_init) := ggX8_init_X3_init
set_option maxRecDepth 20000 in
theorem ggX8_init_X0_init : GoodIn wsX8_init wsX0_init := goodIn_r _ [66, 67, 2, 3, 28, 68, 69, 113, 114, 115] (by decide +kernel) (by decide +kernel)
set_option maxRecDepth 20000 in
theorem gX8_init_X0_init : GoodIn wsX8_init (wsX0_init) := ggX8_init_X0_init
set_option maxRecDepth 20000 in
theorem ggX8_init_X5_init : GoodIn wsX8_init wsX5_init := goodIn_r _ [72, 73, 2, 3, 28, 74, 116, 117] (by decide +kernel) (by decide +kernel)
set_option maxRecDepth 20000 in
theorem gX8_init_X5_init : GoodIn wsX8_init (wsX5_init) := ggX8_init_X5_init
set_option maxRecDepth 20000 in
theorem ggX8_init_X4_init : GoodIn wsX8_init wsX4_init := goodIn_r _ [77, 78, 2, 3, 28, 79, 80, 118, 119] (by decide +kernel) (by decide +kernel)
set_option maxRecDepth 20000 in
theorem gX8_init_X4_init : GoodIn wsX8_init (wsX4_init) := ggX8_init_X4_init
set_option maxRecDepth 20000 in
theorem ggX8_init_X7_init : GoodIn wsX8_init wsX7_init := goodIn_r _ [83, 84, 2, 3, 85, 86, 87, 120, 121] (by decide +kernel) (by decide +kernel)
set_option maxRecDepth 20000 in
theorem gX8_init_X7_init : GoodIn wsX8_init (wsX7_init) := ggX8_init_X7_init
theorem dX8_init_0 : decode cX8_init 0 = .ok (.aload_n 0, 1) := by decide +kernel
theorem dX8_init_1 : decode cX8_init 1 = .ok (.invokespecial 1, 3) := by decide +kernel
theorem dX8_init_4 : decode cX8_init 4 = .ok (.aload_n 0, 1) := by decide +kernel
theorem dX8_init_5 : decode cX8_init 5 = .ok (.bipush 6, 2) := by decide +kernel
theorem dX8_init_7 : decode cX8_init 7 = .ok (.anewarray 9, 3) := by decide +kernel
theorem dX8_init_10 : decode cX8_init 10 = .ok (.putfield 11, 3) := by decide +kernel
theorem dX8_init_13 : decode cX8_init 13 = .ok (.aload_n 0, 1) := by decide +kernel
theorem dX8_init_14 : decode cX8_init 14 = .ok (.iconst 4, 1) := by decide +kernel
theorem dX8_init_15 : decode cX8_init 15 = .ok (.anewarray 15, 3) := by decide +kernel
theorem dX8_init_18 : decode cX8_init 18 = .ok (.putfield 17, 3) := by decide +kernel
theorem dX8_init_21 : decode cX8_init 21 = .ok (.aload_n 0, 1) := by decide +kernel
theorem dX8_init_22 : decode cX8_init 22 = .ok (.new 21, 3) := by decide +kernel
theorem dX8_init_25 : decode cX8_init 25 = .ok (.dup, 1) := by decide +kernel
theorem dX8_init_26 : decode cX8_init 26 = .ok (.invokespecial 23, 3) := by decide +kernel
theorem dX8_init_29 : decode cX8_init 29 = .ok (.putfield 24, 3) := by decide +kernel
theorem dX8_init_32 : decode cX8_init 32 = .ok (.aload_n 0, 1) := by decide +kernel
theorem dX8_init_33 : decode cX8_init 33 = .ok (.new 21, 3) := by decide +kernel
theorem dX8_init_36 : decode cX8_init 36 = .ok (.dup, 1) := by decide +kernel
theorem dX8_init_37 : decode cX8_init 37 = .ok (.invokespecial 23, 3) := by decide +kernel
theorem dX8_init_40 : decode cX8_init 40 = .ok (.putfield 28, 3) := by decide +kernel
theorem dX8_init_43 : decode cX8_init 43 = .ok (.aload_n 0, 1) := by decide +kernel
theorem dX8_init_44 : decode cX8_init 44 = .ok (.iconst 3, 1) := by decide +kernel
theorem dX8_init_45 : decode cX8_init 45 = .ok (.anewarray 21, 3) := by decide +kernel
theorem dX8_init_48 : decode cX8_init 48 = .ok (.putfield 31, 3) := by decide +kernel
theorem dX8_init_51 : decode cX8_init 51 = .ok (.aload_n 0, 1) := by decide +kernel
theorem dX8_init_52 : decode cX8_init 52 = .ok (.iconst 3, 1) := by decide +kernel
theorem dX8_init_53 : decode cX8_init 53 = .ok (.newarray .boolean, 2) := by decide +kernel
theorem dX8_init_55 : decode cX8_init 55 = .ok (.putfield 35, 3) := by decide +kernel
theorem dX8_init_58 : decode cX8_init 58 = .ok (.aload_n 0, 1) := by decide +kernel
theorem dX8_init_59 : decode cX8_init 59 = .ok (.new 39, 3) := by decide +kernel
theorem dX8_init_62 : decode cX8_init 62 = .ok (.dup, 1) := by decide +kernel
theorem dX8_init_63 : decode cX8_init 63 = .ok (.invokespecial 41, 3) := by decide +kernel
theorem dX8_init_66 : decode cX8_init 66 = .ok (.putfield 42, 3) := by decide +kernel
theorem dX8_init_69 : decode cX8_init 69 = .ok (.aload_n 0, 1) := by decide +kernel
theorem dX8_init_70 : decode cX8_init 70 = .ok (.new 46, 3) := by decide +kernel
theorem dX8_init_73 : decode cX8_init 73 = .ok (.dup, 1) := by decide +kernel
theorem dX8_init_74 : decode cX8_init 74 = .ok (.invokespecial 48, 3) := by decide +kernel
theorem dX8_init_77 : decode cX8_init 77 = .ok (.putfield 49, 3) := by decide +kernel
theorem dX8_init_80 : decode cX8_init 80 = .ok (.aload_n 0, 1) := by decide +kernel
theorem dX8_init_81 : decode cX8_init 81 = .ok (.new 53, 3) := by decide +kernel
theorem dX8_init_84 : decode cX8_init 84 = .ok (.dup, 1) := by decide +kernel
theorem dX8_init_85 : decode cX8_init 85 = .ok (.invokespecial 55, 3) := by decide +kernel
theorem dX8_init_88 : decode cX8_init 88 = .ok (.putfield 56, 3) := by decide +kernel
theorem dX8_init_91 : decode cX8_init 91 = .ok (.aload_n 0, 1) := by decide +kernel
theorem dX8_init_92 : decode cX8_init 92 = .ok (.bipush 6, 2) := by decide +kernel
theorem dX8_init_94 : decode cX8_init 94 = .ok (.newarray .int, 2) := by decide +kernel
theorem dX8_init_96 : decode cX8_init 96 = .ok (.putfield 60, 3) := by decide +kernel
theorem dX8_init_99 : decode cX8_init 99 = .ok (.iconst 0, 1) := by decide +kernel
theorem dX8_init_100 : decode cX8_init 100 = .ok (.istore_n 1, 1) := by decide +kernel
theorem dX8_init_101 : decode cX8_init 101 = .ok (.iload_n 1, 1) := by decide +kernel
theorem dX8_init_102 : decode cX8_init 102 = .ok (.bipush 6, 2) := by decide +kernel
theorem dX8_init_104 : decode cX8_init 104 = .ok (.if_icmp .ge 22, 3) := by decide +kernel
theorem dX8_init_107 : decode cX8_init 107 = .ok (.aload_n 0, 1) := by decide +kernel
theorem dX8_init_108 : decode cX8_init 108 = .ok (.getfield 11, 3) := by decide +kernel
theorem dX8_init_111 : decode cX8_init 111 = .ok (.iload_n 1, 1) := by decide +kernel
theorem dX8_init_112 : decode cX8_init 112 = .ok (.new 9, 3) := by decide +kernel
theorem dX8_init_115 : decode cX8_init 115 = .ok (.dup, 1) := by decide +kernel
theorem dX8_init_116 : decode cX8_init 116 = .ok (.invokespecial 64, 3) := by decide +kernel
theorem dX8_init_119 : decode cX8_init 119 = .ok (.aastore, 1) := by decide +kernel
theorem dX8_init_120 : decode cX8_init 120 = .ok (.iinc 1 1, 3) := by decide +kernel
theorem dX8_init_123 : decode cX8_init 123 = .ok (.goto (-22), 3) := by decide +kernel
theorem dX8_init_126 : decode cX8_init 126 = .ok (.iconst 0, 1) := by decide +kernel
theorem dX8_init_127 : decode cX8_init 127 = .ok (.istore_n 1, 1) := by decide +kernel
theorem dX8_init_128 : decode cX8_init 128 = .ok (.iload_n 1, 1) := by decide +kernel
theorem dX8_init_129 : decode cX8_init 129 = .ok (.iconst 4, 1) := by decide +kernel
theorem dX8_init_130 : decode cX8_init 130 = .ok (.if_icmp .ge 22, 3) := by decide +kernel
theorem dX8_init_133 : decode cX8_init 133 = .ok (.aload_n 0, 1) := by decide +kernel
theorem dX8_init_134 : decode cX8_init 134 = .ok (.getfield 17, 3) := by decide +kernel
theorem dX8_init_137 : decode cX8_init 137 = .ok (.iload_n 1, 1) := by decide +kernel
theorem dX8_init_138 : decode cX8_init 138 = .ok (.new 15, 3) := by decide +kernel
theorem dX8_init_141 : decode cX8_init 141 = .ok (.dup, 1) := by decide +kernel
theorem dX8_init_142 : decode cX8_init 142 = .ok (.invokespecial 65, 3) := by decide +kernel
theorem dX8_init_145 : decode cX8_init 145 = .ok (.aastore, 1) := by decide +kernel
theorem dX8_init_146 : decode cX8_init 146 = .ok (.iinc 1 1, 3) := by decide +kernel
theorem dX8_init_149 : decode cX8_init 149 = .ok (.goto (-21), 3) := by decide +kernel
theorem dX8_init_152 : decode cX8_init 152 = .ok (.iconst 0, 1) := by decide +kernel
theorem dX8_init_153 : decode cX8_init 153 = .ok (.istore_n 1, 1) := by decide +kernel
theorem dX8_init_154 : decode cX8_init 154 = .ok (.iload_n 1, 1) := by decide +kernel
theorem dX8_init_155 : decode cX8_init 155 = .ok (.iconst 3, 1) := by decide +kernel
theorem dX8_init_156 : decode cX8_init 156 = .ok (.if_icmp .ge 22, 3) := by decide +kernel
theorem dX8_init_159 : decode cX8_init 159 = .ok (.aload_n 0, 1) := by decide +kernel
theorem dX8_init_160 : decode cX8_init 160 = .ok (.getfield 31, 3) := by decide +kernel
theorem dX8_init_163 : decode cX8_init 163 = .ok (.iload_n 1, 1) := by decide +kernel
theorem dX8_init_164 : decode cX8_init 164 = .ok (.new 21, 3) := by decide +kernel
theorem dX8_init_167 : decode cX8_init 167 = .ok (.dup, 1) := by decide +kernel
theorem dX8_init_168 : decode cX8_init 168 = .ok (.invokespecial 23, 3) := by decide +kernel
theorem dX8_init_171 : decode cX8_init 171 = .ok (.aastore, 1) := by decide +kernel
theorem dX8_init_172 : decode cX8_init 172 = .ok (.iinc 1 1, 3) := by decide +kernel
theorem dX8_init_175 : decode cX8_init 175 = .ok (.goto (-21), 3) := by decide +kernel
theorem dX8_init_178 : decode cX8_init 178 = .ok (.return_, 1) := by decide +kernel
set_option maxRecDepth 20000 in
theorem ggX8_at_X8_isRow : GoodIn wsX8_at wsX8_isRow := goodIn_r _ [7] (by decide +kernel) (by decide +kernel)
set_option maxRecDepth 20000 in
theorem gX8_at_X8_isRow : GoodIn wsX8_at (va_wsS RX8 66 yX8_isRow wsX8_isRow) := goodIn_app (goodIn_of _ (by decide +kernel)) ggX8_at_X8_isRow
set_option maxRecDepth 20000 in
theorem ggX8_at_X4_isMissing : GoodIn wsX8_at wsX4_isMissing := goodIn_r _ [12, 13, 36, 37] (by decide +kernel) (by decide +kernel)
set_option maxRecDepth 20000 in
theorem gX8_at_X4_isMissing : GoodIn wsX8_at (wsV RX8 85 RX4 yX4_isMissing wsX4_isMissing) := goodIn_app (goodIn_of _ (by decide +kernel)) ggX8_at_X4_isMissing
set_option maxRecDepth 20000 in
theorem ggX8_at_X8_find : GoodIn wsX8_at wsX8_find := goodIn_r _ [17, 18, 19, 24, 25, 26, 27, 28, 29, 30, 31, 32, 33, 34, 35] (by decide +kernel) (by decide +kernel)
set_option maxRecDepth 20000 in
theorem gX8_at_X8_find : GoodIn wsX8_at (wsV RX8 70 RX8 yX8_find wsX8_find) := goodIn_app (goodIn_of _ (by decide +kernel)) ggX8_at_X8_find
set_option maxRecDepth 20000 in
theorem ggX8_at_X4_has : GoodIn wsX8_at wsX4_has := goodIn_r _ [23, 13, 36, 37] (by decide +kernel) (by decide +kernel)
set_option maxRecDepth 20000 in
theorem gX8_at_X4_has : GoodIn wsX8_at (wsV RX8 89 RX4 yX4_has wsX4_has) := goodIn_app (goodIn_of _ (by decide +kernel)) ggX8_at_X4_has
theorem dX8_at_0 : decode cX8_at 0 = .ok (.iload_n 1, 1) := by decide +kernel
theorem dX8_at_1 : decode cX8_at 1 = .ok (.invokestatic 66, 3) := by decide +kernel
theorem dX8_at_4 : decode cX8_at 4 = .ok (.ifCond .ne 5, 3) := by decide +kernel
theorem dX8_at_7 : decode cX8_at 7 = .ok (.iconst (-1), 1) := by decide +kernel
theorem dX8_at_8 : decode cX8_at 8 = .ok (.ireturn, 1) := by decide +kernel
theorem dX8_at_9 : decode cX8_at 9 = .ok (.aload_n 0, 1) := by decide +kernel
theorem dX8_at_10 : decode cX8_at 10 = .ok (.getfield 11, 3) := by decide +kernel
theorem dX8_at_13 : decode cX8_at 13 = .ok (.iload_n 1, 1) := by decide +kernel
theorem dX8_at_14 : decode cX8_at 14 = .ok (.aaload, 1) := by decide +kernel
theorem dX8_at_15 : decode cX8_at 15 = .ok (.astore_n 3, 1) := by decide +kernel
theorem dX8_at_16 : decode cX8_at 16 = .ok (.aload_n 3, 1) := by decide +kernel
theorem dX8_at_17 : decode cX8_at 17 = .ok (.invokevirtual 85, 3) := by decide +kernel
theorem dX8_at_20 : decode cX8_at 20 = .ok (.ifCond .eq 9, 3) := by decide +kernel
theorem dX8_at_23 : decode cX8_at 23 = .ok (.aload_n 0, 1) := by decide +kernel
theorem dX8_at_24 : decode cX8_at 24 = .ok (.iconst 1, 1) := by decide +kernel
theorem dX8_at_25 : decode cX8_at 25 = .ok (.invokevirtual 70, 3) := by decide +kernel
theorem dX8_at_28 : decode cX8_at 28 = .ok (.ireturn, 1) := by decide +kernel
theorem dX8_at_29 : decode cX8_at 29 = .ok (.aload_n 3, 1) := by decide +kernel
theorem dX8_at_30 : decode cX8_at 30 = .ok (.iload_n 2, 1) := by decide +kernel
theorem dX8_at_31 : decode cX8_at 31 = .ok (.invokevirtual 89, 3) := by decide +kernel
theorem dX8_at_34 : decode cX8_at 34 = .ok (.ifCond .ne 9, 3) := by decide +kernel
theorem dX8_at_37 : decode cX8_at 37 = .ok (.aload_n 0, 1) := by decide +kernel
theorem dX8_at_38 : decode cX8_at 38 = .ok (.iconst 2, 1) := by decide +kernel
theorem dX8_at_39 : decode cX8_at 39 = .ok (.invokevirtual 70, 3) := by decide +kernel
theorem dX8_at_42 : decode cX8_at 42 = .ok (.ireturn, 1) := by decide +kernel
theorem dX8_at_43 : decode cX8_at 43 = .ok (.aload_n 0, 1) := by decide +kernel
theorem dX8_at_44 : decode cX8_at 44 = .ok (.aload_n 3, 1) := by decide +kernel
theorem dX8_at_45 : decode cX8_at 45 = .ok (.getfield 82, 3) := by decide +kernel
theorem dX8_at_48 : decode cX8_at 48 = .ok (.iload_n 2, 1) := by decide +kernel
theorem dX8_at_49 : decode cX8_at 49 = .ok (.iaload, 1) := by decide +kernel
theorem dX8_at_50 : decode cX8_at 50 = .ok (.putfield 92, 3) := by decide +kernel
theorem dX8_at_53 : decode cX8_at 53 = .ok (.iconst 1, 1) := by decide +kernel
theorem dX8_at_54 : decode cX8_at 54 = .ok (.ireturn, 1) := by decide +kernel
set_option maxRecDepth 20000 in
theorem ggX8_text_X8_isText : GoodIn wsX8_text wsX8_isText := goodIn_r _ [5] (by decide +kernel) (by decide +kernel)
set_option maxRecDepth 20000 in
theorem gX8_text_X8_isText : GoodIn wsX8_text (va_wsS RX8 113 yX8_isText wsX8_isText) := goodIn_app (goodIn_of _ (by decide +kernel)) ggX8_text_X8_isText
set_option maxRecDepth 20000 in
theorem ggX8_text_X8_find : GoodIn wsX8_text wsX8_find := goodIn_r _ [9, 10, 11, 19, 20, 21, 22, 23, 24, 25, 26, 27, 28, 29, 30] (by decide +kernel) (by decide +kernel)
set_option maxRecDepth 20000 in
theorem gX8_text_X8_find : GoodIn wsX8_text (wsV RX8 70 RX8 yX8_find wsX8_find) := goodIn_app (goodIn_of _ (by decide +kernel)) ggX8_text_X8_find
set_option maxRecDepth 20000 in
theorem ggX8_text_X7_begin : GoodIn wsX8_text wsX7_begin := goodIn_r _ [16, 17, 18, 31, 32] (by decide +kernel) (by decide +kernel)
set_option maxRecDepth 20000 in
theorem gX8_text_X7_begin : GoodIn wsX8_text (wsV RX8 116 RX7 yX7_begin wsX7_begin) := goodIn_app (goodIn_of _ (by decide +kernel)) ggX8_text_X7_begin
theorem dX8_text_0 : decode cX8_text 0 = .ok (.iload_n 1, 1) := by decide +kernel
theorem dX8_text_1 : decode cX8_text 1 = .ok (.invokestatic 113, 3) := by decide +kernel
theorem dX8_text_4 : decode cX8_text 4 = .ok (.ifCond .eq 9, 3) := by decide +kernel
theorem dX8_text_7 : decode cX8_text 7 = .ok (.iload_n 2, 1) := by decide +kernel
theorem dX8_text_8 : decode cX8_text 8 = .ok (.bipush 80, 2) := by decide +kernel
theorem dX8_text_10 : decode cX8_text 10 = .ok (.if_icmp .le 5, 3) := by decide +kernel
theorem dX8_text_13 : decode cX8_text 13 = .ok (.iconst (-1), 1) := by decide +kernel
theorem dX8_text_14 : decode cX8_text 14 = .ok (.ireturn, 1) := by decide +kernel
theorem dX8_text_15 : decode cX8_text 15 = .ok (.iload_n 2, 1) := by decide +kernel
theorem dX8_text_16 : decode cX8_text 16 = .ok (.ifCond .ge 9, 3) := by decide +kernel
theorem dX8_text_19 : decode cX8_text 19 = .ok (.aload_n 0, 1) := by decide +kernel
theorem dX8_text_20 : decode cX8_text 20 = .ok (.iconst 5, 1) := by decide +kernel
theorem dX8_text_21 : decode cX8_text 21 = .ok (.invokevirtual 70, 3) := by decide +kernel
theorem dX8_text_24 : decode cX8_text 24 = .ok (.ireturn, 1) := by decide +kernel
theorem dX8_text_25 : decode cX8_text 25 = .ok (.aload_n 0, 1) := by decide +kernel
theorem dX8_text_26 : decode cX8_text 26 = .ok (.getfield 17, 3) := by decide +kernel
theorem dX8_text_29 : decode cX8_text 29 = .ok (.iload_n 1, 1) := by decide +kernel
theorem dX8_text_30 : decode cX8_text 30 = .ok (.aaload, 1) := by decide +kernel
theorem dX8_text_31 : decode cX8_text 31 = .ok (.iload_n 2, 1) := by decide +kernel
theorem dX8_text_32 : decode cX8_text 32 = .ok (.invokevirtual 116, 3) := by decide +kernel
theorem dX8_text_35 : decode cX8_text 35 = .ok (.iload_n 2, 1) := by decide +kernel
theorem dX8_text_36 : decode cX8_text 36 = .ok (.ireturn, 1) := by decide +kernel
set_option maxRecDepth 20000 in
theorem ggX8_put_X8_isText : GoodIn wsX8_put wsX8_isText := goodIn_r _ [6] (by decide +kernel) (by decide +kernel)
set_option maxRecDepth 20000 in
theorem gX8_put_X8_isText : GoodIn wsX8_put (va_wsS RX8 113 yX8_isText wsX8_isText) := goodIn_app (goodIn_of _ (by decide +kernel)) ggX8_put_X8_isText
set_option maxRecDepth 20000 in
theorem ggX8_put_X7_isMissing : GoodIn wsX8_put wsX7_isMissing := goodIn_r _ [11, 12, 35, 36] (by decide +kernel) (by decide +kernel)
set_option maxRecDepth 20000 in
theorem gX8_put_X7_isMissing : GoodIn wsX8_put (wsV RX8 117 RX7 yX7_isMissing wsX7_isMissing) := goodIn_app (goodIn_of _ (by decide +kernel)) ggX8_put_X7_isMissing
set_option maxRecDepth 20000 in
theorem ggX8_put_X8_find : GoodIn wsX8_put wsX8_find := goodIn_r _ [16, 17, 18, 23, 24, 25, 26, 27, 28, 29, 30, 31, 32, 33, 34] (by decide +kernel) (by decide +kernel)
set_option maxRecDepth 20000 in
theorem gX8_put_X8_find : GoodIn wsX8_put (wsV RX8 70 RX8 yX8_find wsX8_find) := goodIn_app (goodIn_of _ (by decide +kernel)) ggX8_put_X8_find
set_option maxRecDepth 20000 in
theorem ggX8_put_X7_has : GoodIn wsX8_put wsX7_has := goodIn_r _ [22, 12, 35, 36] (by decide +kernel) (by decide +kernel)
set_option maxRecDepth 20000 in
theorem gX8_put_X7_has : GoodIn wsX8_put (wsV RX8 118 RX7 yX7_has wsX7_has) := goodIn_app (goodIn_of _ (by decide +kernel)) ggX8_put_X7_has
theorem dX8_put_0 : decode cX8_put 0 = .ok (.iload_n 1, 1) := by decide +kernel
theorem dX8_put_1 : decode cX8_put 1 = .ok (.invokestatic 113, 3) := by decide +kernel
theorem dX8_put_4 : decode cX8_put 4 = .ok (.ifCond .ne 5, 3) := by decide +kernel
theorem dX8_put_7 : decode cX8_put 7 = .ok (.iconst (-1), 1) := by decide +kernel
theorem dX8_put_8 : decode cX8_put 8 = .ok (.ireturn, 1) := by decide +kernel
theorem dX8_put_9 : decode cX8_put 9 = .ok (.aload_n 0, 1) := by decide +kernel
theorem dX8_put_10 : decode cX8_put 10 = .ok (.getfield 17, 3) := by decide +kernel
theorem dX8_put_13 : decode cX8_put 13 = .ok (.iload_n 1, 1) := by decide +kernel
theorem dX8_put_14 : decode cX8_put 14 = .ok (.aaload, 1) := by decide +kernel
theorem dX8_put_15 : decode cX8_put 15 = .ok (.astore 4, 2) := by decide +kernel
theorem dX8_put_17 : decode cX8_put 17 = .ok (.aload 4, 2) := by decide +kernel
theorem dX8_put_19 : decode cX8_put 19 = .ok (.invokevirtual 117, 3) := by decide +kernel
theorem dX8_put_22 : decode cX8_put 22 = .ok (.ifCond .eq 9, 3) := by decide +kernel
theorem dX8_put_25 : decode cX8_put 25 = .ok (.aload_n 0, 1) := by decide +kernel
theorem dX8_put_26 : decode cX8_put 26 = .ok (.iconst 1, 1) := by decide +kernel
theorem dX8_put_27 : decode cX8_put 27 = .ok (.invokevirtual 70, 3) := by decide +kernel
theorem dX8_put_30 : decode cX8_put 30 = .ok (.ireturn, 1) := by decide +kernel
theorem dX8_put_31 : decode cX8_put 31 = .ok (.aload 4, 2) := by decide +kernel
theorem dX8_put_33 : decode cX8_put 33 = .ok (.iload_n 2, 1) := by decide +kernel
theorem dX8_put_34 : decode cX8_put 34 = .ok (.invokevirtual 118, 3) := by decide +kernel
theorem dX8_put_37 : decode cX8_put 37 = .ok (.ifCond .ne 9, 3) := by decide +kernel
theorem dX8_put_40 : decode cX8_put 40 = .ok (.aload_n 0, 1) := by decide +kernel
theorem dX8_put_41 : decode cX8_put 41 = .ok (.iconst 2, 1) := by decide +kernel
theorem dX8_put_42 : decode cX8_put 42 = .ok (.invokevirtual 70, 3) := by decide +kernel
theorem dX8_put_45 : decode cX8_put 45 = .ok (.ireturn, 1) := by decide +kernel
theorem dX8_put_46 : decode cX8_put 46 = .ok (.aload 4, 2) := by decide +kernel
theorem dX8_put_48 : decode cX8_put 48 = .ok (.getfield 119, 3) := by decide +kernel
theorem dX8_put_51 : decode cX8_put 51 = .ok (.iload_n 2, 1) := by decide +kernel
theorem dX8_put_52 : decode cX8_put 52 = .ok (.baload, 1) := by decide +kernel
theorem dX8_put_53 : decode cX8_put 53 = .ok (.istore 5, 2) := by decide +kernel
theorem dX8_put_55 : decode cX8_put 55 = .ok (.aload 4, 2) := by decide +kernel
theorem dX8_put_57 : decode cX8_put 57 = .ok (.getfield 119, 3) := by decide +kernel
theorem dX8_put_60 : decode cX8_put 60 = .ok (.iload_n 2, 1) := by decide +kernel
theorem dX8_put_61 : decode cX8_put 61 = .ok (.iload_n 3, 1) := by decide +kernel
theorem dX8_put_62 : decode cX8_put 62 = .ok (.i2b, 1) := by decide +kernel
theorem dX8_put_63 : decode cX8_put 63 = .ok (.bastore, 1) := by decide +kernel
theorem dX8_put_64 : decode cX8_put 64 = .ok (.iload 5, 2) := by decide +kernel
theorem dX8_put_66 : decode cX8_put 66 = .ok (.sipush 1000, 3) := by decide +kernel
theorem dX8_put_69 : decode cX8_put 69 = .ok (.iadd, 1) := by decide +kernel
theorem dX8_put_70 : decode cX8_put 70 = .ok (.ireturn, 1) := by decide +kernel
set_option maxRecDepth 20000 in
theorem ggX8_fault_X8_isText : GoodIn wsX8_fault wsX8_isText := goodIn_r _ [6] (by decide +kernel) (by decide +kernel)
set_option maxRecDepth 20000 in
theorem gX8_fault_X8_isText : GoodIn wsX8_fault (va_wsS RX8 113 yX8_isText wsX8_isText) := goodIn_app (goodIn_of _ (by decide +kernel)) ggX8_fault_X8_isText
set_option maxRecDepth 20000 in
theorem ggX8_fault_X7_isMissing : GoodIn wsX8_fault wsX7_isMissing := goodIn_r _ [11, 12, 83, 84] (by decide +kernel) (by decide +kernel)
set_option maxRecDepth 20000 in
theorem gX8_fault_X7_isMissing : GoodIn wsX8_fault (wsV RX8 117 RX7 yX7_isMissing wsX7_isMissing) := goodIn_app (goodIn_of _ (by decide +kernel)) ggX8_fault_X7_isMissing
set_option maxRecDepth 20000 in
theorem ggX8_fault_X8_find : GoodIn wsX8_fault wsX8_find := goodIn_r _ [16, 17, 18, 71, 72, 73, 74, 75, 76, 77, 78, 79, 80, 81, 82] (by decide +kernel) (by decide +kernel)
set_option maxRecDepth 20000 in
theorem gX8_fault_X8_find : GoodIn wsX8_fault (wsV RX8 70 RX8 yX8_find wsX8_find) := goodIn_app (goodIn_of _ (by decide +kernel)) ggX8_fault_X8_find
set_option maxRecDepth 20000 in
theorem ggX8_fault_X6_readFrom : GoodIn wsX8_fault wsX6_readFrom := goodIn_r _ [23, 24, 25, 26, 27, 28, 29, 30, 31, 32, 33, 34, 35, 36, 37, 38, 10, 39, 12, 40, 41, 42, 43, 44, 45, 46, 47, 48, 49, 50, 51, 52, 53, 54, 55, 56, 22, 57, 58, 59, 60, 61, 62, 63, 64, 65, 66, 67, 68, 69, 70, 85, 86, 87, 88, 89, 90, 91, 92, 93, 94, 95, 96, 97, 98, 99, 100, 101, 83, 84] (by decide +kernel) (by decide +kernel)
set_option maxRecDepth 20000 in
theorem gX8_fault_X6_readFrom : GoodIn wsX8_fault (wsV RX8 123 RX6 yX6_readFrom wsX6_readFrom) := goodIn_app (goodIn_of _ (by decide +kernel)) ggX8_fault_X6_readFrom
theorem dX8_fault_0 : decode cX8_fault 0 = .ok (.iload_n 1, 1) := by decide +kernel
theorem dX8_fault_1 : decode cX8_fault 1 = .ok (.invokestatic 113, 3) := by decide +kernel
theorem dX8_fault_4 : decode cX8_fault 4 = .ok (.ifCond .ne 5, 3) := by decide +kernel
theorem dX8_fault_7 : decode cX8_fault 7 = .ok (.iconst (-1), 1) := by decide +kernel
theorem dX8_fault_8 : decode cX8_fault 8 = .ok (.ireturn, 1) := by decide +kernel
theorem dX8_fault_9 : decode cX8_fault 9 = .ok (.aload_n 0, 1) := by decide +kernel
theorem dX8_fault_10 : decode cX8_fault 10 = .ok (.getfield 17, 3) := by decide +kernel
theorem dX8_fault_13 : decode cX8_fault 13 = .ok (.iload_n 1, 1) := by decide +kernel
theorem dX8_fault_14 : decode cX8_fault 14 = .ok (.aaload, 1) := by decide +kernel
theorem dX8_fault_15 : decode cX8_fault 15 = .ok (.invokevirtual 117, 3) := by decide +kernel
theorem dX8_fault_18 : decode cX8_fault 18 = .ok (.ifCond .eq 9, 3) := by decide +kernel
theorem dX8_fault_21 : decode cX8_fault 21 = .ok (.aload_n 0, 1) := by decide +kernel
theorem dX8_fault_22 : decode cX8_fault 22 = .ok (.iconst 1, 1) := by decide +kernel
theorem dX8_fault_23 : decode cX8_fault 23 = .ok (.invokevirtual 70, 3) := by decide +kernel
theorem dX8_fault_26 : decode cX8_fault 26 = .ok (.ireturn, 1) := by decide +kernel
theorem dX8_fault_27 : decode cX8_fault 27 = .ok (.aload_n 0, 1) := by decide +kernel
theorem dX8_fault_28 : decode cX8_fault 28 = .ok (.getfield 28, 3) := by decide +kernel
theorem dX8_fault_31 : decode cX8_fault 31 = .ok (.aload_n 0, 1) := by decide +kernel
theorem dX8_fault_32 : decode cX8_fault 32 = .ok (.getfield 17, 3) := by decide +kernel
theorem dX8_fault_35 : decode cX8_fault 35 = .ok (.iload_n 1, 1) := by decide +kernel
theorem dX8_fault_36 : decode cX8_fault 36 = .ok (.aaload, 1) := by decide +kernel
theorem dX8_fault_37 : decode cX8_fault 37 = .ok (.invokevirtual 123, 3) := by decide +kernel
theorem dX8_fault_40 : decode cX8_fault 40 = .ok (.ireturn, 1) := by decide +kernel
set_option maxRecDepth 20000 in
theorem ggX8_street_X8_isText : GoodIn wsX8_street wsX8_isText := goodIn_r _ [9] (by decide +kernel) (by decide +kernel)
set_option maxRecDepth 20000 in
theorem gX8_street_X8_isText : GoodIn wsX8_street (va_wsS RX8 113 yX8_isText wsX8_isText) := goodIn_app (goodIn_of _ (by decide +kernel)) ggX8_street_X8_isText
set_option maxRecDepth 20000 in
theorem ggX8_street_X7_isMissing : GoodIn wsX8_street wsX7_isMissing := goodIn_r _ [14, 15, 117, 118] (by decide +kernel) (by decide +kernel)
set_option maxRecDepth 20000 in
theorem gX8_street_X7_isMissing : GoodIn wsX8_street (wsV RX8 117 RX7 yX7_isMissing wsX7_isMissing) := goodIn_app (goodIn_of _ (by decide +kernel)) ggX8_street_X7_isMissing
set_option maxRecDepth 20000 in
theorem ggX8_street_X8_find : GoodIn wsX8_street wsX8_find := goodIn_r _ [19, 20, 21, 94, 95, 96, 97, 98, 99, 100, 101, 102, 103, 104, 105] (by decide +kernel) (by decide +kernel)
set_option maxRecDepth 20000 in
theorem gX8_street_X8_find : GoodIn wsX8_street (wsV RX8 70 RX8 yX8_find wsX8_find) := goodIn_app (goodIn_of _ (by decide +kernel)) ggX8_street_X8_find
set_option maxRecDepth 20000 in
theorem ggX8_street_X6_readFrom : GoodIn wsX8_street wsX6_readFrom := goodIn_r _ [26, 27, 28, 29, 30, 31, 32, 33, 34, 35, 36, 37, 38, 39, 40, 41, 13, 42, 15, 43, 44, 45, 46, 47, 48, 49, 50, 51, 52, 53, 54, 55, 56, 57, 58, 59, 25, 60, 61, 62, 63, 64, 65, 66, 67, 68, 69, 70, 71, 72, 73, 106, 107, 108, 109, 110, 111, 112, 113, 114, 115, 116, 119, 120, 121, 122, 123, 124, 117, 118] (by decide +kernel) (by decide +kernel)
set_option maxRecDepth 20000 in
theorem gX8_street_X6_readFrom : GoodIn wsX8_street (wsV RX8 123 RX6 yX6_readFrom wsX6_readFrom) := goodIn_app (goodIn_of _ (by decide +kernel)) ggX8_street_X6_readFrom
set_option maxRecDepth 20000 in
theorem ggX8_street_X6_become : GoodIn wsX8_street wsX6_become := goodIn_r _ [77, 27, 28, 29, 31, 78, 79, 80, 81, 61, 67, 68, 82, 83, 84, 30, 85, 86, 87, 35, 88, 89, 90, 91, 92, 93, 37, 38, 106, 107, 108, 109, 110, 111, 112, 113, 114, 115, 116, 119, 120, 121, 122, 123, 124] (by decide +kernel) (by decide +kernel)
set_option maxRecDepth 20000 in
theorem gX8_street_X6_become : GoodIn wsX8_street (wsV RX8 127 RX6 yX6_become wsX6_become) := goodIn_app (goodIn_of _ (by decide +kernel)) ggX8_street_X6_become
theorem dX8_street_0 : decode cX8_street 0 = .ok (.iload_n 1, 1) := by decide +kernel
theorem dX8_street_1 : decode cX8_street 1 = .ok (.invokestatic 113, 3) := by decide +kernel
theorem dX8_street_4 : decode cX8_street 4 = .ok (.ifCond .ne 5, 3) := by decide +kernel
theorem dX8_street_7 : decode cX8_street 7 = .ok (.iconst (-1), 1) := by decide +kernel
theorem dX8_street_8 : decode cX8_street 8 = .ok (.ireturn, 1) := by decide +kernel
theorem dX8_street_9 : decode cX8_street 9 = .ok (.aload_n 0, 1) := by decide +kernel
theorem dX8_street_10 : decode cX8_street 10 = .ok (.getfield 17, 3) := by decide +kernel
theorem dX8_street_13 : decode cX8_street 13 = .ok (.iload_n 1, 1) := by decide +kernel
theorem dX8_street_14 : decode cX8_street 14 = .ok (.aaload, 1) := by decide +kernel
theorem dX8_street_15 : decode cX8_street 15 = .ok (.invokevirtual 117, 3) := by decide +kernel
theorem dX8_street_18 : decode cX8_street 18 = .ok (.ifCond .eq 9, 3) := by decide +kernel
theorem dX8_street_21 : decode cX8_street 21 = .ok (.aload_n 0, 1) := by decide +kernel
theorem dX8_street_22 : decode cX8_street 22 = .ok (.iconst 1, 1) := by decide +kernel
theorem dX8_street_23 : decode cX8_street 23 = .ok (.invokevirtual 70, 3) := by decide +kernel
theorem dX8_street_26 : decode cX8_street 26 = .ok (.ireturn, 1) := by decide +kernel
theorem dX8_street_27 : decode cX8_street 27 = .ok (.aload_n 0, 1) := by decide +kernel
theorem dX8_street_28 : decode cX8_street 28 = .ok (.getfield 28, 3) := by decide +kernel
theorem dX8_street_31 : decode cX8_street 31 = .ok (.aload_n 0, 1) := by decide +kernel
theorem dX8_street_32 : decode cX8_street 32 = .ok (.getfield 17, 3) := by decide +kernel
theorem dX8_street_35 : decode cX8_street 35 = .ok (.iload_n 1, 1) := by decide +kernel
theorem dX8_street_36 : decode cX8_street 36 = .ok (.aaload, 1) := by decide +kernel
theorem dX8_street_37 : decode cX8_street 37 = .ok (.invokevirtual 123, 3) := by decide +kernel
theorem dX8_street_40 : decode cX8_street 40 = .ok (.bipush (-9), 2) := by decide +kernel
theorem dX8_street_42 : decode cX8_street 42 = .ok (.if_icmp .eq 6, 3) := by decide +kernel
theorem dX8_street_45 : decode cX8_street 45 = .ok (.bipush (-4), 2) := by decide +kernel
theorem dX8_street_47 : decode cX8_street 47 = .ok (.ireturn, 1) := by decide +kernel
theorem dX8_street_48 : decode cX8_street 48 = .ok (.aload_n 0, 1) := by decide +kernel
theorem dX8_street_49 : decode cX8_street 49 = .ok (.getfield 24, 3) := by decide +kernel
theorem dX8_street_52 : decode cX8_street 52 = .ok (.aload_n 0, 1) := by decide +kernel
theorem dX8_street_53 : decode cX8_street 53 = .ok (.getfield 28, 3) := by decide +kernel
theorem dX8_street_56 : decode cX8_street 56 = .ok (.invokevirtual 127, 3) := by decide +kernel
theorem dX8_street_59 : decode cX8_street 59 = .ok (.iconst 0, 1) := by decide +kernel
theorem dX8_street_60 : decode cX8_street 60 = .ok (.istore_n 2, 1) := by decide +kernel
theorem dX8_street_61 : decode cX8_street 61 = .ok (.iload_n 2, 1) := by decide +kernel
theorem dX8_street_62 : decode cX8_street 62 = .ok (.iconst 3, 1) := by decide +kernel
theorem dX8_street_63 : decode cX8_street 63 = .ok (.if_icmp .ge 16, 3) := by decide +kernel
theorem dX8_street_66 : decode cX8_street 66 = .ok (.aload_n 0, 1) := by decide +kernel
theorem dX8_street_67 : decode cX8_street 67 = .ok (.getfield 35, 3) := by decide +kernel
theorem dX8_street_70 : decode cX8_street 70 = .ok (.iload_n 2, 1) := by decide +kernel
theorem dX8_street_71 : decode cX8_street 71 = .ok (.iconst 0, 1) := by decide +kernel
theorem dX8_street_72 : decode cX8_street 72 = .ok (.bastore, 1) := by decide +kernel
theorem dX8_street_73 : decode cX8_street 73 = .ok (.iinc 2 1, 3) := by decide +kernel
theorem dX8_street_76 : decode cX8_street 76 = .ok (.goto (-15), 3) := by decide +kernel
theorem dX8_street_79 : decode cX8_street 79 = .ok (.aload_n 0, 1) := by decide +kernel
theorem dX8_street_80 : decode cX8_street 80 = .ok (.getfield 24, 3) := by decide +kernel
theorem dX8_street_83 : decode cX8_street 83 = .ok (.getfield 131, 3) := by decide +kernel
theorem dX8_street_86 : decode cX8_street 86 = .ok (.ireturn, 1) := by decide +kernel
set_option maxRecDepth 20000 in
theorem ggX8_wall_X6_measure : GoodIn wsX8_wall wsX6_measure := goodIn_r _ [8, 9, 10, 11, 24, 25, 26, 27, 28, 29, 30, 31, 32, 33, 34] (by decide +kernel) (by decide +kernel)
set_option maxRecDepth 20000 in
theorem gX8_wall_X6_measure : GoodIn wsX8_wall (wsV RX8 171 RX6 yX6_measure wsX6_measure) := goodIn_app (goodIn_of _ (by decide +kernel)) ggX8_wall_X6_measure
theorem dX8_wall_0 : decode cX8_wall 0 = .ok (.iload_n 1, 1) := by decide +kernel
theorem dX8_wall_1 : decode cX8_wall 1 = .ok (.ifCond .lt 24, 3) := by decide +kernel
theorem dX8_wall_4 : decode cX8_wall 4 = .ok (.iload_n 1, 1) := by decide +kernel
theorem dX8_wall_5 : decode cX8_wall 5 = .ok (.aload_n 0, 1) := by decide +kernel
theorem dX8_wall_6 : decode cX8_wall 6 = .ok (.getfield 24, 3) := by decide +kernel
theorem dX8_wall_9 : decode cX8_wall 9 = .ok (.getfield 165, 3) := by decide +kernel
theorem dX8_wall_12 : decode cX8_wall 12 = .ok (.if_icmp .ge 13, 3) := by decide +kernel
theorem dX8_wall_15 : decode cX8_wall 15 = .ok (.iload_n 2, 1) := by decide +kernel
theorem dX8_wall_16 : decode cX8_wall 16 = .ok (.ifCond .lt 9, 3) := by decide +kernel
theorem dX8_wall_19 : decode cX8_wall 19 = .ok (.iload_n 2, 1) := by decide +kernel
theorem dX8_wall_20 : decode cX8_wall 20 = .ok (.bipush 20, 2) := by decide +kernel
theorem dX8_wall_22 : decode cX8_wall 22 = .ok (.if_icmp .le 5, 3) := by decide +kernel
theorem dX8_wall_25 : decode cX8_wall 25 = .ok (.iconst (-1), 1) := by decide +kernel
theorem dX8_wall_26 : decode cX8_wall 26 = .ok (.ireturn, 1) := by decide +kernel
theorem dX8_wall_27 : decode cX8_wall 27 = .ok (.aload_n 0, 1) := by decide +kernel
theorem dX8_wall_28 : decode cX8_wall 28 = .ok (.getfield 24, 3) := by decide +kernel
theorem dX8_wall_31 : decode cX8_wall 31 = .ok (.getfield 168, 3) := by decide +kernel
theorem dX8_wall_34 : decode cX8_wall 34 = .ok (.iload_n 1, 1) := by decide +kernel
theorem dX8_wall_35 : decode cX8_wall 35 = .ok (.iaload, 1) := by decide +kernel
theorem dX8_wall_36 : decode cX8_wall 36 = .ok (.istore_n 3, 1) := by decide +kernel
theorem dX8_wall_37 : decode cX8_wall 37 = .ok (.aload_n 0, 1) := by decide +kernel
theorem dX8_wall_38 : decode cX8_wall 38 = .ok (.getfield 24, 3) := by decide +kernel
theorem dX8_wall_41 : decode cX8_wall 41 = .ok (.getfield 168, 3) := by decide +kernel
theorem dX8_wall_44 : decode cX8_wall 44 = .ok (.iload_n 1, 1) := by decide +kernel
theorem dX8_wall_45 : decode cX8_wall 45 = .ok (.iload_n 2, 1) := by decide +kernel
theorem dX8_wall_46 : decode cX8_wall 46 = .ok (.iastore, 1) := by decide +kernel
theorem dX8_wall_47 : decode cX8_wall 47 = .ok (.aload_n 0, 1) := by decide +kernel
theorem dX8_wall_48 : decode cX8_wall 48 = .ok (.getfield 24, 3) := by decide +kernel
theorem dX8_wall_51 : decode cX8_wall 51 = .ok (.invokevirtual 171, 3) := by decide +kernel
theorem dX8_wall_54 : decode cX8_wall 54 = .ok (.iload_n 3, 1) := by decide +kernel
theorem dX8_wall_55 : decode cX8_wall 55 = .ok (.ireturn, 1) := by decide +kernel
set_option maxRecDepth 20000 in
theorem ggX8_hears_X8_areTwo : GoodIn wsX8_hears wsX8_areTwo := goodIn_r _ [8, 9, 10, 11, 7, 12, 1, 13, 37, 38, 39, 40, 41, 42, 43, 44, 45, 46, 47, 48, 49, 50, 51, 52, 53, 54, 55, 56, 57, 58, 59] (by decide +kernel) (by decide +kernel)
set_option maxRecDepth 20000 in
theorem gX8_hears_X8_areTwo : GoodIn wsX8_hears (wsV RX8 180 RX8 yX8_areTwo wsX8_areTwo) := goodIn_app (goodIn_of _ (by decide +kernel)) ggX8_hears_X8_areTwo
set_option maxRecDepth 20000 in
theorem ggX8_hears_X6_comesTo : GoodIn wsX8_hears wsX6_comesTo := goodIn_r _ [18, 19, 20, 21, 22, 23, 24, 25, 26, 49, 50, 51, 52, 53, 54, 55, 56, 57, 58, 59] (by decide +kernel) (by decide +kernel)
set_option maxRecDepth 20000 in
theorem gX8_hears_X6_comesTo : GoodIn wsX8_hears (wsV RX8 183 RX6 yX6_comesTo wsX6_comesTo) := goodIn_app (goodIn_of _ (by decide +kernel)) ggX8_hears_X6_comesTo
set_option maxRecDepth 20000 in
theorem ggX8_hears_X6_isHeardBy : GoodIn wsX8_hears wsX6_isHeardBy := goodIn_r _ [30, 20, 22, 31, 15, 16, 17, 18, 19, 21, 23, 24, 25, 26, 32, 33, 34, 35, 36, 49, 50, 51, 52, 53, 54, 55, 56, 57, 58, 59] (by decide +kernel) (by decide +kernel)
set_option maxRecDepth 20000 in
theorem gX8_hears_X6_isHeardBy : GoodIn wsX8_hears (wsV RX8 186 RX6 yX6_isHeardBy wsX6_isHeardBy) := goodIn_app (goodIn_of _ (by decide +kernel)) ggX8_hears_X6_isHeardBy
theorem dX8_hears_0 : decode cX8_hears 0 = .ok (.aload_n 0, 1) := by decide +kernel
theorem dX8_hears_1 : decode cX8_hears 1 = .ok (.iload_n 1, 1) := by decide +kernel
theorem dX8_hears_2 : decode cX8_hears 2 = .ok (.iload_n 2, 1) := by decide +kernel
theorem dX8_hears_3 : decode cX8_hears 3 = .ok (.invokevirtual 180, 3) := by decide +kernel
theorem dX8_hears_6 : decode cX8_hears 6 = .ok (.ifCond .ne 5, 3) := by decide +kernel
theorem dX8_hears_9 : decode cX8_hears 9 = .ok (.iconst (-1), 1) := by decide +kernel
theorem dX8_hears_10 : decode cX8_hears 10 = .ok (.ireturn, 1) := by decide +kernel
theorem dX8_hears_11 : decode cX8_hears 11 = .ok (.aload_n 0, 1) := by decide +kernel
theorem dX8_hears_12 : decode cX8_hears 12 = .ok (.aload_n 0, 1) := by decide +kernel
theorem dX8_hears_13 : decode cX8_hears 13 = .ok (.getfield 24, 3) := by decide +kernel
theorem dX8_hears_16 : decode cX8_hears 16 = .ok (.aload_n 0, 1) := by decide +kernel
theorem dX8_hears_17 : decode cX8_hears 17 = .ok (.getfield 24, 3) := by decide +kernel
theorem dX8_hears_20 : decode cX8_hears 20 = .ok (.getfield 177, 3) := by decide +kernel
theorem dX8_hears_23 : decode cX8_hears 23 = .ok (.iload_n 1, 1) := by decide +kernel
theorem dX8_hears_24 : decode cX8_hears 24 = .ok (.iaload, 1) := by decide +kernel
theorem dX8_hears_25 : decode cX8_hears 25 = .ok (.iload_n 2, 1) := by decide +kernel
theorem dX8_hears_26 : decode cX8_hears 26 = .ok (.invokevirtual 183, 3) := by decide +kernel
theorem dX8_hears_29 : decode cX8_hears 29 = .ok (.putfield 92, 3) := by decide +kernel
theorem dX8_hears_32 : decode cX8_hears 32 = .ok (.aload_n 0, 1) := by decide +kernel
theorem dX8_hears_33 : decode cX8_hears 33 = .ok (.getfield 24, 3) := by decide +kernel
theorem dX8_hears_36 : decode cX8_hears 36 = .ok (.iload_n 1, 1) := by decide +kernel
theorem dX8_hears_37 : decode cX8_hears 37 = .ok (.iload_n 2, 1) := by decide +kernel
theorem dX8_hears_38 : decode cX8_hears 38 = .ok (.invokevirtual 186, 3) := by decide +kernel
theorem dX8_hears_41 : decode cX8_hears 41 = .ok (.ifCond .eq 7, 3) := by decide +kernel
theorem dX8_hears_44 : decode cX8_hears 44 = .ok (.iconst 1, 1) := by decide +kernel
theorem dX8_hears_45 : decode cX8_hears 45 = .ok (.goto 4, 3) := by decide +kernel
theorem dX8_hears_48 : decode cX8_hears 48 = .ok (.iconst 0, 1) := by decide +kernel
theorem dX8_hears_49 : decode cX8_hears 49 = .ok (.ireturn, 1) := by decide +kernel
set_option maxRecDepth 20000 in
theorem ggX8_heard_X8_isOne : GoodIn wsX8_heard wsX8_isOne := goodIn_r _ [6, 1, 7, 52, 53, 54, 55, 56, 57, 58, 59, 60, 61, 62, 63, 64, 65, 66, 67, 68, 69, 70, 71, 72, 73, 74] (by decide +kernel) (by decide +kernel)
set_option maxRecDepth 20000 in
theorem gX8_heard_X8_isOne : GoodIn wsX8_heard (wsV RX8 134 RX8 yX8_isOne wsX8_isOne) := goodIn_app (goodIn_of _ (by decide +kernel)) ggX8_heard_X8_isOne
set_option maxRecDepth 20000 in
theorem ggX8_heard_X8_isSet : GoodIn wsX8_heard wsX8_isSet := goodIn_r _ [11, 1, 12, 13, 14, 15, 16, 17, 52, 53, 54, 55, 56, 57, 58, 59, 60, 61, 62, 63, 64, 65, 66, 67, 68, 69, 70, 71, 72, 73, 74] (by decide +kernel) (by decide +kernel)
set_option maxRecDepth 20000 in
theorem gX8_heard_X8_isSet : GoodIn wsX8_heard (wsV RX8 189 RX8 yX8_isSet wsX8_isSet) := goodIn_app (goodIn_of _ (by decide +kernel)) ggX8_heard_X8_isSet
set_option maxRecDepth 20000 in
theorem ggX8_heard_X6_whoHear : GoodIn wsX8_heard wsX6_whoHear := goodIn_r _ [21, 22, 13, 14, 15, 16, 17, 23, 24, 25, 26, 27, 28, 29, 30, 31, 32, 33, 34, 35, 36, 37, 38, 39, 40, 41, 42, 43, 44, 45, 46, 47, 48, 49, 50, 51, 64, 65, 66, 67, 68, 69, 70, 71, 72, 73, 74] (by decide +kernel) (by decide +kernel)
set_option maxRecDepth 20000 in
theorem gX8_heard_X6_whoHear : GoodIn wsX8_heard (wsV RX8 148 RX6 yX6_whoHear wsX6_whoHear) := goodIn_app (goodIn_of _ (by decide +kernel)) ggX8_heard_X6_whoHear
theorem dX8_heard_0 : decode cX8_heard 0 = .ok (.aload_n 0, 1) := by decide +kernel
theorem dX8_heard_1 : decode cX8_heard 1 = .ok (.iload_n 1, 1) := by decide +kernel
theorem dX8_heard_2 : decode cX8_heard 2 = .ok (.invokevirtual 134, 3) := by decide +kernel
theorem dX8_heard_5 : decode cX8_heard 5 = .ok (.ifCond .eq 19, 3) := by decide +kernel
theorem dX8_heard_8 : decode cX8_heard 8 = .ok (.aload_n 0, 1) := by decide +kernel
theorem dX8_heard_9 : decode cX8_heard 9 = .ok (.iload_n 2, 1) := by decide +kernel
theorem dX8_heard_10 : decode cX8_heard 10 = .ok (.invokevirtual 189, 3) := by decide +kernel
theorem dX8_heard_13 : decode cX8_heard 13 = .ok (.ifCond .eq 11, 3) := by decide +kernel
theorem dX8_heard_16 : decode cX8_heard 16 = .ok (.iload_n 2, 1) := by decide +kernel
theorem dX8_heard_17 : decode cX8_heard 17 = .ok (.iload_n 1, 1) := by decide +kernel
theorem dX8_heard_18 : decode cX8_heard 18 = .ok (.ishr, 1) := by decide +kernel
theorem dX8_heard_19 : decode cX8_heard 19 = .ok (.iconst 1, 1) := by decide +kernel
theorem dX8_heard_20 : decode cX8_heard 20 = .ok (.iand, 1) := by decide +kernel
theorem dX8_heard_21 : decode cX8_heard 21 = .ok (.ifCond .eq 5, 3) := by decide +kernel
theorem dX8_heard_24 : decode cX8_heard 24 = .ok (.iconst (-1), 1) := by decide +kernel
theorem dX8_heard_25 : decode cX8_heard 25 = .ok (.ireturn, 1) := by decide +kernel
theorem dX8_heard_26 : decode cX8_heard 26 = .ok (.aload_n 0, 1) := by decide +kernel
theorem dX8_heard_27 : decode cX8_heard 27 = .ok (.getfield 24, 3) := by decide +kernel
theorem dX8_heard_30 : decode cX8_heard 30 = .ok (.iload_n 1, 1) := by decide +kernel
theorem dX8_heard_31 : decode cX8_heard 31 = .ok (.iload_n 2, 1) := by decide +kernel
theorem dX8_heard_32 : decode cX8_heard 32 = .ok (.invokevirtual 148, 3) := by decide +kernel
theorem dX8_heard_35 : decode cX8_heard 35 = .ok (.ireturn, 1) := by decide +kernel
set_option maxRecDepth 20000 in
theorem ggX8_hush_X8_isOne : GoodIn wsX8_hush wsX8_isOne := goodIn_r _ [6, 1, 7, 63, 64, 65, 66, 67, 68, 69, 70, 71, 72, 73, 74, 75, 76, 77, 78, 79, 80, 81, 82, 83, 84, 85] (by decide +kernel) (by decide +kernel)
set_option maxRecDepth 20000 in
theorem gX8_hush_X8_isOne : GoodIn wsX8_hush (wsV RX8 134 RX8 yX8_isOne wsX8_isOne) := goodIn_app (goodIn_of _ (by decide +kernel)) ggX8_hush_X8_isOne
set_option maxRecDepth 20000 in
theorem ggX8_hush_X6_everyone : GoodIn wsX8_hush wsX6_everyone := goodIn_r _ [12, 13, 75, 76, 77, 78, 79, 80, 81, 82, 83, 84, 85] (by decide +kernel) (by decide +kernel)
set_option maxRecDepth 20000 in
theorem gX8_hush_X6_everyone : GoodIn wsX8_hush (wsV RX8 192 RX6 yX6_everyone wsX6_everyone) := goodIn_app (goodIn_of _ (by decide +kernel)) ggX8_hush_X6_everyone
set_option maxRecDepth 20000 in
theorem ggX8_hush_X8_isFewer : GoodIn wsX8_hush wsX8_isFewer := goodIn_r _ [16, 17, 18, 19, 20, 21, 22, 23] (by decide +kernel) (by decide +kernel)
set_option maxRecDepth 20000 in
theorem gX8_hush_X8_isFewer : GoodIn wsX8_hush (va_wsS RX8 196 yX8_isFewer wsX8_isFewer) := goodIn_app (goodIn_of _ (by decide +kernel)) ggX8_hush_X8_isFewer
set_option maxRecDepth 20000 in
theorem ggX8_hush_X6_whoHear : GoodIn wsX8_hush wsX6_whoHear := goodIn_r _ [27, 28, 9, 10, 11, 12, 13, 29, 30, 31, 32, 33, 34, 35, 36, 37, 38, 39, 40, 41, 42, 43, 44, 45, 46, 47, 48, 49, 50, 51, 52, 53, 54, 55, 56, 57, 75, 76, 77, 78, 79, 80, 81, 82, 83, 84, 85] (by decide +kernel) (by decide +kernel)
set_option maxRecDepth 20000 in
theorem gX8_hush_X6_whoHear : GoodIn wsX8_hush (wsV RX8 148 RX6 yX6_whoHear wsX6_whoHear) := goodIn_app (goodIn_of _ (by decide +kernel)) ggX8_hush_X6_whoHear
set_option maxRecDepth 20000 in
theorem ggX8_hush_X8_tellSet : GoodIn wsX8_hush wsX8_tellSet := goodIn_r _ [61, 62, 17, 18, 19, 20, 21, 22, 23, 63, 64, 65, 66, 67, 68, 69, 70, 71, 72, 73, 74] (by decide +kernel) (by decide +kernel)
set_option maxRecDepth 20000 in
theorem gX8_hush_X8_tellSet : GoodIn wsX8_hush (wsV RX8 199 RX8 yX8_tellSet wsX8_tellSet) := goodIn_app (goodIn_of _ (by decide +kernel)) ggX8_hush_X8_tellSet
theorem dX8_hush_0 : decode cX8_hush 0 = .ok (.aload_n 0, 1) := by decide +kernel
theorem dX8_hush_1 : decode cX8_hush 1 = .ok (.iload_n 1, 1) := by decide +kernel
theorem dX8_hush_2 : decode cX8_hush 2 = .ok (.invokevirtual 134, 3) := by decide +kernel
theorem dX8_hush_5 : decode cX8_hush 5 = .ok (.ifCond .ne 5, 3) := by decide +kernel
theorem dX8_hush_8 : decode cX8_hush 8 = .ok (.iconst (-1), 1) := by decide +kernel
theorem dX8_hush_9 : decode cX8_hush 9 = .ok (.ireturn, 1) := by decide +kernel
theorem dX8_hush_10 : decode cX8_hush 10 = .ok (.bipush (-9), 2) := by decide +kernel
theorem dX8_hush_12 : decode cX8_hush 12 = .ok (.istore_n 2, 1) := by decide +kernel
theorem dX8_hush_13 : decode cX8_hush 13 = .ok (.iconst 0, 1) := by decide +kernel
theorem dX8_hush_14 : decode cX8_hush 14 = .ok (.istore_n 3, 1) := by decide +kernel
theorem dX8_hush_15 : decode cX8_hush 15 = .ok (.iload_n 3, 1) := by decide +kernel
theorem dX8_hush_16 : decode cX8_hush 16 = .ok (.aload_n 0, 1) := by decide +kernel
theorem dX8_hush_17 : decode cX8_hush 17 = .ok (.getfield 24, 3) := by decide +kernel
theorem dX8_hush_20 : decode cX8_hush 20 = .ok (.invokevirtual 192, 3) := by decide +kernel
theorem dX8_hush_23 : decode cX8_hush 23 = .ok (.if_icmp .gt 39, 3) := by decide +kernel
theorem dX8_hush_26 : decode cX8_hush 26 = .ok (.iload_n 3, 1) := by decide +kernel
theorem dX8_hush_27 : decode cX8_hush 27 = .ok (.iload_n 1, 1) := by decide +kernel
theorem dX8_hush_28 : decode cX8_hush 28 = .ok (.ishr, 1) := by decide +kernel
theorem dX8_hush_29 : decode cX8_hush 29 = .ok (.iconst 1, 1) := by decide +kernel
theorem dX8_hush_30 : decode cX8_hush 30 = .ok (.iand, 1) := by decide +kernel
theorem dX8_hush_31 : decode cX8_hush 31 = .ok (.ifCond .ne 25, 3) := by decide +kernel
theorem dX8_hush_34 : decode cX8_hush 34 = .ok (.iload_n 3, 1) := by decide +kernel
theorem dX8_hush_35 : decode cX8_hush 35 = .ok (.iload_n 2, 1) := by decide +kernel
theorem dX8_hush_36 : decode cX8_hush 36 = .ok (.invokestatic 196, 3) := by decide +kernel
theorem dX8_hush_39 : decode cX8_hush 39 = .ok (.ifCond .eq 17, 3) := by decide +kernel
theorem dX8_hush_42 : decode cX8_hush 42 = .ok (.aload_n 0, 1) := by decide +kernel
theorem dX8_hush_43 : decode cX8_hush 43 = .ok (.getfield 24, 3) := by decide +kernel
theorem dX8_hush_46 : decode cX8_hush 46 = .ok (.iload_n 1, 1) := by decide +kernel
theorem dX8_hush_47 : decode cX8_hush 47 = .ok (.iload_n 3, 1) := by decide +kernel
theorem dX8_hush_48 : decode cX8_hush 48 = .ok (.invokevirtual 148, 3) := by decide +kernel
theorem dX8_hush_51 : decode cX8_hush 51 = .ok (.ifCond .ne 5, 3) := by decide +kernel
theorem dX8_hush_54 : decode cX8_hush 54 = .ok (.iload_n 3, 1) := by decide +kernel
theorem dX8_hush_55 : decode cX8_hush 55 = .ok (.istore_n 2, 1) := by decide +kernel
theorem dX8_hush_56 : decode cX8_hush 56 = .ok (.iinc 3 1, 3) := by decide +kernel
theorem dX8_hush_59 : decode cX8_hush 59 = .ok (.goto (-44), 3) := by decide +kernel
theorem dX8_hush_62 : decode cX8_hush 62 = .ok (.aload_n 0, 1) := by decide +kernel
theorem dX8_hush_63 : decode cX8_hush 63 = .ok (.iload_n 2, 1) := by decide +kernel
theorem dX8_hush_64 : decode cX8_hush 64 = .ok (.invokevirtual 199, 3) := by decide +kernel
theorem dX8_hush_67 : decode cX8_hush 67 = .ok (.ireturn, 1) := by decide +kernel
set_option maxRecDepth 20000 in
theorem ggX8_talk_X8_areTwo : GoodIn wsX8_talk wsX8_areTwo := goodIn_r _ [7, 8, 9, 10, 6, 11, 1, 12, 31, 32, 33, 34, 35, 36, 37, 38, 39, 40, 41, 42, 43, 44, 45, 46, 47, 48, 49, 50, 51, 52, 53] (by decide +kernel) (by decide +kernel)
set_option maxRecDepth 20000 in
theorem gX8_talk_X8_areTwo : GoodIn wsX8_talk (wsV RX8 180 RX8 yX8_areTwo wsX8_areTwo) := goodIn_app (goodIn_of _ (by decide +kernel)) ggX8_talk_X8_areTwo
set_option maxRecDepth 20000 in
theorem ggX8_talk_X8_isSet : GoodIn wsX8_talk wsX8_isSet := goodIn_r _ [16, 1, 17, 18, 19, 20, 21, 22, 31, 32, 33, 34, 35, 36, 37, 38, 39, 40, 41, 42, 43, 44, 45, 46, 47, 48, 49, 50, 51, 52, 53] (by decide +kernel) (by decide +kernel)
set_option maxRecDepth 20000 in
theorem gX8_talk_X8_isSet : GoodIn wsX8_talk (wsV RX8 189 RX8 yX8_isSet wsX8_isSet) := goodIn_app (goodIn_of _ (by decide +kernel)) ggX8_talk_X8_isSet
set_option maxRecDepth 20000 in
theorem ggX8_talk_X6_addTalk : GoodIn wsX8_talk wsX6_addTalk := goodIn_r _ [26, 27, 28, 29, 30, 43, 44, 45, 46, 47, 48, 49, 50, 51, 52, 53] (by decide +kernel) (by decide +kernel)
set_option maxRecDepth 20000 in
theorem gX8_talk_X6_addTalk : GoodIn wsX8_talk (wsV RX8 205 RX6 yX6_addTalk wsX6_addTalk) := goodIn_app (goodIn_of _ (by decide +kernel)) ggX8_talk_X6_addTalk
theorem dX8_talk_0 : decode cX8_talk 0 = .ok (.aload_n 0, 1) := by decide +kernel
theorem dX8_talk_1 : decode cX8_talk 1 = .ok (.iload_n 1, 1) := by decide +kernel
theorem dX8_talk_2 : decode cX8_talk 2 = .ok (.iload_n 2, 1) := by decide +kernel
theorem dX8_talk_3 : decode cX8_talk 3 = .ok (.invokevirtual 180, 3) := by decide +kernel
theorem dX8_talk_6 : decode cX8_talk 6 = .ok (.ifCond .eq 27, 3) := by decide +kernel
theorem dX8_talk_9 : decode cX8_talk 9 = .ok (.aload_n 0, 1) := by decide +kernel
theorem dX8_talk_10 : decode cX8_talk 10 = .ok (.iload_n 3, 1) := by decide +kernel
theorem dX8_talk_11 : decode cX8_talk 11 = .ok (.invokevirtual 189, 3) := by decide +kernel
theorem dX8_talk_14 : decode cX8_talk 14 = .ok (.ifCond .eq 19, 3) := by decide +kernel
theorem dX8_talk_17 : decode cX8_talk 17 = .ok (.iload_n 3, 1) := by decide +kernel
theorem dX8_talk_18 : decode cX8_talk 18 = .ok (.iload_n 1, 1) := by decide +kernel
theorem dX8_talk_19 : decode cX8_talk 19 = .ok (.ishr, 1) := by decide +kernel
theorem dX8_talk_20 : decode cX8_talk 20 = .ok (.iconst 1, 1) := by decide +kernel
theorem dX8_talk_21 : decode cX8_talk 21 = .ok (.iand, 1) := by decide +kernel
theorem dX8_talk_22 : decode cX8_talk 22 = .ok (.ifCond .ne 11, 3) := by decide +kernel
theorem dX8_talk_25 : decode cX8_talk 25 = .ok (.iload_n 3, 1) := by decide +kernel
theorem dX8_talk_26 : decode cX8_talk 26 = .ok (.iload_n 2, 1) := by decide +kernel
theorem dX8_talk_27 : decode cX8_talk 27 = .ok (.ishr, 1) := by decide +kernel
theorem dX8_talk_28 : decode cX8_talk 28 = .ok (.iconst 1, 1) := by decide +kernel
theorem dX8_talk_29 : decode cX8_talk 29 = .ok (.iand, 1) := by decide +kernel
theorem dX8_talk_30 : decode cX8_talk 30 = .ok (.ifCond .eq 5, 3) := by decide +kernel
theorem dX8_talk_33 : decode cX8_talk 33 = .ok (.iconst (-1), 1) := by decide +kernel
theorem dX8_talk_34 : decode cX8_talk 34 = .ok (.ireturn, 1) := by decide +kernel
theorem dX8_talk_35 : decode cX8_talk 35 = .ok (.aload_n 0, 1) := by decide +kernel
theorem dX8_talk_36 : decode cX8_talk 36 = .ok (.getfield 24, 3) := by decide +kernel
theorem dX8_talk_39 : decode cX8_talk 39 = .ok (.getfield 202, 3) := by decide +kernel
theorem dX8_talk_42 : decode cX8_talk 42 = .ok (.bipush 8, 2) := by decide +kernel
theorem dX8_talk_44 : decode cX8_talk 44 = .ok (.if_icmp .lt 6, 3) := by decide +kernel
theorem dX8_talk_47 : decode cX8_talk 47 = .ok (.bipush (-2), 2) := by decide +kernel
theorem dX8_talk_49 : decode cX8_talk 49 = .ok (.ireturn, 1) := by decide +kernel
theorem dX8_talk_50 : decode cX8_talk 50 = .ok (.aload_n 0, 1) := by decide +kernel
theorem dX8_talk_51 : decode cX8_talk 51 = .ok (.getfield 24, 3) := by decide +kernel
theorem dX8_talk_54 : decode cX8_talk 54 = .ok (.iload_n 1, 1) := by decide +kernel
theorem dX8_talk_55 : decode cX8_talk 55 = .ok (.iload_n 2, 1) := by decide +kernel
theorem dX8_talk_56 : decode cX8_talk 56 = .ok (.iload_n 3, 1) := by decide +kernel
theorem dX8_talk_57 : decode cX8_talk 57 = .ok (.invokevirtual 205, 3) := by decide +kernel
theorem dX8_talk_60 : decode cX8_talk 60 = .ok (.ireturn, 1) := by decide +kernel
set_option maxRecDepth 20000 in
theorem ggX8_safe_X8_isSet : GoodIn wsX8_safe wsX8_isSet := goodIn_r _ [10, 1, 11, 12, 13, 14, 15, 16, 72, 73, 74, 75, 76, 77, 78, 79, 80, 81, 82, 83, 84, 85, 86, 87, 88, 89, 90, 91, 92, 93, 94] (by decide +kernel) (by decide +kernel)
set_option maxRecDepth 20000 in
theorem gX8_safe_X8_isSet : GoodIn wsX8_safe (wsV RX8 189 RX8 yX8_isSet wsX8_isSet) := goodIn_app (goodIn_of _ (by decide +kernel)) ggX8_safe_X8_isSet
set_option maxRecDepth 20000 in
theorem ggX8_safe_X8_find : GoodIn wsX8_safe wsX8_find := goodIn_r _ [20, 21, 22, 72, 73, 74, 75, 76, 77, 78, 79, 80, 81, 82, 83] (by decide +kernel) (by decide +kernel)
set_option maxRecDepth 20000 in
theorem gX8_safe_X8_find : GoodIn wsX8_safe (wsV RX8 70 RX8 yX8_find wsX8_find) := goodIn_app (goodIn_of _ (by decide +kernel)) ggX8_safe_X8_find
set_option maxRecDepth 20000 in
theorem ggX8_safe_X6_whoHear : GoodIn wsX8_safe wsX6_whoHear := goodIn_r _ [26, 27, 12, 13, 14, 15, 16, 28, 29, 30, 31, 32, 33, 34, 35, 36, 37, 38, 39, 40, 41, 42, 43, 44, 45, 46, 47, 48, 49, 50, 51, 52, 53, 54, 55, 56, 84, 85, 86, 87, 88, 89, 90, 91, 92, 93, 94] (by decide +kernel) (by decide +kernel)
set_option maxRecDepth 20000 in
theorem gX8_safe_X6_whoHear : GoodIn wsX8_safe (wsV RX8 148 RX6 yX6_whoHear wsX6_whoHear) := goodIn_app (goodIn_of _ (by decide +kernel)) ggX8_safe_X6_whoHear
set_option maxRecDepth 20000 in
theorem ggX8_safe_X6_isSafe : GoodIn wsX8_safe wsX6_isSafe := goodIn_r _ [60, 61, 62, 63, 14, 64, 65, 66, 27, 12, 13, 15, 16, 67, 68, 69, 70, 71, 28, 29, 30, 31, 32, 33, 34, 35, 36, 37, 38, 39, 40, 41, 42, 43, 44, 45, 46, 47, 48, 49, 50, 51, 52, 53, 54, 55, 56, 84, 85, 86, 87, 88, 89, 90, 91, 92, 93, 94] (by decide +kernel) (by decide +kernel)
set_option maxRecDepth 20000 in
theorem gX8_safe_X6_isSafe : GoodIn wsX8_safe (wsV RX8 218 RX6 yX6_isSafe wsX6_isSafe) := goodIn_app (goodIn_of _ (by decide +kernel)) ggX8_safe_X6_isSafe
theorem dX8_safe_0 : decode cX8_safe 0 = .ok (.iload_n 1, 1) := by decide +kernel
theorem dX8_safe_1 : decode cX8_safe 1 = .ok (.ifCond .lt 11, 3) := by decide +kernel
theorem dX8_safe_4 : decode cX8_safe 4 = .ok (.aload_n 0, 1) := by decide +kernel
theorem dX8_safe_5 : decode cX8_safe 5 = .ok (.iload_n 2, 1) := by decide +kernel
theorem dX8_safe_6 : decode cX8_safe 6 = .ok (.invokevirtual 189, 3) := by decide +kernel
theorem dX8_safe_9 : decode cX8_safe 9 = .ok (.ifCond .ne 5, 3) := by decide +kernel
theorem dX8_safe_12 : decode cX8_safe 12 = .ok (.iconst (-1), 1) := by decide +kernel
theorem dX8_safe_13 : decode cX8_safe 13 = .ok (.ireturn, 1) := by decide +kernel
theorem dX8_safe_14 : decode cX8_safe 14 = .ok (.iload_n 1, 1) := by decide +kernel
theorem dX8_safe_15 : decode cX8_safe 15 = .ok (.aload_n 0, 1) := by decide +kernel
theorem dX8_safe_16 : decode cX8_safe 16 = .ok (.getfield 24, 3) := by decide +kernel
theorem dX8_safe_19 : decode cX8_safe 19 = .ok (.getfield 202, 3) := by decide +kernel
theorem dX8_safe_22 : decode cX8_safe 22 = .ok (.if_icmp .lt 9, 3) := by decide +kernel
theorem dX8_safe_25 : decode cX8_safe 25 = .ok (.aload_n 0, 1) := by decide +kernel
theorem dX8_safe_26 : decode cX8_safe 26 = .ok (.iconst 2, 1) := by decide +kernel
theorem dX8_safe_27 : decode cX8_safe 27 = .ok (.invokevirtual 70, 3) := by decide +kernel
theorem dX8_safe_30 : decode cX8_safe 30 = .ok (.ireturn, 1) := by decide +kernel
theorem dX8_safe_31 : decode cX8_safe 31 = .ok (.aload_n 0, 1) := by decide +kernel
theorem dX8_safe_32 : decode cX8_safe 32 = .ok (.aload_n 0, 1) := by decide +kernel
theorem dX8_safe_33 : decode cX8_safe 33 = .ok (.getfield 24, 3) := by decide +kernel
theorem dX8_safe_36 : decode cX8_safe 36 = .ok (.aload_n 0, 1) := by decide +kernel
theorem dX8_safe_37 : decode cX8_safe 37 = .ok (.getfield 24, 3) := by decide +kernel
theorem dX8_safe_40 : decode cX8_safe 40 = .ok (.getfield 212, 3) := by decide +kernel
theorem dX8_safe_43 : decode cX8_safe 43 = .ok (.iload_n 1, 1) := by decide +kernel
theorem dX8_safe_44 : decode cX8_safe 44 = .ok (.iaload, 1) := by decide +kernel
theorem dX8_safe_45 : decode cX8_safe 45 = .ok (.iload_n 2, 1) := by decide +kernel
theorem dX8_safe_46 : decode cX8_safe 46 = .ok (.invokevirtual 148, 3) := by decide +kernel
theorem dX8_safe_49 : decode cX8_safe 49 = .ok (.aload_n 0, 1) := by decide +kernel
theorem dX8_safe_50 : decode cX8_safe 50 = .ok (.getfield 24, 3) := by decide +kernel
theorem dX8_safe_53 : decode cX8_safe 53 = .ok (.getfield 215, 3) := by decide +kernel
theorem dX8_safe_56 : decode cX8_safe 56 = .ok (.iload_n 1, 1) := by decide +kernel
theorem dX8_safe_57 : decode cX8_safe 57 = .ok (.iaload, 1) := by decide +kernel
theorem dX8_safe_58 : decode cX8_safe 58 = .ok (.iand, 1) := by decide +kernel
theorem dX8_safe_59 : decode cX8_safe 59 = .ok (.putfield 92, 3) := by decide +kernel
theorem dX8_safe_62 : decode cX8_safe 62 = .ok (.aload_n 0, 1) := by decide +kernel
theorem dX8_safe_63 : decode cX8_safe 63 = .ok (.getfield 24, 3) := by decide +kernel
theorem dX8_safe_66 : decode cX8_safe 66 = .ok (.iload_n 1, 1) := by decide +kernel
theorem dX8_safe_67 : decode cX8_safe 67 = .ok (.iload_n 2, 1) := by decide +kernel
theorem dX8_safe_68 : decode cX8_safe 68 = .ok (.invokevirtual 218, 3) := by decide +kernel
theorem dX8_safe_71 : decode cX8_safe 71 = .ok (.ifCond .eq 7, 3) := by decide +kernel
theorem dX8_safe_74 : decode cX8_safe 74 = .ok (.iconst 1, 1) := by decide +kernel
theorem dX8_safe_75 : decode cX8_safe 75 = .ok (.goto 4, 3) := by decide +kernel
theorem dX8_safe_78 : decode cX8_safe 78 = .ok (.iconst 0, 1) := by decide +kernel
theorem dX8_safe_79 : decode cX8_safe 79 = .ok (.ireturn, 1) := by decide +kernel
set_option maxRecDepth 20000 in
theorem ggX8_cover_X8_find : GoodIn wsX8_cover wsX8_find := goodIn_r _ [7, 8, 9, 76, 77, 78, 79, 80, 81, 82, 83, 84, 85, 86, 87] (by decide +kernel) (by decide +kernel)
set_option maxRecDepth 20000 in
theorem gX8_cover_X8_find : GoodIn wsX8_cover (wsV RX8 70 RX8 yX8_find wsX8_find) := goodIn_app (goodIn_of _ (by decide +kernel)) ggX8_cover_X8_find
set_option maxRecDepth 20000 in
theorem ggX8_cover_X6_everyone : GoodIn wsX8_cover wsX6_everyone := goodIn_r _ [14, 15, 88, 89, 90, 91, 92, 93, 94, 95, 96, 97, 98] (by decide +kernel) (by decide +kernel)
set_option maxRecDepth 20000 in
theorem gX8_cover_X6_everyone : GoodIn wsX8_cover (wsV RX8 192 RX6 yX6_everyone wsX6_everyone) := goodIn_app (goodIn_of _ (by decide +kernel)) ggX8_cover_X6_everyone
set_option maxRecDepth 20000 in
theorem ggX8_cover_X8_isFewer : GoodIn wsX8_cover wsX8_isFewer := goodIn_r _ [18, 19, 20, 21, 22, 23, 24, 25] (by decide +kernel) (by decide +kernel)
set_option maxRecDepth 20000 in
theorem gX8_cover_X8_isFewer : GoodIn wsX8_cover (va_wsS RX8 196 yX8_isFewer wsX8_isFewer) := goodIn_app (goodIn_of _ (by decide +kernel)) ggX8_cover_X8_isFewer
set_option maxRecDepth 20000 in
theorem ggX8_cover_X6_isSafe : GoodIn wsX8_cover wsX6_isSafe := goodIn_r _ [29, 30, 31, 32, 13, 33, 34, 35, 36, 11, 12, 14, 15, 37, 38, 39, 40, 41, 42, 43, 44, 45, 46, 47, 48, 49, 50, 51, 52, 53, 54, 55, 56, 57, 58, 59, 60, 61, 62, 63, 64, 65, 66, 67, 68, 69, 70, 88, 89, 90, 91, 92, 93, 94, 95, 96, 97, 98] (by decide +kernel) (by decide +kernel)
set_option maxRecDepth 20000 in
theorem gX8_cover_X6_isSafe : GoodIn wsX8_cover (wsV RX8 218 RX6 yX6_isSafe wsX6_isSafe) := goodIn_app (goodIn_of _ (by decide +kernel)) ggX8_cover_X6_isSafe
set_option maxRecDepth 20000 in
theorem ggX8_cover_X8_tellSet : GoodIn wsX8_cover wsX8_tellSet := goodIn_r _ [74, 75, 19, 20, 21, 22, 23, 24, 25, 76, 77, 78, 79, 80, 81, 82, 83, 84, 85, 86, 87] (by decide +kernel) (by decide +kernel)
set_option maxRecDepth 20000 in
theorem gX8_cover_X8_tellSet : GoodIn wsX8_cover (wsV RX8 199 RX8 yX8_tellSet wsX8_tellSet) := goodIn_app (goodIn_of _ (by decide +kernel)) ggX8_cover_X8_tellSet
theorem dX8_cover_0 : decode cX8_cover 0 = .ok (.iload_n 1, 1) := by decide +kernel
theorem dX8_cover_1 : decode cX8_cover 1 = .ok (.ifCond .ge 5, 3) := by decide +kernel
theorem dX8_cover_4 : decode cX8_cover 4 = .ok (.iconst (-1), 1) := by decide +kernel
theorem dX8_cover_5 : decode cX8_cover 5 = .ok (.ireturn, 1) := by decide +kernel
theorem dX8_cover_6 : decode cX8_cover 6 = .ok (.iload_n 1, 1) := by decide +kernel
theorem dX8_cover_7 : decode cX8_cover 7 = .ok (.aload_n 0, 1) := by decide +kernel
theorem dX8_cover_8 : decode cX8_cover 8 = .ok (.getfield 24, 3) := by decide +kernel
theorem dX8_cover_11 : decode cX8_cover 11 = .ok (.getfield 202, 3) := by decide +kernel
theorem dX8_cover_14 : decode cX8_cover 14 = .ok (.if_icmp .lt 9, 3) := by decide +kernel
theorem dX8_cover_17 : decode cX8_cover 17 = .ok (.aload_n 0, 1) := by decide +kernel
theorem dX8_cover_18 : decode cX8_cover 18 = .ok (.iconst 2, 1) := by decide +kernel
theorem dX8_cover_19 : decode cX8_cover 19 = .ok (.invokevirtual 70, 3) := by decide +kernel
theorem dX8_cover_22 : decode cX8_cover 22 = .ok (.ireturn, 1) := by decide +kernel
theorem dX8_cover_23 : decode cX8_cover 23 = .ok (.bipush (-9), 2) := by decide +kernel
theorem dX8_cover_25 : decode cX8_cover 25 = .ok (.istore_n 2, 1) := by decide +kernel
theorem dX8_cover_26 : decode cX8_cover 26 = .ok (.iconst 0, 1) := by decide +kernel
theorem dX8_cover_27 : decode cX8_cover 27 = .ok (.istore_n 3, 1) := by decide +kernel
theorem dX8_cover_28 : decode cX8_cover 28 = .ok (.iload_n 3, 1) := by decide +kernel
theorem dX8_cover_29 : decode cX8_cover 29 = .ok (.aload_n 0, 1) := by decide +kernel
theorem dX8_cover_30 : decode cX8_cover 30 = .ok (.getfield 24, 3) := by decide +kernel
theorem dX8_cover_33 : decode cX8_cover 33 = .ok (.invokevirtual 192, 3) := by decide +kernel
theorem dX8_cover_36 : decode cX8_cover 36 = .ok (.if_icmp .gt 31, 3) := by decide +kernel
theorem dX8_cover_39 : decode cX8_cover 39 = .ok (.iload_n 3, 1) := by decide +kernel
theorem dX8_cover_40 : decode cX8_cover 40 = .ok (.iload_n 2, 1) := by decide +kernel
theorem dX8_cover_41 : decode cX8_cover 41 = .ok (.invokestatic 196, 3) := by decide +kernel
theorem dX8_cover_44 : decode cX8_cover 44 = .ok (.ifCond .eq 17, 3) := by decide +kernel
theorem dX8_cover_47 : decode cX8_cover 47 = .ok (.aload_n 0, 1) := by decide +kernel
theorem dX8_cover_48 : decode cX8_cover 48 = .ok (.getfield 24, 3) := by decide +kernel
theorem dX8_cover_51 : decode cX8_cover 51 = .ok (.iload_n 1, 1) := by decide +kernel
theorem dX8_cover_52 : decode cX8_cover 52 = .ok (.iload_n 3, 1) := by decide +kernel
theorem dX8_cover_53 : decode cX8_cover 53 = .ok (.invokevirtual 218, 3) := by decide +kernel
theorem dX8_cover_56 : decode cX8_cover 56 = .ok (.ifCond .eq 5, 3) := by decide +kernel
theorem dX8_cover_59 : decode cX8_cover 59 = .ok (.iload_n 3, 1) := by decide +kernel
theorem dX8_cover_60 : decode cX8_cover 60 = .ok (.istore_n 2, 1) := by decide +kernel
theorem dX8_cover_61 : decode cX8_cover 61 = .ok (.iinc 3 1, 3) := by decide +kernel
theorem dX8_cover_64 : decode cX8_cover 64 = .ok (.goto (-36), 3) := by decide +kernel
theorem dX8_cover_67 : decode cX8_cover 67 = .ok (.aload_n 0, 1) := by decide +kernel
theorem dX8_cover_68 : decode cX8_cover 68 = .ok (.iload_n 2, 1) := by decide +kernel
theorem dX8_cover_69 : decode cX8_cover 69 = .ok (.invokevirtual 199, 3) := by decide +kernel
theorem dX8_cover_72 : decode cX8_cover 72 = .ok (.ireturn, 1) := by decide +kernel
set_option maxRecDepth 20000 in
theorem ggX8_beside_X6_everyTalk : GoodIn wsX8_beside wsX6_everyTalk := goodIn_r _ [6, 7, 69, 70, 71, 72, 73, 74, 75, 76, 77, 78, 79] (by decide +kernel) (by decide +kernel)
set_option maxRecDepth 20000 in
theorem gX8_beside_X6_everyTalk : GoodIn wsX8_beside (wsV RX8 221 RX6 yX6_everyTalk wsX6_everyTalk) := goodIn_app (goodIn_of _ (by decide +kernel)) ggX8_beside_X6_everyTalk
set_option maxRecDepth 20000 in
theorem ggX8_beside_X6_goTogether : GoodIn wsX8_beside wsX6_goTogether := goodIn_r _ [11, 7, 12, 13, 14, 15, 5, 16, 17, 18, 19, 20, 21, 22, 23, 24, 25, 26, 27, 28, 29, 30, 31, 32, 33, 34, 35, 36, 37, 38, 39, 40, 41, 42, 43, 44, 45, 46, 47, 48, 49, 50, 51, 52, 53, 54, 55, 56, 69, 70, 71, 72, 73, 74, 75, 76, 77, 78, 79] (by decide +kernel) (by decide +kernel)
set_option maxRecDepth 20000 in
theorem gX8_beside_X6_goTogether : GoodIn wsX8_beside (wsV RX8 224 RX6 yX6_goTogether wsX6_goTogether) := goodIn_app (goodIn_of _ (by decide +kernel)) ggX8_beside_X6_goTogether
theorem dX8_beside_0 : decode cX8_beside 0 = .ok (.iload_n 1, 1) := by decide +kernel
theorem dX8_beside_1 : decode cX8_beside 1 = .ok (.ifCond .lt 14, 3) := by decide +kernel
theorem dX8_beside_4 : decode cX8_beside 4 = .ok (.iload_n 1, 1) := by decide +kernel
theorem dX8_beside_5 : decode cX8_beside 5 = .ok (.aload_n 0, 1) := by decide +kernel
theorem dX8_beside_6 : decode cX8_beside 6 = .ok (.getfield 24, 3) := by decide +kernel
theorem dX8_beside_9 : decode cX8_beside 9 = .ok (.invokevirtual 221, 3) := by decide +kernel
theorem dX8_beside_12 : decode cX8_beside 12 = .ok (.if_icmp .le 5, 3) := by decide +kernel
theorem dX8_beside_15 : decode cX8_beside 15 = .ok (.iconst (-1), 1) := by decide +kernel
theorem dX8_beside_16 : decode cX8_beside 16 = .ok (.ireturn, 1) := by decide +kernel
theorem dX8_beside_17 : decode cX8_beside 17 = .ok (.aload_n 0, 1) := by decide +kernel
theorem dX8_beside_18 : decode cX8_beside 18 = .ok (.getfield 24, 3) := by decide +kernel
theorem dX8_beside_21 : decode cX8_beside 21 = .ok (.iload_n 1, 1) := by decide +kernel
theorem dX8_beside_22 : decode cX8_beside 22 = .ok (.invokevirtual 224, 3) := by decide +kernel
theorem dX8_beside_25 : decode cX8_beside 25 = .ok (.ifCond .eq 7, 3) := by decide +kernel
theorem dX8_beside_28 : decode cX8_beside 28 = .ok (.iconst 1, 1) := by decide +kernel
theorem dX8_beside_29 : decode cX8_beside 29 = .ok (.goto 4, 3) := by decide +kernel
theorem dX8_beside_32 : decode cX8_beside 32 = .ok (.iconst 0, 1) := by decide +kernel
theorem dX8_beside_33 : decode cX8_beside 33 = .ok (.ireturn, 1) := by decide +kernel
set_option maxRecDepth 20000 in
theorem ggX8_turns_X3_draw : GoodIn wsX8_turns wsX3_draw := goodIn_r _ [8, 9, 10, 11, 12, 13, 14, 15, 16, 17, 18, 19, 20, 21, 22, 23, 24, 25, 26, 27, 28, 29, 30, 31, 32, 33, 34, 35, 36, 37, 38, 39, 40, 41, 42, 43, 44, 45, 46, 47, 48, 49, 50, 51, 52, 53, 54, 55, 56, 57, 58, 59, 60, 61, 62, 63, 64, 65, 66, 67, 68, 7, 69, 70, 71, 72, 93, 94, 95, 96, 97, 98, 99, 100, 101, 102, 103, 104, 105] (by decide +kernel) (by decide +kernel)
set_option maxRecDepth 20000 in
theorem gX8_turns_X3_draw : GoodIn wsX8_turns (wsV RX8 227 RX3 yX3_draw wsX3_draw) := goodIn_app (goodIn_of _ (by decide +kernel)) ggX8_turns_X3_draw
set_option maxRecDepth 20000 in
theorem ggX8_turns_X3_hours : GoodIn wsX8_turns wsX3_hours := goodIn_r _ [76, 10, 11, 12, 13, 14, 15, 16, 93, 94, 95, 96, 97, 98, 99, 100, 101, 102, 103, 104, 105] (by decide +kernel) (by decide +kernel)
set_option maxRecDepth 20000 in
theorem gX8_turns_X3_hours : GoodIn wsX8_turns (wsV RX8 230 RX3 yX3_hours wsX3_hours) := goodIn_app (goodIn_of _ (by decide +kernel)) ggX8_turns_X3_hours
set_option maxRecDepth 20000 in
theorem ggX8_turns_X3_firstHour : GoodIn wsX8_turns wsX3_firstHour := goodIn_r _ [80, 9, 10, 11, 12, 13, 14, 15, 16, 93, 94, 95, 96, 97, 98, 99, 100, 101, 102, 103, 104, 105] (by decide +kernel) (by decide +kernel)
set_option maxRecDepth 20000 in
theorem gX8_turns_X3_firstHour : GoodIn wsX8_turns (wsV RX8 234 RX3 yX3_firstHour wsX3_firstHour) := goodIn_app (goodIn_of _ (by decide +kernel)) ggX8_turns_X3_firstHour
theorem dX8_turns_0 : decode cX8_turns 0 = .ok (.aload_n 0, 1) := by decide +kernel
theorem dX8_turns_1 : decode cX8_turns 1 = .ok (.getfield 42, 3) := by decide +kernel
theorem dX8_turns_4 : decode cX8_turns 4 = .ok (.aload_n 0, 1) := by decide +kernel
theorem dX8_turns_5 : decode cX8_turns 5 = .ok (.getfield 24, 3) := by decide +kernel
theorem dX8_turns_8 : decode cX8_turns 8 = .ok (.invokevirtual 227, 3) := by decide +kernel
theorem dX8_turns_11 : decode cX8_turns 11 = .ok (.aload_n 0, 1) := by decide +kernel
theorem dX8_turns_12 : decode cX8_turns 12 = .ok (.getfield 42, 3) := by decide +kernel
theorem dX8_turns_15 : decode cX8_turns 15 = .ok (.aload_n 0, 1) := by decide +kernel
theorem dX8_turns_16 : decode cX8_turns 16 = .ok (.getfield 24, 3) := by decide +kernel
theorem dX8_turns_19 : decode cX8_turns 19 = .ok (.invokevirtual 230, 3) := by decide +kernel
theorem dX8_turns_22 : decode cX8_turns 22 = .ok (.istore_n 1, 1) := by decide +kernel
theorem dX8_turns_23 : decode cX8_turns 23 = .ok (.iload_n 1, 1) := by decide +kernel
theorem dX8_turns_24 : decode cX8_turns 24 = .ok (.bipush (-9), 2) := by decide +kernel
theorem dX8_turns_26 : decode cX8_turns 26 = .ok (.if_icmp .ne 6, 3) := by decide +kernel
theorem dX8_turns_29 : decode cX8_turns 29 = .ok (.bipush (-9), 2) := by decide +kernel
theorem dX8_turns_31 : decode cX8_turns 31 = .ok (.ireturn, 1) := by decide +kernel
theorem dX8_turns_32 : decode cX8_turns 32 = .ok (.aload_n 0, 1) := by decide +kernel
theorem dX8_turns_33 : decode cX8_turns 33 = .ok (.aload_n 0, 1) := by decide +kernel
theorem dX8_turns_34 : decode cX8_turns 34 = .ok (.getfield 42, 3) := by decide +kernel
theorem dX8_turns_37 : decode cX8_turns 37 = .ok (.aload_n 0, 1) := by decide +kernel
theorem dX8_turns_38 : decode cX8_turns 38 = .ok (.getfield 24, 3) := by decide +kernel
theorem dX8_turns_41 : decode cX8_turns 41 = .ok (.invokevirtual 234, 3) := by decide +kernel
theorem dX8_turns_44 : decode cX8_turns 44 = .ok (.putfield 92, 3) := by decide +kernel
theorem dX8_turns_47 : decode cX8_turns 47 = .ok (.iload_n 1, 1) := by decide +kernel
theorem dX8_turns_48 : decode cX8_turns 48 = .ok (.ireturn, 1) := by decide +kernel
set_option maxRecDepth 20000 in
theorem ggX8_most_X3_draw : GoodIn wsX8_most wsX3_draw := goodIn_r _ [7, 8, 9, 10, 11, 12, 13, 14, 15, 16, 17, 18, 19, 20, 21, 22, 23, 24, 25, 26, 27, 28, 29, 30, 31, 32, 33, 34, 35, 36, 37, 38, 39, 40, 41, 42, 43, 44, 45, 46, 47, 48, 49, 50, 51, 52, 53, 54, 55, 56, 57, 58, 59, 60, 61, 62, 63, 64, 65, 66, 67, 6, 68, 69, 70, 71, 102, 103, 104, 105, 106, 107, 108, 109, 110, 111, 112, 113, 114] (by decide +kernel) (by decide +kernel)
set_option maxRecDepth 20000 in
theorem gX8_most_X3_draw : GoodIn wsX8_most (wsV RX8 227 RX3 yX3_draw wsX3_draw) := goodIn_app (goodIn_of _ (by decide +kernel)) ggX8_most_X3_draw
set_option maxRecDepth 20000 in
theorem ggX8_most_X3_largest : GoodIn wsX8_most wsX3_largest := goodIn_r _ [75, 8, 10, 11, 12, 13, 14, 15, 76, 77, 78, 79, 80, 81, 82, 102, 103, 104, 105, 106, 107, 108, 109, 110, 111, 112, 113, 114] (by decide +kernel) (by decide +kernel)
set_option maxRecDepth 20000 in
theorem gX8_most_X3_largest : GoodIn wsX8_most (wsV RX8 237 RX3 yX3_largest wsX3_largest) := goodIn_app (goodIn_of _ (by decide +kernel)) ggX8_most_X3_largest
set_option maxRecDepth 20000 in
theorem ggX8_most_X8_tellSet : GoodIn wsX8_most wsX8_tellSet := goodIn_r _ [87, 88, 89, 77, 78, 79, 80, 81, 82, 90, 91, 92, 93, 94, 95, 96, 97, 98, 99, 100, 101] (by decide +kernel) (by decide +kernel)
set_option maxRecDepth 20000 in
theorem gX8_most_X8_tellSet : GoodIn wsX8_most (wsV RX8 199 RX8 yX8_tellSet wsX8_tellSet) := goodIn_app (goodIn_of _ (by decide +kernel)) ggX8_most_X8_tellSet
theorem dX8_most_0 : decode cX8_most 0 = .ok (.aload_n 0, 1) := by decide +kernel
theorem dX8_most_1 : decode cX8_most 1 = .ok (.getfield 42, 3) := by decide +kernel
theorem dX8_most_4 : decode cX8_most 4 = .ok (.aload_n 0, 1) := by decide +kernel
theorem dX8_most_5 : decode cX8_most 5 = .ok (.getfield 24, 3) := by decide +kernel
theorem dX8_most_8 : decode cX8_most 8 = .ok (.invokevirtual 227, 3) := by decide +kernel
theorem dX8_most_11 : decode cX8_most 11 = .ok (.aload_n 0, 1) := by decide +kernel
theorem dX8_most_12 : decode cX8_most 12 = .ok (.aload_n 0, 1) := by decide +kernel
theorem dX8_most_13 : decode cX8_most 13 = .ok (.getfield 42, 3) := by decide +kernel
theorem dX8_most_16 : decode cX8_most 16 = .ok (.aload_n 0, 1) := by decide +kernel
theorem dX8_most_17 : decode cX8_most 17 = .ok (.getfield 24, 3) := by decide +kernel
theorem dX8_most_20 : decode cX8_most 20 = .ok (.invokevirtual 237, 3) := by decide +kernel
theorem dX8_most_23 : decode cX8_most 23 = .ok (.invokevirtual 199, 3) := by decide +kernel
theorem dX8_most_26 : decode cX8_most 26 = .ok (.ireturn, 1) := by decide +kernel
set_option maxRecDepth 20000 in
theorem ggX8_paste_X8_isRow : GoodIn wsX8_paste wsX8_isRow := goodIn_r _ [11] (by decide +kernel) (by decide +kernel)
set_option maxRecDepth 20000 in
theorem gX8_paste_X8_isRow : GoodIn wsX8_paste (va_wsS RX8 66 yX8_isRow wsX8_isRow) := goodIn_app (goodIn_of _ (by decide +kernel)) ggX8_paste_X8_isRow
set_option maxRecDepth 20000 in
theorem ggX8_paste_X8_find : GoodIn wsX8_paste wsX8_find := goodIn_r _ [15, 16, 17, 124, 125, 126, 127, 128, 129, 130, 131, 132, 133, 134, 135] (by decide +kernel) (by decide +kernel)
set_option maxRecDepth 20000 in
theorem gX8_paste_X8_find : GoodIn wsX8_paste (wsV RX8 70 RX8 yX8_find wsX8_find) := goodIn_app (goodIn_of _ (by decide +kernel)) ggX8_paste_X8_find
set_option maxRecDepth 20000 in
theorem ggX8_paste_X6_become : GoodIn wsX8_paste wsX6_become := goodIn_r _ [22, 23, 24, 25, 26, 27, 28, 29, 30, 31, 32, 33, 34, 35, 36, 37, 38, 39, 40, 41, 42, 43, 44, 45, 46, 47, 48, 49, 136, 137, 138, 139, 140, 141, 142, 143, 144, 145, 146, 149, 150, 151, 152, 153, 154] (by decide +kernel) (by decide +kernel)
set_option maxRecDepth 20000 in
theorem gX8_paste_X6_become : GoodIn wsX8_paste (wsV RX8 127 RX6 yX6_become wsX6_become) := goodIn_app (goodIn_of _ (by decide +kernel)) ggX8_paste_X6_become
set_option maxRecDepth 20000 in
theorem ggX8_paste_X8_isSafeByPasting : GoodIn wsX8_paste wsX8_isSafeByPasting := goodIn_r _ [53, 5, 1, 7, 3, 54, 6, 55, 56, 57, 58, 59, 60, 61, 62, 63, 64, 21, 65, 23, 31, 26, 66, 67, 68, 69, 70, 71, 72, 73, 34, 35, 74, 75, 76, 77, 24, 78, 79, 80, 81, 36, 82, 83, 84, 85, 33, 86, 87, 88, 89, 90, 91, 32, 92, 93, 94, 95, 96, 97, 98, 99, 100, 101, 102, 103, 104, 105, 106, 107, 108, 109, 110, 111, 124, 125, 126, 127, 128, 129, 130, 131, 132, 133, 134, 135, 136, 137, 138, 139, 140, 141, 142, 143, 144, 145, 146, 147, 148] (by decide +kernel) (by decide +kernel)
set_option maxRecDepth 20000 in
theorem gX8_paste_X8_isSafeByPasting : GoodIn wsX8_paste (wsV RX8 257 RX8 yX8_isSafeByPasting wsX8_isSafeByPasting) := goodIn_app (goodIn_of _ (by decide +kernel)) ggX8_paste_X8_isSafeByPasting
set_option maxRecDepth 20000 in
theorem ggX8_paste_X4_fill : GoodIn wsX8_paste wsX4_fill := goodIn_r _ [116, 117, 118, 28, 29, 30, 119, 120, 121, 115, 122, 123, 155, 156] (by decide +kernel) (by decide +kernel)
set_option maxRecDepth 20000 in
theorem gX8_paste_X4_fill : GoodIn wsX8_paste (wsV RX8 250 RX4 yX4_fill wsX4_fill) := goodIn_app (goodIn_of _ (by decide +kernel)) ggX8_paste_X4_fill
theorem dX8_paste_0 : decode cX8_paste 0 = .ok (.iload_n 1, 1) := by decide +kernel
theorem dX8_paste_1 : decode cX8_paste 1 = .ok (.ifCond .lt 10, 3) := by decide +kernel
theorem dX8_paste_4 : decode cX8_paste 4 = .ok (.iload_n 2, 1) := by decide +kernel
theorem dX8_paste_5 : decode cX8_paste 5 = .ok (.invokestatic 66, 3) := by decide +kernel
theorem dX8_paste_8 : decode cX8_paste 8 = .ok (.ifCond .ne 5, 3) := by decide +kernel
theorem dX8_paste_11 : decode cX8_paste 11 = .ok (.iconst (-1), 1) := by decide +kernel
theorem dX8_paste_12 : decode cX8_paste 12 = .ok (.ireturn, 1) := by decide +kernel
theorem dX8_paste_13 : decode cX8_paste 13 = .ok (.iload_n 1, 1) := by decide +kernel
theorem dX8_paste_14 : decode cX8_paste 14 = .ok (.aload_n 0, 1) := by decide +kernel
theorem dX8_paste_15 : decode cX8_paste 15 = .ok (.getfield 24, 3) := by decide +kernel
theorem dX8_paste_18 : decode cX8_paste 18 = .ok (.getfield 202, 3) := by decide +kernel
theorem dX8_paste_21 : decode cX8_paste 21 = .ok (.if_icmp .lt 9, 3) := by decide +kernel
theorem dX8_paste_24 : decode cX8_paste 24 = .ok (.aload_n 0, 1) := by decide +kernel
theorem dX8_paste_25 : decode cX8_paste 25 = .ok (.iconst 2, 1) := by decide +kernel
theorem dX8_paste_26 : decode cX8_paste 26 = .ok (.invokevirtual 70, 3) := by decide +kernel
theorem dX8_paste_29 : decode cX8_paste 29 = .ok (.ireturn, 1) := by decide +kernel
theorem dX8_paste_30 : decode cX8_paste 30 = .ok (.aload_n 0, 1) := by decide +kernel
theorem dX8_paste_31 : decode cX8_paste 31 = .ok (.getfield 28, 3) := by decide +kernel
theorem dX8_paste_34 : decode cX8_paste 34 = .ok (.aload_n 0, 1) := by decide +kernel
theorem dX8_paste_35 : decode cX8_paste 35 = .ok (.getfield 24, 3) := by decide +kernel
theorem dX8_paste_38 : decode cX8_paste 38 = .ok (.invokevirtual 127, 3) := by decide +kernel
theorem dX8_paste_41 : decode cX8_paste 41 = .ok (.iconst 0, 1) := by decide +kernel
theorem dX8_paste_42 : decode cX8_paste 42 = .ok (.istore_n 3, 1) := by decide +kernel
theorem dX8_paste_43 : decode cX8_paste 43 = .ok (.iload_n 3, 1) := by decide +kernel
theorem dX8_paste_44 : decode cX8_paste 44 = .ok (.bipush 6, 2) := by decide +kernel
theorem dX8_paste_46 : decode cX8_paste 46 = .ok (.if_icmp .gt 43, 3) := by decide +kernel
theorem dX8_paste_49 : decode cX8_paste 49 = .ok (.aload_n 0, 1) := by decide +kernel
theorem dX8_paste_50 : decode cX8_paste 50 = .ok (.iload_n 1, 1) := by decide +kernel
theorem dX8_paste_51 : decode cX8_paste 51 = .ok (.iload_n 3, 1) := by decide +kernel
theorem dX8_paste_52 : decode cX8_paste 52 = .ok (.invokevirtual 257, 3) := by decide +kernel
theorem dX8_paste_55 : decode cX8_paste 55 = .ok (.ifCond .eq 28, 3) := by decide +kernel
theorem dX8_paste_58 : decode cX8_paste 58 = .ok (.aload_n 0, 1) := by decide +kernel
theorem dX8_paste_59 : decode cX8_paste 59 = .ok (.getfield 11, 3) := by decide +kernel
theorem dX8_paste_62 : decode cX8_paste 62 = .ok (.iload_n 2, 1) := by decide +kernel
theorem dX8_paste_63 : decode cX8_paste 63 = .ok (.aaload, 1) := by decide +kernel
theorem dX8_paste_64 : decode cX8_paste 64 = .ok (.aload_n 0, 1) := by decide +kernel
theorem dX8_paste_65 : decode cX8_paste 65 = .ok (.getfield 56, 3) := by decide +kernel
theorem dX8_paste_68 : decode cX8_paste 68 = .ok (.getfield 260, 3) := by decide +kernel
theorem dX8_paste_71 : decode cX8_paste 71 = .ok (.aload_n 0, 1) := by decide +kernel
theorem dX8_paste_72 : decode cX8_paste 72 = .ok (.getfield 24, 3) := by decide +kernel
theorem dX8_paste_75 : decode cX8_paste 75 = .ok (.getfield 165, 3) := by decide +kernel
theorem dX8_paste_78 : decode cX8_paste 78 = .ok (.invokevirtual 250, 3) := by decide +kernel
theorem dX8_paste_81 : decode cX8_paste 81 = .ok (.iload_n 3, 1) := by decide +kernel
theorem dX8_paste_82 : decode cX8_paste 82 = .ok (.ireturn, 1) := by decide +kernel
theorem dX8_paste_83 : decode cX8_paste 83 = .ok (.iinc 3 1, 3) := by decide +kernel
theorem dX8_paste_86 : decode cX8_paste 86 = .ok (.goto (-43), 3) := by decide +kernel
theorem dX8_paste_89 : decode cX8_paste 89 = .ok (.bipush (-9), 2) := by decide +kernel
theorem dX8_paste_91 : decode cX8_paste 91 = .ok (.ireturn, 1) := by decide +kernel
set_option maxRecDepth 20000 in
theorem ggX8_tearOff_X8_areTwo : GoodIn wsX8_tearOff wsX8_areTwo := goodIn_r _ [18, 19, 20, 21, 17, 22, 2, 23, 36, 37, 38, 39, 40, 41, 42, 43, 44, 45, 46, 47, 48, 49, 50, 51, 52, 53, 54, 55, 56, 57, 58] (by decide +kernel) (by decide +kernel)
set_option maxRecDepth 20000 in
theorem gX8_tearOff_X8_areTwo : GoodIn wsX8_tearOff (wsV RX8 180 RX8 yX8_areTwo wsX8_areTwo) := goodIn_app (goodIn_of _ (by decide +kernel)) ggX8_tearOff_X8_areTwo
set_option maxRecDepth 20000 in
theorem ggX8_tearOff_X6_comesTo : GoodIn wsX8_tearOff wsX6_comesTo := goodIn_r _ [28, 29, 30, 31, 32, 33, 34, 8, 35, 48, 49, 50, 51, 52, 53, 54, 55, 56, 57, 58] (by decide +kernel) (by decide +kernel)
set_option maxRecDepth 20000 in
theorem gX8_tearOff_X6_comesTo : GoodIn wsX8_tearOff (wsV RX8 183 RX6 yX6_comesTo wsX6_comesTo) := goodIn_app (goodIn_of _ (by decide +kernel)) ggX8_tearOff_X6_comesTo
theorem dX8_tearOff_0 : decode cX8_tearOff 0 = .ok (.aload_n 0, 1) := by decide +kernel
theorem dX8_tearOff_1 : decode cX8_tearOff 1 = .ok (.iload_n 1, 1) := by decide +kernel
theorem dX8_tearOff_2 : decode cX8_tearOff 2 = .ok (.iload_n 2, 1) := by decide +kernel
theorem dX8_tearOff_3 : decode cX8_tearOff 3 = .ok (.invokevirtual 180, 3) := by decide +kernel
theorem dX8_tearOff_6 : decode cX8_tearOff 6 = .ok (.ifCond .ne 5, 3) := by decide +kernel
theorem dX8_tearOff_9 : decode cX8_tearOff 9 = .ok (.iconst (-1), 1) := by decide +kernel
theorem dX8_tearOff_10 : decode cX8_tearOff 10 = .ok (.ireturn, 1) := by decide +kernel
theorem dX8_tearOff_11 : decode cX8_tearOff 11 = .ok (.getstatic 263, 3) := by decide +kernel
theorem dX8_tearOff_14 : decode cX8_tearOff 14 = .ok (.aload_n 0, 1) := by decide +kernel
theorem dX8_tearOff_15 : decode cX8_tearOff 15 = .ok (.getfield 24, 3) := by decide +kernel
theorem dX8_tearOff_18 : decode cX8_tearOff 18 = .ok (.getfield 142, 3) := by decide +kernel
theorem dX8_tearOff_21 : decode cX8_tearOff 21 = .ok (.iload_n 1, 1) := by decide +kernel
theorem dX8_tearOff_22 : decode cX8_tearOff 22 = .ok (.iaload, 1) := by decide +kernel
theorem dX8_tearOff_23 : decode cX8_tearOff 23 = .ok (.iaload, 1) := by decide +kernel
theorem dX8_tearOff_24 : decode cX8_tearOff 24 = .ok (.aload_n 0, 1) := by decide +kernel
theorem dX8_tearOff_25 : decode cX8_tearOff 25 = .ok (.getfield 24, 3) := by decide +kernel
theorem dX8_tearOff_28 : decode cX8_tearOff 28 = .ok (.aload_n 0, 1) := by decide +kernel
theorem dX8_tearOff_29 : decode cX8_tearOff 29 = .ok (.getfield 24, 3) := by decide +kernel
theorem dX8_tearOff_32 : decode cX8_tearOff 32 = .ok (.getfield 177, 3) := by decide +kernel
theorem dX8_tearOff_35 : decode cX8_tearOff 35 = .ok (.iload_n 1, 1) := by decide +kernel
theorem dX8_tearOff_36 : decode cX8_tearOff 36 = .ok (.iaload, 1) := by decide +kernel
theorem dX8_tearOff_37 : decode cX8_tearOff 37 = .ok (.iload_n 2, 1) := by decide +kernel
theorem dX8_tearOff_38 : decode cX8_tearOff 38 = .ok (.invokevirtual 183, 3) := by decide +kernel
theorem dX8_tearOff_41 : decode cX8_tearOff 41 = .ok (.isub, 1) := by decide +kernel
theorem dX8_tearOff_42 : decode cX8_tearOff 42 = .ok (.istore_n 3, 1) := by decide +kernel
theorem dX8_tearOff_43 : decode cX8_tearOff 43 = .ok (.iload_n 3, 1) := by decide +kernel
theorem dX8_tearOff_44 : decode cX8_tearOff 44 = .ok (.ifCond .gt 11, 3) := by decide +kernel
theorem dX8_tearOff_47 : decode cX8_tearOff 47 = .ok (.aload_n 0, 1) := by decide +kernel
theorem dX8_tearOff_48 : decode cX8_tearOff 48 = .ok (.bipush (-9), 2) := by decide +kernel
theorem dX8_tearOff_50 : decode cX8_tearOff 50 = .ok (.putfield 92, 3) := by decide +kernel
theorem dX8_tearOff_53 : decode cX8_tearOff 53 = .ok (.iconst 0, 1) := by decide +kernel
theorem dX8_tearOff_54 : decode cX8_tearOff 54 = .ok (.ireturn, 1) := by decide +kernel
theorem dX8_tearOff_55 : decode cX8_tearOff 55 = .ok (.aload_n 0, 1) := by decide +kernel
theorem dX8_tearOff_56 : decode cX8_tearOff 56 = .ok (.getfield 24, 3) := by decide +kernel
theorem dX8_tearOff_59 : decode cX8_tearOff 59 = .ok (.getfield 177, 3) := by decide +kernel
theorem dX8_tearOff_62 : decode cX8_tearOff 62 = .ok (.iload_n 1, 1) := by decide +kernel
theorem dX8_tearOff_63 : decode cX8_tearOff 63 = .ok (.iaload, 1) := by decide +kernel
theorem dX8_tearOff_64 : decode cX8_tearOff 64 = .ok (.aload_n 0, 1) := by decide +kernel
theorem dX8_tearOff_65 : decode cX8_tearOff 65 = .ok (.getfield 24, 3) := by decide +kernel
theorem dX8_tearOff_68 : decode cX8_tearOff 68 = .ok (.getfield 177, 3) := by decide +kernel
theorem dX8_tearOff_71 : decode cX8_tearOff 71 = .ok (.iload_n 2, 1) := by decide +kernel
theorem dX8_tearOff_72 : decode cX8_tearOff 72 = .ok (.iaload, 1) := by decide +kernel
theorem dX8_tearOff_73 : decode cX8_tearOff 73 = .ok (.invokestatic 266, 3) := by decide +kernel
theorem dX8_tearOff_76 : decode cX8_tearOff 76 = .ok (.istore 4, 2) := by decide +kernel
theorem dX8_tearOff_78 : decode cX8_tearOff 78 = .ok (.aload_n 0, 1) := by decide +kernel
theorem dX8_tearOff_79 : decode cX8_tearOff 79 = .ok (.getfield 24, 3) := by decide +kernel
theorem dX8_tearOff_82 : decode cX8_tearOff 82 = .ok (.getfield 177, 3) := by decide +kernel
theorem dX8_tearOff_85 : decode cX8_tearOff 85 = .ok (.iload_n 1, 1) := by decide +kernel
theorem dX8_tearOff_86 : decode cX8_tearOff 86 = .ok (.iaload, 1) := by decide +kernel
theorem dX8_tearOff_87 : decode cX8_tearOff 87 = .ok (.aload_n 0, 1) := by decide +kernel
theorem dX8_tearOff_88 : decode cX8_tearOff 88 = .ok (.getfield 24, 3) := by decide +kernel
theorem dX8_tearOff_91 : decode cX8_tearOff 91 = .ok (.getfield 177, 3) := by decide +kernel
theorem dX8_tearOff_94 : decode cX8_tearOff 94 = .ok (.iload_n 2, 1) := by decide +kernel
theorem dX8_tearOff_95 : decode cX8_tearOff 95 = .ok (.iaload, 1) := by decide +kernel
theorem dX8_tearOff_96 : decode cX8_tearOff 96 = .ok (.invokestatic 271, 3) := by decide +kernel
theorem dX8_tearOff_99 : decode cX8_tearOff 99 = .ok (.istore 5, 2) := by decide +kernel
theorem dX8_tearOff_101 : decode cX8_tearOff 101 = .ok (.iload 4, 2) := by decide +kernel
theorem dX8_tearOff_103 : decode cX8_tearOff 103 = .ok (.istore 6, 2) := by decide +kernel
theorem dX8_tearOff_105 : decode cX8_tearOff 105 = .ok (.iload 6, 2) := by decide +kernel
theorem dX8_tearOff_107 : decode cX8_tearOff 107 = .ok (.iload 5, 2) := by decide +kernel
theorem dX8_tearOff_109 : decode cX8_tearOff 109 = .ok (.if_icmp .ge 31, 3) := by decide +kernel
theorem dX8_tearOff_112 : decode cX8_tearOff 112 = .ok (.aload_n 0, 1) := by decide +kernel
theorem dX8_tearOff_113 : decode cX8_tearOff 113 = .ok (.getfield 24, 3) := by decide +kernel
theorem dX8_tearOff_116 : decode cX8_tearOff 116 = .ok (.getfield 168, 3) := by decide +kernel
theorem dX8_tearOff_119 : decode cX8_tearOff 119 = .ok (.iload 6, 2) := by decide +kernel
theorem dX8_tearOff_121 : decode cX8_tearOff 121 = .ok (.iaload, 1) := by decide +kernel
theorem dX8_tearOff_122 : decode cX8_tearOff 122 = .ok (.iload_n 3, 1) := by decide +kernel
theorem dX8_tearOff_123 : decode cX8_tearOff 123 = .ok (.if_icmp .lt 11, 3) := by decide +kernel
theorem dX8_tearOff_126 : decode cX8_tearOff 126 = .ok (.aload_n 0, 1) := by decide +kernel
theorem dX8_tearOff_127 : decode cX8_tearOff 127 = .ok (.iload 6, 2) := by decide +kernel
theorem dX8_tearOff_129 : decode cX8_tearOff 129 = .ok (.putfield 92, 3) := by decide +kernel
theorem dX8_tearOff_132 : decode cX8_tearOff 132 = .ok (.iload_n 3, 1) := by decide +kernel
theorem dX8_tearOff_133 : decode cX8_tearOff 133 = .ok (.ireturn, 1) := by decide +kernel
theorem dX8_tearOff_134 : decode cX8_tearOff 134 = .ok (.iinc 6 1, 3) := by decide +kernel
theorem dX8_tearOff_137 : decode cX8_tearOff 137 = .ok (.goto (-32), 3) := by decide +kernel
theorem dX8_tearOff_140 : decode cX8_tearOff 140 = .ok (.bipush (-9), 2) := by decide +kernel
theorem dX8_tearOff_142 : decode cX8_tearOff 142 = .ok (.ireturn, 1) := by decide +kernel
set_option maxRecDepth 20000 in
theorem ggX8_comes_X8_isOne : GoodIn wsX8_comes wsX8_isOne := goodIn_r _ [7, 1, 8, 29, 30, 31, 32, 33, 34, 35, 36, 37, 38, 39, 40, 41, 42, 43, 44, 45, 46, 47, 48, 49, 50, 51] (by decide +kernel) (by decide +kernel)
set_option maxRecDepth 20000 in
theorem gX8_comes_X8_isOne : GoodIn wsX8_comes (wsV RX8 134 RX8 yX8_isOne wsX8_isOne) := goodIn_app (goodIn_of _ (by decide +kernel)) ggX8_comes_X8_isOne
set_option maxRecDepth 20000 in
theorem ggX8_comes_X8_isThing : GoodIn wsX8_comes wsX8_isThing := goodIn_r _ [11] (by decide +kernel) (by decide +kernel)
set_option maxRecDepth 20000 in
theorem gX8_comes_X8_isThing : GoodIn wsX8_comes (va_wsS RX8 278 yX8_isThing wsX8_isThing) := goodIn_app (goodIn_of _ (by decide +kernel)) ggX8_comes_X8_isThing
set_option maxRecDepth 20000 in
theorem ggX8_comes_X1_learn : GoodIn wsX8_comes wsX1_learn := goodIn_r _ [16, 17, 52, 53, 54, 55, 56, 57] (by decide +kernel) (by decide +kernel)
set_option maxRecDepth 20000 in
theorem gX8_comes_X1_learn : GoodIn wsX8_comes (wsV RX8 284 RX1 yX1_learn wsX1_learn) := goodIn_app (goodIn_of _ (by decide +kernel)) ggX8_comes_X1_learn
end
section
set_option maxRecDepth 20000 in
theorem ggX8_comes_X1_whoKnow : GoodIn wsX8_comes wsX1_whoKnow := goodIn_r _ [21, 17, 52, 53, 54, 55, 56, 57] (by decide +kernel) (by decide +kernel)
set_option maxRecDepth 20000 in
theorem gX8_comes_X1_whoKnow : GoodIn wsX8_comes (wsV RX8 290 RX1 yX1_whoKnow wsX1_whoKnow) := goodIn_app (goodIn_of _ (by decide +kernel)) ggX8_comes_X1_whoKnow
set_option maxRecDepth 20000 in
theorem ggX8_comes_J6_bitCount_0f7a4 : GoodIn wsX8_comes wsJ6_bitCount_0f7a4 := goodIn_r _ [25, 26, 27, 28] (by decide +kernel) (by decide +kernel)
set_option maxRecDepth 20000 in
theorem gX8_comes_J6_bitCount_0f7a4 : GoodIn wsX8_comes (va_wsS RX8 151 yJ6_bitCount_0f7a4 wsJ6_bitCount_0f7a4) := goodIn_app (goodIn_of _ (by decide +kernel)) ggX8_comes_J6_bitCount_0f7a4
theorem dX8_comes_0 : decode cX8_comes 0 = .ok (.aload_n 0, 1) := by decide +kernel
theorem dX8_comes_1 : decode cX8_comes 1 = .ok (.iload_n 1, 1) := by decide +kernel
theorem dX8_comes_2 : decode cX8_comes 2 = .ok (.invokevirtual 134, 3) := by decide +kernel
theorem dX8_comes_5 : decode cX8_comes 5 = .ok (.ifCond .eq 10, 3) := by decide +kernel
theorem dX8_comes_8 : decode cX8_comes 8 = .ok (.iload_n 2, 1) := by decide +kernel
theorem dX8_comes_9 : decode cX8_comes 9 = .ok (.invokestatic 278, 3) := by decide +kernel
theorem dX8_comes_12 : decode cX8_comes 12 = .ok (.ifCond .ne 5, 3) := by decide +kernel
theorem dX8_comes_15 : decode cX8_comes 15 = .ok (.iconst (-1), 1) := by decide +kernel
theorem dX8_comes_16 : decode cX8_comes 16 = .ok (.ireturn, 1) := by decide +kernel
theorem dX8_comes_17 : decode cX8_comes 17 = .ok (.aload_n 0, 1) := by decide +kernel
theorem dX8_comes_18 : decode cX8_comes 18 = .ok (.getfield 24, 3) := by decide +kernel
theorem dX8_comes_21 : decode cX8_comes 21 = .ok (.getfield 281, 3) := by decide +kernel
theorem dX8_comes_24 : decode cX8_comes 24 = .ok (.iload_n 2, 1) := by decide +kernel
theorem dX8_comes_25 : decode cX8_comes 25 = .ok (.iconst 1, 1) := by decide +kernel
theorem dX8_comes_26 : decode cX8_comes 26 = .ok (.iload_n 1, 1) := by decide +kernel
theorem dX8_comes_27 : decode cX8_comes 27 = .ok (.ishl, 1) := by decide +kernel
theorem dX8_comes_28 : decode cX8_comes 28 = .ok (.invokevirtual 284, 3) := by decide +kernel
theorem dX8_comes_31 : decode cX8_comes 31 = .ok (.aload_n 0, 1) := by decide +kernel
theorem dX8_comes_32 : decode cX8_comes 32 = .ok (.getfield 24, 3) := by decide +kernel
theorem dX8_comes_35 : decode cX8_comes 35 = .ok (.getfield 281, 3) := by decide +kernel
theorem dX8_comes_38 : decode cX8_comes 38 = .ok (.iload_n 2, 1) := by decide +kernel
theorem dX8_comes_39 : decode cX8_comes 39 = .ok (.invokevirtual 290, 3) := by decide +kernel
theorem dX8_comes_42 : decode cX8_comes 42 = .ok (.invokestatic 151, 3) := by decide +kernel
theorem dX8_comes_45 : decode cX8_comes 45 = .ok (.ireturn, 1) := by decide +kernel
set_option maxRecDepth 20000 in
theorem ggX8_tell_X8_isOne : GoodIn wsX8_tell wsX8_isOne := goodIn_r _ [8, 1, 9, 71, 72, 73, 74, 75, 76, 77, 78, 79, 80, 81, 82, 83, 84, 85, 86, 87, 88, 89, 90, 91, 92, 93] (by decide +kernel) (by decide +kernel)
set_option maxRecDepth 20000 in
theorem gX8_tell_X8_isOne : GoodIn wsX8_tell (wsV RX8 134 RX8 yX8_isOne wsX8_isOne) := goodIn_app (goodIn_of _ (by decide +kernel)) ggX8_tell_X8_isOne
set_option maxRecDepth 20000 in
theorem ggX8_tell_X8_isThing : GoodIn wsX8_tell wsX8_isThing := goodIn_r _ [12] (by decide +kernel) (by decide +kernel)
set_option maxRecDepth 20000 in
theorem gX8_tell_X8_isThing : GoodIn wsX8_tell (va_wsS RX8 278 yX8_isThing wsX8_isThing) := goodIn_app (goodIn_of _ (by decide +kernel)) ggX8_tell_X8_isThing
set_option maxRecDepth 20000 in
theorem ggX8_tell_X1_whoKnow : GoodIn wsX8_tell wsX1_whoKnow := goodIn_r _ [17, 18, 94, 95, 96, 97, 98, 99] (by decide +kernel) (by decide +kernel)
set_option maxRecDepth 20000 in
theorem gX8_tell_X1_whoKnow : GoodIn wsX8_tell (wsV RX8 290 RX1 yX1_whoKnow wsX1_whoKnow) := goodIn_app (goodIn_of _ (by decide +kernel)) ggX8_tell_X1_whoKnow
set_option maxRecDepth 20000 in
theorem ggX8_tell_X6_whoHear : GoodIn wsX8_tell wsX6_whoHear := goodIn_r _ [23, 24, 25, 26, 22, 27, 28, 29, 30, 31, 32, 33, 34, 35, 36, 37, 38, 39, 40, 41, 42, 43, 44, 45, 46, 47, 48, 49, 50, 51, 52, 53, 54, 55, 56, 57, 83, 84, 85, 86, 87, 88, 89, 90, 91, 92, 93] (by decide +kernel) (by decide +kernel)
set_option maxRecDepth 20000 in
theorem gX8_tell_X6_whoHear : GoodIn wsX8_tell (wsV RX8 148 RX6 yX6_whoHear wsX6_whoHear) := goodIn_app (goodIn_of _ (by decide +kernel)) ggX8_tell_X6_whoHear
set_option maxRecDepth 20000 in
theorem ggX8_tell_X1_add : GoodIn wsX8_tell wsX1_add := goodIn_r _ [61, 62, 63, 64, 65, 66, 18, 67, 68, 69, 16, 70, 94, 95, 96, 97, 98, 99] (by decide +kernel) (by decide +kernel)
set_option maxRecDepth 20000 in
theorem gX8_tell_X1_add : GoodIn wsX8_tell (wsV RX8 294 RX1 yX1_add wsX1_add) := goodIn_app (goodIn_of _ (by decide +kernel)) ggX8_tell_X1_add
theorem dX8_tell_0 : decode cX8_tell 0 = .ok (.aload_n 0, 1) := by decide +kernel
theorem dX8_tell_1 : decode cX8_tell 1 = .ok (.iload_n 1, 1) := by decide +kernel
theorem dX8_tell_2 : decode cX8_tell 2 = .ok (.invokevirtual 134, 3) := by decide +kernel
theorem dX8_tell_5 : decode cX8_tell 5 = .ok (.ifCond .eq 10, 3) := by decide +kernel
theorem dX8_tell_8 : decode cX8_tell 8 = .ok (.iload_n 2, 1) := by decide +kernel
theorem dX8_tell_9 : decode cX8_tell 9 = .ok (.invokestatic 278, 3) := by decide +kernel
theorem dX8_tell_12 : decode cX8_tell 12 = .ok (.ifCond .ne 5, 3) := by decide +kernel
theorem dX8_tell_15 : decode cX8_tell 15 = .ok (.iconst (-1), 1) := by decide +kernel
theorem dX8_tell_16 : decode cX8_tell 16 = .ok (.ireturn, 1) := by decide +kernel
theorem dX8_tell_17 : decode cX8_tell 17 = .ok (.aload_n 0, 1) := by decide +kernel
theorem dX8_tell_18 : decode cX8_tell 18 = .ok (.getfield 24, 3) := by decide +kernel
theorem dX8_tell_21 : decode cX8_tell 21 = .ok (.getfield 281, 3) := by decide +kernel
theorem dX8_tell_24 : decode cX8_tell 24 = .ok (.iload_n 2, 1) := by decide +kernel
theorem dX8_tell_25 : decode cX8_tell 25 = .ok (.invokevirtual 290, 3) := by decide +kernel
theorem dX8_tell_28 : decode cX8_tell 28 = .ok (.iload_n 1, 1) := by decide +kernel
theorem dX8_tell_29 : decode cX8_tell 29 = .ok (.ishr, 1) := by decide +kernel
theorem dX8_tell_30 : decode cX8_tell 30 = .ok (.iconst 1, 1) := by decide +kernel
theorem dX8_tell_31 : decode cX8_tell 31 = .ok (.iand, 1) := by decide +kernel
theorem dX8_tell_32 : decode cX8_tell 32 = .ok (.ifCond .ne 6, 3) := by decide +kernel
theorem dX8_tell_35 : decode cX8_tell 35 = .ok (.bipush (-4), 2) := by decide +kernel
theorem dX8_tell_37 : decode cX8_tell 37 = .ok (.ireturn, 1) := by decide +kernel
theorem dX8_tell_38 : decode cX8_tell 38 = .ok (.aload_n 0, 1) := by decide +kernel
theorem dX8_tell_39 : decode cX8_tell 39 = .ok (.getfield 24, 3) := by decide +kernel
theorem dX8_tell_42 : decode cX8_tell 42 = .ok (.getfield 281, 3) := by decide +kernel
theorem dX8_tell_45 : decode cX8_tell 45 = .ok (.getfield 293, 3) := by decide +kernel
theorem dX8_tell_48 : decode cX8_tell 48 = .ok (.bipush 40, 2) := by decide +kernel
theorem dX8_tell_50 : decode cX8_tell 50 = .ok (.if_icmp .lt 6, 3) := by decide +kernel
theorem dX8_tell_53 : decode cX8_tell 53 = .ok (.bipush (-2), 2) := by decide +kernel
theorem dX8_tell_55 : decode cX8_tell 55 = .ok (.ireturn, 1) := by decide +kernel
theorem dX8_tell_56 : decode cX8_tell 56 = .ok (.aload_n 0, 1) := by decide +kernel
theorem dX8_tell_57 : decode cX8_tell 57 = .ok (.getfield 24, 3) := by decide +kernel
theorem dX8_tell_60 : decode cX8_tell 60 = .ok (.getfield 281, 3) := by decide +kernel
theorem dX8_tell_63 : decode cX8_tell 63 = .ok (.iload_n 1, 1) := by decide +kernel
theorem dX8_tell_64 : decode cX8_tell 64 = .ok (.iload_n 2, 1) := by decide +kernel
theorem dX8_tell_65 : decode cX8_tell 65 = .ok (.aload_n 0, 1) := by decide +kernel
theorem dX8_tell_66 : decode cX8_tell 66 = .ok (.getfield 24, 3) := by decide +kernel
theorem dX8_tell_69 : decode cX8_tell 69 = .ok (.iload_n 1, 1) := by decide +kernel
theorem dX8_tell_70 : decode cX8_tell 70 = .ok (.iconst 0, 1) := by decide +kernel
theorem dX8_tell_71 : decode cX8_tell 71 = .ok (.invokevirtual 148, 3) := by decide +kernel
theorem dX8_tell_74 : decode cX8_tell 74 = .ok (.invokevirtual 294, 3) := by decide +kernel
theorem dX8_tell_77 : decode cX8_tell 77 = .ok (.aload_n 0, 1) := by decide +kernel
theorem dX8_tell_78 : decode cX8_tell 78 = .ok (.getfield 24, 3) := by decide +kernel
theorem dX8_tell_81 : decode cX8_tell 81 = .ok (.getfield 281, 3) := by decide +kernel
theorem dX8_tell_84 : decode cX8_tell 84 = .ok (.iload_n 2, 1) := by decide +kernel
theorem dX8_tell_85 : decode cX8_tell 85 = .ok (.invokevirtual 290, 3) := by decide +kernel
theorem dX8_tell_88 : decode cX8_tell 88 = .ok (.ireturn, 1) := by decide +kernel
set_option maxRecDepth 20000 in
theorem ggX8_undo_X1_backTo : GoodIn wsX8_undo wsX1_backTo := goodIn_r _ [8, 9, 10, 11, 35, 36, 37, 38, 39, 40] (by decide +kernel) (by decide +kernel)
set_option maxRecDepth 20000 in
theorem gX8_undo_X1_backTo : GoodIn wsX8_undo (wsV RX8 298 RX1 yX1_backTo wsX1_backTo) := goodIn_app (goodIn_of _ (by decide +kernel)) ggX8_undo_X1_backTo
theorem dX8_undo_0 : decode cX8_undo 0 = .ok (.iload_n 1, 1) := by decide +kernel
theorem dX8_undo_1 : decode cX8_undo 1 = .ok (.ifCond .lt 17, 3) := by decide +kernel
theorem dX8_undo_4 : decode cX8_undo 4 = .ok (.iload_n 1, 1) := by decide +kernel
theorem dX8_undo_5 : decode cX8_undo 5 = .ok (.aload_n 0, 1) := by decide +kernel
theorem dX8_undo_6 : decode cX8_undo 6 = .ok (.getfield 24, 3) := by decide +kernel
theorem dX8_undo_9 : decode cX8_undo 9 = .ok (.getfield 281, 3) := by decide +kernel
theorem dX8_undo_12 : decode cX8_undo 12 = .ok (.getfield 293, 3) := by decide +kernel
theorem dX8_undo_15 : decode cX8_undo 15 = .ok (.if_icmp .le 5, 3) := by decide +kernel
theorem dX8_undo_18 : decode cX8_undo 18 = .ok (.iconst (-1), 1) := by decide +kernel
theorem dX8_undo_19 : decode cX8_undo 19 = .ok (.ireturn, 1) := by decide +kernel
theorem dX8_undo_20 : decode cX8_undo 20 = .ok (.aload_n 0, 1) := by decide +kernel
theorem dX8_undo_21 : decode cX8_undo 21 = .ok (.getfield 24, 3) := by decide +kernel
theorem dX8_undo_24 : decode cX8_undo 24 = .ok (.getfield 281, 3) := by decide +kernel
theorem dX8_undo_27 : decode cX8_undo 27 = .ok (.getfield 293, 3) := by decide +kernel
theorem dX8_undo_30 : decode cX8_undo 30 = .ok (.iload_n 1, 1) := by decide +kernel
theorem dX8_undo_31 : decode cX8_undo 31 = .ok (.isub, 1) := by decide +kernel
theorem dX8_undo_32 : decode cX8_undo 32 = .ok (.istore_n 2, 1) := by decide +kernel
theorem dX8_undo_33 : decode cX8_undo 33 = .ok (.aload_n 0, 1) := by decide +kernel
theorem dX8_undo_34 : decode cX8_undo 34 = .ok (.getfield 24, 3) := by decide +kernel
theorem dX8_undo_37 : decode cX8_undo 37 = .ok (.getfield 281, 3) := by decide +kernel
theorem dX8_undo_40 : decode cX8_undo 40 = .ok (.iload_n 1, 1) := by decide +kernel
theorem dX8_undo_41 : decode cX8_undo 41 = .ok (.invokevirtual 298, 3) := by decide +kernel
theorem dX8_undo_44 : decode cX8_undo 44 = .ok (.iload_n 2, 1) := by decide +kernel
theorem dX8_undo_45 : decode cX8_undo 45 = .ok (.ireturn, 1) := by decide +kernel
set_option maxRecDepth 20000 in
theorem ggX8_know_X8_isThing : GoodIn wsX8_know wsX8_isThing := goodIn_r _ [6] (by decide +kernel) (by decide +kernel)
set_option maxRecDepth 20000 in
theorem gX8_know_X8_isThing : GoodIn wsX8_know (va_wsS RX8 278 yX8_isThing wsX8_isThing) := goodIn_app (goodIn_of _ (by decide +kernel)) ggX8_know_X8_isThing
set_option maxRecDepth 20000 in
theorem ggX8_know_X1_whoKnow : GoodIn wsX8_know wsX1_whoKnow := goodIn_r _ [11, 12, 36, 37, 38, 39, 40, 41] (by decide +kernel) (by decide +kernel)
set_option maxRecDepth 20000 in
theorem gX8_know_X1_whoKnow : GoodIn wsX8_know (wsV RX8 290 RX1 yX1_whoKnow wsX1_whoKnow) := goodIn_app (goodIn_of _ (by decide +kernel)) ggX8_know_X1_whoKnow
theorem dX8_know_0 : decode cX8_know 0 = .ok (.iload_n 1, 1) := by decide +kernel
theorem dX8_know_1 : decode cX8_know 1 = .ok (.invokestatic 278, 3) := by decide +kernel
theorem dX8_know_4 : decode cX8_know 4 = .ok (.ifCond .ne 5, 3) := by decide +kernel
theorem dX8_know_7 : decode cX8_know 7 = .ok (.iconst (-1), 1) := by decide +kernel
theorem dX8_know_8 : decode cX8_know 8 = .ok (.ireturn, 1) := by decide +kernel
theorem dX8_know_9 : decode cX8_know 9 = .ok (.aload_n 0, 1) := by decide +kernel
theorem dX8_know_10 : decode cX8_know 10 = .ok (.getfield 24, 3) := by decide +kernel
theorem dX8_know_13 : decode cX8_know 13 = .ok (.getfield 281, 3) := by decide +kernel
theorem dX8_know_16 : decode cX8_know 16 = .ok (.iload_n 1, 1) := by decide +kernel
theorem dX8_know_17 : decode cX8_know 17 = .ok (.invokevirtual 290, 3) := by decide +kernel
theorem dX8_know_20 : decode cX8_know 20 = .ok (.ireturn, 1) := by decide +kernel
set_option maxRecDepth 20000 in
theorem ggX8_knowsThat_X8_areTwo : GoodIn wsX8_knowsThat wsX8_areTwo := goodIn_r _ [9, 10, 11, 12, 8, 13, 1, 14, 47, 48, 49, 50, 51, 52, 53, 54, 55, 56, 57, 58, 59, 60, 61, 62, 63, 64, 65, 66, 67, 68, 69] (by decide +kernel) (by decide +kernel)
set_option maxRecDepth 20000 in
theorem gX8_knowsThat_X8_areTwo : GoodIn wsX8_knowsThat (wsV RX8 180 RX8 yX8_areTwo wsX8_areTwo) := goodIn_app (goodIn_of _ (by decide +kernel)) ggX8_knowsThat_X8_areTwo
set_option maxRecDepth 20000 in
theorem ggX8_knowsThat_X8_isThing : GoodIn wsX8_knowsThat wsX8_isThing := goodIn_r _ [17] (by decide +kernel) (by decide +kernel)
set_option maxRecDepth 20000 in
theorem gX8_knowsThat_X8_isThing : GoodIn wsX8_knowsThat (va_wsS RX8 278 yX8_isThing wsX8_isThing) := goodIn_app (goodIn_of _ (by decide +kernel)) ggX8_knowsThat_X8_isThing
set_option maxRecDepth 20000 in
theorem ggX8_knowsThat_X6_isHeardBy : GoodIn wsX8_knowsThat wsX6_isHeardBy := goodIn_r _ [22, 23, 24, 25, 26, 27, 21, 28, 29, 30, 31, 32, 33, 34, 35, 36, 37, 38, 39, 59, 60, 61, 62, 63, 64, 65, 66, 67, 68, 69] (by decide +kernel) (by decide +kernel)
set_option maxRecDepth 20000 in
theorem gX8_knowsThat_X6_isHeardBy : GoodIn wsX8_knowsThat (wsV RX8 186 RX6 yX6_isHeardBy wsX6_isHeardBy) := goodIn_app (goodIn_of _ (by decide +kernel)) ggX8_knowsThat_X6_isHeardBy
set_option maxRecDepth 20000 in
theorem ggX8_knowsThat_X1_showed : GoodIn wsX8_knowsThat wsX1_showed := goodIn_r _ [44, 45, 46, 70, 71, 72, 73, 74, 75] (by decide +kernel) (by decide +kernel)
set_option maxRecDepth 20000 in
theorem gX8_knowsThat_X1_showed : GoodIn wsX8_knowsThat (wsV RX8 304 RX1 yX1_showed wsX1_showed) := goodIn_app (goodIn_of _ (by decide +kernel)) ggX8_knowsThat_X1_showed
theorem dX8_knowsThat_0 : decode cX8_knowsThat 0 = .ok (.aload_n 0, 1) := by decide +kernel
theorem dX8_knowsThat_1 : decode cX8_knowsThat 1 = .ok (.iload_n 1, 1) := by decide +kernel
theorem dX8_knowsThat_2 : decode cX8_knowsThat 2 = .ok (.iload_n 2, 1) := by decide +kernel
theorem dX8_knowsThat_3 : decode cX8_knowsThat 3 = .ok (.invokevirtual 180, 3) := by decide +kernel
theorem dX8_knowsThat_6 : decode cX8_knowsThat 6 = .ok (.ifCond .eq 10, 3) := by decide +kernel
theorem dX8_knowsThat_9 : decode cX8_knowsThat 9 = .ok (.iload_n 3, 1) := by decide +kernel
theorem dX8_knowsThat_10 : decode cX8_knowsThat 10 = .ok (.invokestatic 278, 3) := by decide +kernel
theorem dX8_knowsThat_13 : decode cX8_knowsThat 13 = .ok (.ifCond .ne 5, 3) := by decide +kernel
theorem dX8_knowsThat_16 : decode cX8_knowsThat 16 = .ok (.iconst (-1), 1) := by decide +kernel
theorem dX8_knowsThat_17 : decode cX8_knowsThat 17 = .ok (.ireturn, 1) := by decide +kernel
theorem dX8_knowsThat_18 : decode cX8_knowsThat 18 = .ok (.aload_n 0, 1) := by decide +kernel
theorem dX8_knowsThat_19 : decode cX8_knowsThat 19 = .ok (.getfield 24, 3) := by decide +kernel
theorem dX8_knowsThat_22 : decode cX8_knowsThat 22 = .ok (.iload_n 1, 1) := by decide +kernel
theorem dX8_knowsThat_23 : decode cX8_knowsThat 23 = .ok (.iload_n 2, 1) := by decide +kernel
theorem dX8_knowsThat_24 : decode cX8_knowsThat 24 = .ok (.invokevirtual 186, 3) := by decide +kernel
theorem dX8_knowsThat_27 : decode cX8_knowsThat 27 = .ok (.istore 4, 2) := by decide +kernel
theorem dX8_knowsThat_29 : decode cX8_knowsThat 29 = .ok (.iconst 0, 1) := by decide +kernel
theorem dX8_knowsThat_30 : decode cX8_knowsThat 30 = .ok (.istore 5, 2) := by decide +kernel
theorem dX8_knowsThat_32 : decode cX8_knowsThat 32 = .ok (.iload 5, 2) := by decide +kernel
theorem dX8_knowsThat_34 : decode cX8_knowsThat 34 = .ok (.aload_n 0, 1) := by decide +kernel
theorem dX8_knowsThat_35 : decode cX8_knowsThat 35 = .ok (.getfield 24, 3) := by decide +kernel
theorem dX8_knowsThat_38 : decode cX8_knowsThat 38 = .ok (.getfield 281, 3) := by decide +kernel
theorem dX8_knowsThat_41 : decode cX8_knowsThat 41 = .ok (.getfield 293, 3) := by decide +kernel
theorem dX8_knowsThat_44 : decode cX8_knowsThat 44 = .ok (.if_icmp .ge 47, 3) := by decide +kernel
theorem dX8_knowsThat_47 : decode cX8_knowsThat 47 = .ok (.aload_n 0, 1) := by decide +kernel
theorem dX8_knowsThat_48 : decode cX8_knowsThat 48 = .ok (.getfield 24, 3) := by decide +kernel
theorem dX8_knowsThat_51 : decode cX8_knowsThat 51 = .ok (.getfield 281, 3) := by decide +kernel
theorem dX8_knowsThat_54 : decode cX8_knowsThat 54 = .ok (.getfield 301, 3) := by decide +kernel
theorem dX8_knowsThat_57 : decode cX8_knowsThat 57 = .ok (.iload 5, 2) := by decide +kernel
theorem dX8_knowsThat_59 : decode cX8_knowsThat 59 = .ok (.iaload, 1) := by decide +kernel
theorem dX8_knowsThat_60 : decode cX8_knowsThat 60 = .ok (.iload_n 3, 1) := by decide +kernel
theorem dX8_knowsThat_61 : decode cX8_knowsThat 61 = .ok (.if_icmp .ne 24, 3) := by decide +kernel
theorem dX8_knowsThat_64 : decode cX8_knowsThat 64 = .ok (.aload_n 0, 1) := by decide +kernel
theorem dX8_knowsThat_65 : decode cX8_knowsThat 65 = .ok (.getfield 24, 3) := by decide +kernel
theorem dX8_knowsThat_68 : decode cX8_knowsThat 68 = .ok (.getfield 281, 3) := by decide +kernel
theorem dX8_knowsThat_71 : decode cX8_knowsThat 71 = .ok (.iload 5, 2) := by decide +kernel
theorem dX8_knowsThat_73 : decode cX8_knowsThat 73 = .ok (.iload_n 1, 1) := by decide +kernel
theorem dX8_knowsThat_74 : decode cX8_knowsThat 74 = .ok (.iload_n 2, 1) := by decide +kernel
theorem dX8_knowsThat_75 : decode cX8_knowsThat 75 = .ok (.iload 4, 2) := by decide +kernel
theorem dX8_knowsThat_77 : decode cX8_knowsThat 77 = .ok (.invokevirtual 304, 3) := by decide +kernel
theorem dX8_knowsThat_80 : decode cX8_knowsThat 80 = .ok (.ifCond .eq 5, 3) := by decide +kernel
theorem dX8_knowsThat_83 : decode cX8_knowsThat 83 = .ok (.iconst 1, 1) := by decide +kernel
theorem dX8_knowsThat_84 : decode cX8_knowsThat 84 = .ok (.ireturn, 1) := by decide +kernel
theorem dX8_knowsThat_85 : decode cX8_knowsThat 85 = .ok (.iinc 5 1, 3) := by decide +kernel
theorem dX8_knowsThat_88 : decode cX8_knowsThat 88 = .ok (.goto (-56), 3) := by decide +kernel
theorem dX8_knowsThat_91 : decode cX8_knowsThat 91 = .ok (.iconst 0, 1) := by decide +kernel
theorem dX8_knowsThat_92 : decode cX8_knowsThat 92 = .ok (.ireturn, 1) := by decide +kernel
set_option maxRecDepth 20000 in
theorem ggX8_spread_X8_isThing : GoodIn wsX8_spread wsX8_isThing := goodIn_r _ [7] (by decide +kernel) (by decide +kernel)
set_option maxRecDepth 20000 in
theorem gX8_spread_X8_isThing : GoodIn wsX8_spread (va_wsS RX8 278 yX8_isThing wsX8_isThing) := goodIn_app (goodIn_of _ (by decide +kernel)) ggX8_spread_X8_isThing
set_option maxRecDepth 20000 in
theorem ggX8_spread_X1_whoKnow : GoodIn wsX8_spread wsX1_whoKnow := goodIn_r _ [12, 13, 76, 77, 78, 79, 80, 81] (by decide +kernel) (by decide +kernel)
set_option maxRecDepth 20000 in
theorem gX8_spread_X1_whoKnow : GoodIn wsX8_spread (wsV RX8 290 RX1 yX1_whoKnow wsX1_whoKnow) := goodIn_app (goodIn_of _ (by decide +kernel)) ggX8_spread_X1_whoKnow
set_option maxRecDepth 20000 in
theorem ggX8_spread_X6_whoHear : GoodIn wsX8_spread wsX6_whoHear := goodIn_r _ [18, 19, 20, 21, 17, 22, 23, 24, 25, 26, 27, 28, 29, 30, 31, 32, 33, 34, 35, 36, 37, 38, 39, 40, 41, 42, 43, 44, 45, 46, 47, 48, 49, 50, 51, 52, 65, 66, 67, 68, 69, 70, 71, 72, 73, 74, 75] (by decide +kernel) (by decide +kernel)
set_option maxRecDepth 20000 in
theorem gX8_spread_X6_whoHear : GoodIn wsX8_spread (wsV RX8 148 RX6 yX6_whoHear wsX6_whoHear) := goodIn_app (goodIn_of _ (by decide +kernel)) ggX8_spread_X6_whoHear
theorem dX8_spread_0 : decode cX8_spread 0 = .ok (.iload_n 1, 1) := by decide +kernel
theorem dX8_spread_1 : decode cX8_spread 1 = .ok (.invokestatic 278, 3) := by decide +kernel
theorem dX8_spread_4 : decode cX8_spread 4 = .ok (.ifCond .eq 13, 3) := by decide +kernel
theorem dX8_spread_7 : decode cX8_spread 7 = .ok (.iload_n 2, 1) := by decide +kernel
theorem dX8_spread_8 : decode cX8_spread 8 = .ok (.ifCond .lt 9, 3) := by decide +kernel
theorem dX8_spread_11 : decode cX8_spread 11 = .ok (.iload_n 2, 1) := by decide +kernel
theorem dX8_spread_12 : decode cX8_spread 12 = .ok (.bipush 20, 2) := by decide +kernel
theorem dX8_spread_14 : decode cX8_spread 14 = .ok (.if_icmp .le 5, 3) := by decide +kernel
theorem dX8_spread_17 : decode cX8_spread 17 = .ok (.iconst (-1), 1) := by decide +kernel
theorem dX8_spread_18 : decode cX8_spread 18 = .ok (.ireturn, 1) := by decide +kernel
theorem dX8_spread_19 : decode cX8_spread 19 = .ok (.aload_n 0, 1) := by decide +kernel
theorem dX8_spread_20 : decode cX8_spread 20 = .ok (.getfield 24, 3) := by decide +kernel
theorem dX8_spread_23 : decode cX8_spread 23 = .ok (.getfield 281, 3) := by decide +kernel
theorem dX8_spread_26 : decode cX8_spread 26 = .ok (.iload_n 1, 1) := by decide +kernel
theorem dX8_spread_27 : decode cX8_spread 27 = .ok (.invokevirtual 290, 3) := by decide +kernel
theorem dX8_spread_30 : decode cX8_spread 30 = .ok (.istore_n 3, 1) := by decide +kernel
theorem dX8_spread_31 : decode cX8_spread 31 = .ok (.iconst 0, 1) := by decide +kernel
theorem dX8_spread_32 : decode cX8_spread 32 = .ok (.istore 4, 2) := by decide +kernel
theorem dX8_spread_34 : decode cX8_spread 34 = .ok (.iload 4, 2) := by decide +kernel
theorem dX8_spread_36 : decode cX8_spread 36 = .ok (.iload_n 2, 1) := by decide +kernel
theorem dX8_spread_37 : decode cX8_spread 37 = .ok (.if_icmp .ge 56, 3) := by decide +kernel
theorem dX8_spread_40 : decode cX8_spread 40 = .ok (.iload_n 3, 1) := by decide +kernel
theorem dX8_spread_41 : decode cX8_spread 41 = .ok (.istore 5, 2) := by decide +kernel
theorem dX8_spread_43 : decode cX8_spread 43 = .ok (.iconst 0, 1) := by decide +kernel
theorem dX8_spread_44 : decode cX8_spread 44 = .ok (.istore 6, 2) := by decide +kernel
theorem dX8_spread_46 : decode cX8_spread 46 = .ok (.iload 6, 2) := by decide +kernel
theorem dX8_spread_48 : decode cX8_spread 48 = .ok (.aload_n 0, 1) := by decide +kernel
theorem dX8_spread_49 : decode cX8_spread 49 = .ok (.getfield 24, 3) := by decide +kernel
theorem dX8_spread_52 : decode cX8_spread 52 = .ok (.getfield 131, 3) := by decide +kernel
theorem dX8_spread_55 : decode cX8_spread 55 = .ok (.if_icmp .ge 32, 3) := by decide +kernel
theorem dX8_spread_58 : decode cX8_spread 58 = .ok (.iload 5, 2) := by decide +kernel
theorem dX8_spread_60 : decode cX8_spread 60 = .ok (.iload 6, 2) := by decide +kernel
theorem dX8_spread_62 : decode cX8_spread 62 = .ok (.ishr, 1) := by decide +kernel
theorem dX8_spread_63 : decode cX8_spread 63 = .ok (.iconst 1, 1) := by decide +kernel
theorem dX8_spread_64 : decode cX8_spread 64 = .ok (.iand, 1) := by decide +kernel
theorem dX8_spread_65 : decode cX8_spread 65 = .ok (.ifCond .eq 16, 3) := by decide +kernel
theorem dX8_spread_68 : decode cX8_spread 68 = .ok (.iload_n 3, 1) := by decide +kernel
theorem dX8_spread_69 : decode cX8_spread 69 = .ok (.aload_n 0, 1) := by decide +kernel
theorem dX8_spread_70 : decode cX8_spread 70 = .ok (.getfield 24, 3) := by decide +kernel
theorem dX8_spread_73 : decode cX8_spread 73 = .ok (.iload 6, 2) := by decide +kernel
theorem dX8_spread_75 : decode cX8_spread 75 = .ok (.iconst 0, 1) := by decide +kernel
theorem dX8_spread_76 : decode cX8_spread 76 = .ok (.invokevirtual 148, 3) := by decide +kernel
theorem dX8_spread_79 : decode cX8_spread 79 = .ok (.ior, 1) := by decide +kernel
theorem dX8_spread_80 : decode cX8_spread 80 = .ok (.istore_n 3, 1) := by decide +kernel
theorem dX8_spread_81 : decode cX8_spread 81 = .ok (.iinc 6 1, 3) := by decide +kernel
theorem dX8_spread_84 : decode cX8_spread 84 = .ok (.goto (-38), 3) := by decide +kernel
theorem dX8_spread_87 : decode cX8_spread 87 = .ok (.iinc 4 1, 3) := by decide +kernel
theorem dX8_spread_90 : decode cX8_spread 90 = .ok (.goto (-56), 3) := by decide +kernel
theorem dX8_spread_93 : decode cX8_spread 93 = .ok (.iload_n 3, 1) := by decide +kernel
theorem dX8_spread_94 : decode cX8_spread 94 = .ok (.ireturn, 1) := by decide +kernel
set_option maxRecDepth 20000 in
theorem ggX8_leak_X8_isSet : GoodIn wsX8_leak wsX8_isSet := goodIn_r _ [7, 1, 8, 9, 10, 11, 12, 13, 52, 53, 54, 55, 56, 57, 58, 59, 60, 61, 62, 63, 64, 65, 66, 67, 68, 69, 70, 71, 72, 73, 74] (by decide +kernel) (by decide +kernel)
set_option maxRecDepth 20000 in
theorem gX8_leak_X8_isSet : GoodIn wsX8_leak (wsV RX8 189 RX8 yX8_isSet wsX8_isSet) := goodIn_app (goodIn_of _ (by decide +kernel)) ggX8_leak_X8_isSet
set_option maxRecDepth 20000 in
theorem ggX8_leak_X6_circleOf : GoodIn wsX8_leak wsX6_circleOf := goodIn_r _ [17, 18, 19, 20, 11, 21, 22, 9, 10, 12, 13, 23, 24, 25, 26, 27, 28, 29, 30, 31, 32, 33, 34, 35, 36, 37, 38, 39, 40, 41, 42, 43, 44, 45, 46, 47, 48, 49, 50, 51, 64, 65, 66, 67, 68, 69, 70, 71, 72, 73, 74] (by decide +kernel) (by decide +kernel)
set_option maxRecDepth 20000 in
theorem gX8_leak_X6_circleOf : GoodIn wsX8_leak (wsV RX8 308 RX6 yX6_circleOf wsX6_circleOf) := goodIn_app (goodIn_of _ (by decide +kernel)) ggX8_leak_X6_circleOf
theorem dX8_leak_0 : decode cX8_leak 0 = .ok (.aload_n 0, 1) := by decide +kernel
theorem dX8_leak_1 : decode cX8_leak 1 = .ok (.iload_n 1, 1) := by decide +kernel
theorem dX8_leak_2 : decode cX8_leak 2 = .ok (.invokevirtual 189, 3) := by decide +kernel
theorem dX8_leak_5 : decode cX8_leak 5 = .ok (.ifCond .ne 5, 3) := by decide +kernel
theorem dX8_leak_8 : decode cX8_leak 8 = .ok (.iconst (-1), 1) := by decide +kernel
theorem dX8_leak_9 : decode cX8_leak 9 = .ok (.ireturn, 1) := by decide +kernel
theorem dX8_leak_10 : decode cX8_leak 10 = .ok (.iconst 0, 1) := by decide +kernel
theorem dX8_leak_11 : decode cX8_leak 11 = .ok (.istore_n 2, 1) := by decide +kernel
theorem dX8_leak_12 : decode cX8_leak 12 = .ok (.iconst 0, 1) := by decide +kernel
theorem dX8_leak_13 : decode cX8_leak 13 = .ok (.istore_n 3, 1) := by decide +kernel
theorem dX8_leak_14 : decode cX8_leak 14 = .ok (.iload_n 3, 1) := by decide +kernel
theorem dX8_leak_15 : decode cX8_leak 15 = .ok (.aload_n 0, 1) := by decide +kernel
theorem dX8_leak_16 : decode cX8_leak 16 = .ok (.getfield 24, 3) := by decide +kernel
theorem dX8_leak_19 : decode cX8_leak 19 = .ok (.getfield 131, 3) := by decide +kernel
theorem dX8_leak_22 : decode cX8_leak 22 = .ok (.if_icmp .ge 27, 3) := by decide +kernel
theorem dX8_leak_25 : decode cX8_leak 25 = .ok (.aload_n 0, 1) := by decide +kernel
theorem dX8_leak_26 : decode cX8_leak 26 = .ok (.getfield 24, 3) := by decide +kernel
theorem dX8_leak_29 : decode cX8_leak 29 = .ok (.iload_n 3, 1) := by decide +kernel
theorem dX8_leak_30 : decode cX8_leak 30 = .ok (.invokevirtual 308, 3) := by decide +kernel
theorem dX8_leak_33 : decode cX8_leak 33 = .ok (.iload_n 1, 1) := by decide +kernel
theorem dX8_leak_34 : decode cX8_leak 34 = .ok (.if_icmp .ne 9, 3) := by decide +kernel
theorem dX8_leak_37 : decode cX8_leak 37 = .ok (.iload_n 2, 1) := by decide +kernel
theorem dX8_leak_38 : decode cX8_leak 38 = .ok (.iconst 1, 1) := by decide +kernel
theorem dX8_leak_39 : decode cX8_leak 39 = .ok (.iload_n 3, 1) := by decide +kernel
theorem dX8_leak_40 : decode cX8_leak 40 = .ok (.ishl, 1) := by decide +kernel
theorem dX8_leak_41 : decode cX8_leak 41 = .ok (.ior, 1) := by decide +kernel
theorem dX8_leak_42 : decode cX8_leak 42 = .ok (.istore_n 2, 1) := by decide +kernel
theorem dX8_leak_43 : decode cX8_leak 43 = .ok (.iinc 3 1, 3) := by decide +kernel
theorem dX8_leak_46 : decode cX8_leak 46 = .ok (.goto (-32), 3) := by decide +kernel
theorem dX8_leak_49 : decode cX8_leak 49 = .ok (.iload_n 2, 1) := by decide +kernel
theorem dX8_leak_50 : decode cX8_leak 50 = .ok (.ireturn, 1) := by decide +kernel
set_option maxRecDepth 20000 in
theorem ggX8_leaks_X8_isSet : GoodIn wsX8_leaks wsX8_isSet := goodIn_r _ [7, 1, 8, 9, 10, 11, 12, 13, 52, 53, 54, 55, 56, 57, 58, 59, 60, 61, 62, 63, 64, 65, 66, 67, 68, 69, 70, 71, 72, 73, 74] (by decide +kernel) (by decide +kernel)
set_option maxRecDepth 20000 in
theorem gX8_leaks_X8_isSet : GoodIn wsX8_leaks (wsV RX8 189 RX8 yX8_isSet wsX8_isSet) := goodIn_app (goodIn_of _ (by decide +kernel)) ggX8_leaks_X8_isSet
set_option maxRecDepth 20000 in
theorem ggX8_leaks_X6_circleOf : GoodIn wsX8_leaks wsX6_circleOf := goodIn_r _ [17, 18, 19, 20, 11, 21, 22, 9, 10, 12, 13, 23, 24, 25, 26, 27, 28, 29, 30, 31, 32, 33, 34, 35, 36, 37, 38, 39, 40, 41, 42, 43, 44, 45, 46, 47, 48, 49, 50, 51, 64, 65, 66, 67, 68, 69, 70, 71, 72, 73, 74] (by decide +kernel) (by decide +kernel)
set_option maxRecDepth 20000 in
theorem gX8_leaks_X6_circleOf : GoodIn wsX8_leaks (wsV RX8 308 RX6 yX6_circleOf wsX6_circleOf) := goodIn_app (goodIn_of _ (by decide +kernel)) ggX8_leaks_X6_circleOf
theorem dX8_leaks_0 : decode cX8_leaks 0 = .ok (.aload_n 0, 1) := by decide +kernel
theorem dX8_leaks_1 : decode cX8_leaks 1 = .ok (.iload_n 1, 1) := by decide +kernel
theorem dX8_leaks_2 : decode cX8_leaks 2 = .ok (.invokevirtual 189, 3) := by decide +kernel
theorem dX8_leaks_5 : decode cX8_leaks 5 = .ok (.ifCond .ne 5, 3) := by decide +kernel
theorem dX8_leaks_8 : decode cX8_leaks 8 = .ok (.iconst (-1), 1) := by decide +kernel
theorem dX8_leaks_9 : decode cX8_leaks 9 = .ok (.ireturn, 1) := by decide +kernel
theorem dX8_leaks_10 : decode cX8_leaks 10 = .ok (.iconst 0, 1) := by decide +kernel
theorem dX8_leaks_11 : decode cX8_leaks 11 = .ok (.istore_n 2, 1) := by decide +kernel
theorem dX8_leaks_12 : decode cX8_leaks 12 = .ok (.iconst 0, 1) := by decide +kernel
theorem dX8_leaks_13 : decode cX8_leaks 13 = .ok (.istore_n 3, 1) := by decide +kernel
theorem dX8_leaks_14 : decode cX8_leaks 14 = .ok (.iload_n 3, 1) := by decide +kernel
theorem dX8_leaks_15 : decode cX8_leaks 15 = .ok (.aload_n 0, 1) := by decide +kernel
theorem dX8_leaks_16 : decode cX8_leaks 16 = .ok (.getfield 24, 3) := by decide +kernel
theorem dX8_leaks_19 : decode cX8_leaks 19 = .ok (.getfield 131, 3) := by decide +kernel
theorem dX8_leaks_22 : decode cX8_leaks 22 = .ok (.if_icmp .ge 69, 3) := by decide +kernel
theorem dX8_leaks_25 : decode cX8_leaks 25 = .ok (.aload_n 0, 1) := by decide +kernel
theorem dX8_leaks_26 : decode cX8_leaks 26 = .ok (.getfield 24, 3) := by decide +kernel
theorem dX8_leaks_29 : decode cX8_leaks 29 = .ok (.iload_n 3, 1) := by decide +kernel
theorem dX8_leaks_30 : decode cX8_leaks 30 = .ok (.invokevirtual 308, 3) := by decide +kernel
theorem dX8_leaks_33 : decode cX8_leaks 33 = .ok (.istore 4, 2) := by decide +kernel
theorem dX8_leaks_35 : decode cX8_leaks 35 = .ok (.iconst 0, 1) := by decide +kernel
theorem dX8_leaks_36 : decode cX8_leaks 36 = .ok (.istore 5, 2) := by decide +kernel
theorem dX8_leaks_38 : decode cX8_leaks 38 = .ok (.iload 5, 2) := by decide +kernel
theorem dX8_leaks_40 : decode cX8_leaks 40 = .ok (.aload_n 0, 1) := by decide +kernel
theorem dX8_leaks_41 : decode cX8_leaks 41 = .ok (.getfield 24, 3) := by decide +kernel
theorem dX8_leaks_44 : decode cX8_leaks 44 = .ok (.getfield 131, 3) := by decide +kernel
theorem dX8_leaks_47 : decode cX8_leaks 47 = .ok (.if_icmp .ge 38, 3) := by decide +kernel
theorem dX8_leaks_50 : decode cX8_leaks 50 = .ok (.iload 4, 2) := by decide +kernel
theorem dX8_leaks_52 : decode cX8_leaks 52 = .ok (.iload 5, 2) := by decide +kernel
theorem dX8_leaks_54 : decode cX8_leaks 54 = .ok (.ishr, 1) := by decide +kernel
theorem dX8_leaks_55 : decode cX8_leaks 55 = .ok (.iconst 1, 1) := by decide +kernel
theorem dX8_leaks_56 : decode cX8_leaks 56 = .ok (.iand, 1) := by decide +kernel
theorem dX8_leaks_57 : decode cX8_leaks 57 = .ok (.ifCond .eq 22, 3) := by decide +kernel
theorem dX8_leaks_60 : decode cX8_leaks 60 = .ok (.iload 4, 2) := by decide +kernel
theorem dX8_leaks_62 : decode cX8_leaks 62 = .ok (.aload_n 0, 1) := by decide +kernel
theorem dX8_leaks_63 : decode cX8_leaks 63 = .ok (.getfield 24, 3) := by decide +kernel
theorem dX8_leaks_66 : decode cX8_leaks 66 = .ok (.iload 5, 2) := by decide +kernel
theorem dX8_leaks_68 : decode cX8_leaks 68 = .ok (.invokevirtual 308, 3) := by decide +kernel
theorem dX8_leaks_71 : decode cX8_leaks 71 = .ok (.ior, 1) := by decide +kernel
theorem dX8_leaks_72 : decode cX8_leaks 72 = .ok (.iload_n 1, 1) := by decide +kernel
theorem dX8_leaks_73 : decode cX8_leaks 73 = .ok (.if_icmp .ne 6, 3) := by decide +kernel
theorem dX8_leaks_76 : decode cX8_leaks 76 = .ok (.iinc 2 1, 3) := by decide +kernel
theorem dX8_leaks_79 : decode cX8_leaks 79 = .ok (.iinc 5 1, 3) := by decide +kernel
theorem dX8_leaks_82 : decode cX8_leaks 82 = .ok (.goto (-44), 3) := by decide +kernel
theorem dX8_leaks_85 : decode cX8_leaks 85 = .ok (.iinc 3 1, 3) := by decide +kernel
theorem dX8_leaks_88 : decode cX8_leaks 88 = .ok (.goto (-74), 3) := by decide +kernel
theorem dX8_leaks_91 : decode cX8_leaks 91 = .ok (.iload_n 2, 1) := by decide +kernel
theorem dX8_leaks_92 : decode cX8_leaks 92 = .ok (.ireturn, 1) := by decide +kernel
set_option maxRecDepth 20000 in
theorem ggX8_keep_X8_isPlace : GoodIn wsX8_keep wsX8_isPlace := goodIn_r _ [10] (by decide +kernel) (by decide +kernel)
set_option maxRecDepth 20000 in
theorem gX8_keep_X8_isPlace : GoodIn wsX8_keep (va_wsS RX8 311 yX8_isPlace wsX8_isPlace) := goodIn_app (goodIn_of _ (by decide +kernel)) ggX8_keep_X8_isPlace
set_option maxRecDepth 20000 in
theorem ggX8_keep_X6_become : GoodIn wsX8_keep wsX6_become := goodIn_r _ [15, 16, 17, 18, 19, 20, 21, 22, 23, 24, 25, 26, 27, 28, 29, 30, 31, 32, 33, 34, 35, 36, 37, 38, 39, 40, 41, 42, 55, 56, 57, 58, 59, 60, 61, 62, 63, 64, 65, 66, 67, 68, 69, 70, 71] (by decide +kernel) (by decide +kernel)
set_option maxRecDepth 20000 in
theorem gX8_keep_X6_become : GoodIn wsX8_keep (wsV RX8 127 RX6 yX6_become wsX6_become) := goodIn_app (goodIn_of _ (by decide +kernel)) ggX8_keep_X6_become
theorem dX8_keep_0 : decode cX8_keep 0 = .ok (.iload_n 1, 1) := by decide +kernel
theorem dX8_keep_1 : decode cX8_keep 1 = .ok (.invokestatic 311, 3) := by decide +kernel
theorem dX8_keep_4 : decode cX8_keep 4 = .ok (.ifCond .ne 5, 3) := by decide +kernel
theorem dX8_keep_7 : decode cX8_keep 7 = .ok (.iconst (-1), 1) := by decide +kernel
theorem dX8_keep_8 : decode cX8_keep 8 = .ok (.ireturn, 1) := by decide +kernel
theorem dX8_keep_9 : decode cX8_keep 9 = .ok (.aload_n 0, 1) := by decide +kernel
theorem dX8_keep_10 : decode cX8_keep 10 = .ok (.getfield 24, 3) := by decide +kernel
theorem dX8_keep_13 : decode cX8_keep 13 = .ok (.getfield 131, 3) := by decide +kernel
theorem dX8_keep_16 : decode cX8_keep 16 = .ok (.ifCond .ne 6, 3) := by decide +kernel
theorem dX8_keep_19 : decode cX8_keep 19 = .ok (.bipush (-4), 2) := by decide +kernel
theorem dX8_keep_21 : decode cX8_keep 21 = .ok (.ireturn, 1) := by decide +kernel
theorem dX8_keep_22 : decode cX8_keep 22 = .ok (.aload_n 0, 1) := by decide +kernel
theorem dX8_keep_23 : decode cX8_keep 23 = .ok (.getfield 31, 3) := by decide +kernel
theorem dX8_keep_26 : decode cX8_keep 26 = .ok (.iload_n 1, 1) := by decide +kernel
theorem dX8_keep_27 : decode cX8_keep 27 = .ok (.aaload, 1) := by decide +kernel
theorem dX8_keep_28 : decode cX8_keep 28 = .ok (.aload_n 0, 1) := by decide +kernel
theorem dX8_keep_29 : decode cX8_keep 29 = .ok (.getfield 24, 3) := by decide +kernel
theorem dX8_keep_32 : decode cX8_keep 32 = .ok (.invokevirtual 127, 3) := by decide +kernel
theorem dX8_keep_35 : decode cX8_keep 35 = .ok (.aload_n 0, 1) := by decide +kernel
theorem dX8_keep_36 : decode cX8_keep 36 = .ok (.getfield 35, 3) := by decide +kernel
theorem dX8_keep_39 : decode cX8_keep 39 = .ok (.iload_n 1, 1) := by decide +kernel
theorem dX8_keep_40 : decode cX8_keep 40 = .ok (.iconst 1, 1) := by decide +kernel
theorem dX8_keep_41 : decode cX8_keep 41 = .ok (.bastore, 1) := by decide +kernel
theorem dX8_keep_42 : decode cX8_keep 42 = .ok (.aload_n 0, 1) := by decide +kernel
theorem dX8_keep_43 : decode cX8_keep 43 = .ok (.getfield 24, 3) := by decide +kernel
theorem dX8_keep_46 : decode cX8_keep 46 = .ok (.getfield 281, 3) := by decide +kernel
theorem dX8_keep_49 : decode cX8_keep 49 = .ok (.getfield 293, 3) := by decide +kernel
theorem dX8_keep_52 : decode cX8_keep 52 = .ok (.ireturn, 1) := by decide +kernel
set_option maxRecDepth 20000 in
theorem ggX8_on_X8_isPlace : GoodIn wsX8_on wsX8_isPlace := goodIn_r _ [9] (by decide +kernel) (by decide +kernel)
set_option maxRecDepth 20000 in
theorem gX8_on_X8_isPlace : GoodIn wsX8_on (va_wsS RX8 311 yX8_isPlace wsX8_isPlace) := goodIn_app (goodIn_of _ (by decide +kernel)) ggX8_on_X8_isPlace
set_option maxRecDepth 20000 in
theorem ggX8_on_X8_find : GoodIn wsX8_on wsX8_find := goodIn_r _ [13, 14, 15, 48, 49, 50, 51, 52, 53, 54, 55, 56, 57, 58, 59] (by decide +kernel) (by decide +kernel)
set_option maxRecDepth 20000 in
theorem gX8_on_X8_find : GoodIn wsX8_on (wsV RX8 70 RX8 yX8_find wsX8_find) := goodIn_app (goodIn_of _ (by decide +kernel)) ggX8_on_X8_find
set_option maxRecDepth 20000 in
theorem ggX8_on_X6_become : GoodIn wsX8_on wsX6_become := goodIn_r _ [20, 21, 22, 23, 24, 25, 26, 27, 28, 29, 30, 31, 32, 33, 34, 35, 36, 37, 38, 39, 40, 41, 42, 43, 44, 45, 46, 47, 60, 61, 62, 63, 64, 65, 66, 67, 68, 69, 70, 71, 72, 73, 74, 75, 76] (by decide +kernel) (by decide +kernel)
set_option maxRecDepth 20000 in
theorem gX8_on_X6_become : GoodIn wsX8_on (wsV RX8 127 RX6 yX6_become wsX6_become) := goodIn_app (goodIn_of _ (by decide +kernel)) ggX8_on_X6_become
theorem dX8_on_0 : decode cX8_on 0 = .ok (.iload_n 1, 1) := by decide +kernel
theorem dX8_on_1 : decode cX8_on 1 = .ok (.invokestatic 311, 3) := by decide +kernel
theorem dX8_on_4 : decode cX8_on 4 = .ok (.ifCond .ne 5, 3) := by decide +kernel
theorem dX8_on_7 : decode cX8_on 7 = .ok (.iconst (-1), 1) := by decide +kernel
theorem dX8_on_8 : decode cX8_on 8 = .ok (.ireturn, 1) := by decide +kernel
theorem dX8_on_9 : decode cX8_on 9 = .ok (.aload_n 0, 1) := by decide +kernel
theorem dX8_on_10 : decode cX8_on 10 = .ok (.getfield 35, 3) := by decide +kernel
theorem dX8_on_13 : decode cX8_on 13 = .ok (.iload_n 1, 1) := by decide +kernel
theorem dX8_on_14 : decode cX8_on 14 = .ok (.baload, 1) := by decide +kernel
theorem dX8_on_15 : decode cX8_on 15 = .ok (.ifCond .ne 9, 3) := by decide +kernel
theorem dX8_on_18 : decode cX8_on 18 = .ok (.aload_n 0, 1) := by decide +kernel
theorem dX8_on_19 : decode cX8_on 19 = .ok (.iconst 1, 1) := by decide +kernel
theorem dX8_on_20 : decode cX8_on 20 = .ok (.invokevirtual 70, 3) := by decide +kernel
theorem dX8_on_23 : decode cX8_on 23 = .ok (.ireturn, 1) := by decide +kernel
theorem dX8_on_24 : decode cX8_on 24 = .ok (.aload_n 0, 1) := by decide +kernel
theorem dX8_on_25 : decode cX8_on 25 = .ok (.getfield 24, 3) := by decide +kernel
theorem dX8_on_28 : decode cX8_on 28 = .ok (.aload_n 0, 1) := by decide +kernel
theorem dX8_on_29 : decode cX8_on 29 = .ok (.getfield 31, 3) := by decide +kernel
theorem dX8_on_32 : decode cX8_on 32 = .ok (.iload_n 1, 1) := by decide +kernel
theorem dX8_on_33 : decode cX8_on 33 = .ok (.aaload, 1) := by decide +kernel
theorem dX8_on_34 : decode cX8_on 34 = .ok (.invokevirtual 127, 3) := by decide +kernel
theorem dX8_on_37 : decode cX8_on 37 = .ok (.aload_n 0, 1) := by decide +kernel
theorem dX8_on_38 : decode cX8_on 38 = .ok (.getfield 24, 3) := by decide +kernel
theorem dX8_on_41 : decode cX8_on 41 = .ok (.getfield 281, 3) := by decide +kernel
theorem dX8_on_44 : decode cX8_on 44 = .ok (.getfield 293, 3) := by decide +kernel
theorem dX8_on_47 : decode cX8_on 47 = .ok (.ireturn, 1) := by decide +kernel
theorem dX8_asked_0 : decode cX8_asked 0 = .ok (.aload_n 0, 1) := by decide +kernel
theorem dX8_asked_1 : decode cX8_asked 1 = .ok (.getfield 92, 3) := by decide +kernel
theorem dX8_asked_4 : decode cX8_asked 4 = .ok (.ireturn, 1) := by decide +kernel
set_option maxRecDepth 20000 in
theorem ggX8_upper_X6_heardPairs : GoodIn wsX8_upper wsX6_heardPairs := goodIn_r _ [6, 7, 8, 9, 10, 5, 11, 12, 13, 14, 15, 16, 17, 18, 19, 20, 21, 22, 23, 24, 25, 26, 27, 28, 29, 30, 31, 32, 33, 34, 35, 36, 37, 38, 39, 40, 41, 42, 43, 44, 45, 46, 47, 48, 49, 50, 51, 73, 74, 75, 76, 77, 78, 79, 80, 81, 82, 83] (by decide +kernel) (by decide +kernel)
set_option maxRecDepth 20000 in
theorem gX8_upper_X6_heardPairs : GoodIn wsX8_upper (wsV RX8 319 RX6 yX6_heardPairs wsX6_heardPairs) := goodIn_app (goodIn_of _ (by decide +kernel)) ggX8_upper_X6_heardPairs
set_option maxRecDepth 20000 in
theorem ggX8_upper_X6_pairs : GoodIn wsX8_upper wsX6_pairs := goodIn_r _ [55, 7, 23, 24, 25, 26, 73, 74, 75, 76, 77, 78, 79, 80, 81, 82, 83] (by decide +kernel) (by decide +kernel)
set_option maxRecDepth 20000 in
theorem gX8_upper_X6_pairs : GoodIn wsX8_upper (wsV RX8 322 RX6 yX6_pairs wsX6_pairs) := goodIn_app (goodIn_of _ (by decide +kernel)) ggX8_upper_X6_pairs
set_option maxRecDepth 20000 in
theorem ggX8_upper_X8_commonDivisor : GoodIn wsX8_upper wsX8_commonDivisor := goodIn_r _ [59, 60, 24, 25, 26] (by decide +kernel) (by decide +kernel)
set_option maxRecDepth 20000 in
theorem gX8_upper_X8_commonDivisor : GoodIn wsX8_upper (va_wsS RX8 325 yX8_commonDivisor wsX8_commonDivisor) := goodIn_app (goodIn_of _ (by decide +kernel)) ggX8_upper_X8_commonDivisor
theorem dX8_upper_0 : decode cX8_upper 0 = .ok (.aload_n 0, 1) := by decide +kernel
theorem dX8_upper_1 : decode cX8_upper 1 = .ok (.getfield 24, 3) := by decide +kernel
theorem dX8_upper_4 : decode cX8_upper 4 = .ok (.invokevirtual 319, 3) := by decide +kernel
theorem dX8_upper_7 : decode cX8_upper 7 = .ok (.istore_n 1, 1) := by decide +kernel
theorem dX8_upper_8 : decode cX8_upper 8 = .ok (.iload_n 1, 1) := by decide +kernel
theorem dX8_upper_9 : decode cX8_upper 9 = .ok (.iload_n 1, 1) := by decide +kernel
theorem dX8_upper_10 : decode cX8_upper 10 = .ok (.aload_n 0, 1) := by decide +kernel
theorem dX8_upper_11 : decode cX8_upper 11 = .ok (.getfield 24, 3) := by decide +kernel
theorem dX8_upper_14 : decode cX8_upper 14 = .ok (.invokevirtual 322, 3) := by decide +kernel
theorem dX8_upper_17 : decode cX8_upper 17 = .ok (.invokestatic 325, 3) := by decide +kernel
theorem dX8_upper_20 : decode cX8_upper 20 = .ok (.idiv, 1) := by decide +kernel
theorem dX8_upper_21 : decode cX8_upper 21 = .ok (.i2l, 1) := by decide +kernel
theorem dX8_upper_22 : decode cX8_upper 22 = .ok (.lreturn, 1) := by decide +kernel
set_option maxRecDepth 20000 in
theorem ggX8_lower_X6_pairs : GoodIn wsX8_lower wsX6_pairs := goodIn_r _ [6, 7, 8, 9, 10, 11, 73, 74, 75, 76, 77, 78, 79, 80, 81, 82, 83] (by decide +kernel) (by decide +kernel)
set_option maxRecDepth 20000 in
theorem gX8_lower_X6_pairs : GoodIn wsX8_lower (wsV RX8 322 RX6 yX6_pairs wsX6_pairs) := goodIn_app (goodIn_of _ (by decide +kernel)) ggX8_lower_X6_pairs
set_option maxRecDepth 20000 in
theorem ggX8_lower_X6_heardPairs : GoodIn wsX8_lower wsX6_heardPairs := goodIn_r _ [15, 7, 16, 17, 18, 5, 19, 20, 21, 22, 23, 24, 25, 26, 27, 28, 29, 30, 8, 9, 10, 11, 31, 32, 33, 34, 35, 36, 37, 38, 39, 40, 41, 42, 43, 44, 45, 46, 47, 48, 49, 50, 51, 52, 53, 54, 55, 73, 74, 75, 76, 77, 78, 79, 80, 81, 82, 83] (by decide +kernel) (by decide +kernel)
set_option maxRecDepth 20000 in
theorem gX8_lower_X6_heardPairs : GoodIn wsX8_lower (wsV RX8 319 RX6 yX6_heardPairs wsX6_heardPairs) := goodIn_app (goodIn_of _ (by decide +kernel)) ggX8_lower_X6_heardPairs
set_option maxRecDepth 20000 in
theorem ggX8_lower_X8_commonDivisor : GoodIn wsX8_lower wsX8_commonDivisor := goodIn_r _ [59, 60, 9, 10, 11] (by decide +kernel) (by decide +kernel)
set_option maxRecDepth 20000 in
theorem gX8_lower_X8_commonDivisor : GoodIn wsX8_lower (va_wsS RX8 325 yX8_commonDivisor wsX8_commonDivisor) := goodIn_app (goodIn_of _ (by decide +kernel)) ggX8_lower_X8_commonDivisor
theorem dX8_lower_0 : decode cX8_lower 0 = .ok (.aload_n 0, 1) := by decide +kernel
theorem dX8_lower_1 : decode cX8_lower 1 = .ok (.getfield 24, 3) := by decide +kernel
theorem dX8_lower_4 : decode cX8_lower 4 = .ok (.invokevirtual 322, 3) := by decide +kernel
theorem dX8_lower_7 : decode cX8_lower 7 = .ok (.istore_n 1, 1) := by decide +kernel
theorem dX8_lower_8 : decode cX8_lower 8 = .ok (.iload_n 1, 1) := by decide +kernel
theorem dX8_lower_9 : decode cX8_lower 9 = .ok (.ifCond .ne 7, 3) := by decide +kernel
theorem dX8_lower_12 : decode cX8_lower 12 = .ok (.lconst 1, 1) := by decide +kernel
theorem dX8_lower_13 : decode cX8_lower 13 = .ok (.goto 17, 3) := by decide +kernel
theorem dX8_lower_16 : decode cX8_lower 16 = .ok (.iload_n 1, 1) := by decide +kernel
theorem dX8_lower_17 : decode cX8_lower 17 = .ok (.aload_n 0, 1) := by decide +kernel
theorem dX8_lower_18 : decode cX8_lower 18 = .ok (.getfield 24, 3) := by decide +kernel
theorem dX8_lower_21 : decode cX8_lower 21 = .ok (.invokevirtual 319, 3) := by decide +kernel
theorem dX8_lower_24 : decode cX8_lower 24 = .ok (.iload_n 1, 1) := by decide +kernel
theorem dX8_lower_25 : decode cX8_lower 25 = .ok (.invokestatic 325, 3) := by decide +kernel
theorem dX8_lower_28 : decode cX8_lower 28 = .ok (.idiv, 1) := by decide +kernel
theorem dX8_lower_29 : decode cX8_lower 29 = .ok (.i2l, 1) := by decide +kernel
theorem dX8_lower_30 : decode cX8_lower 30 = .ok (.lreturn, 1) := by decide +kernel
set_option maxRecDepth 20000 in
theorem ggX8_count_X6_howManyOf : GoodIn wsX8_count wsX6_howManyOf := goodIn_r _ [11, 12, 13, 14, 15, 16, 17, 18, 59, 60, 61, 62, 63, 64, 65, 66, 67, 68, 69] (by decide +kernel) (by decide +kernel)
set_option maxRecDepth 20000 in
theorem gX8_count_X6_howManyOf : GoodIn wsX8_count (wsV RX8 328 RX6 yX6_howManyOf wsX6_howManyOf) := goodIn_app (goodIn_of _ (by decide +kernel)) ggX8_count_X6_howManyOf
set_option maxRecDepth 20000 in
theorem ggX8_count_X8_howManyRows : GoodIn wsX8_count wsX8_howManyRows := goodIn_r _ [23, 24, 25, 26, 27, 28, 29, 30, 47, 48, 49, 50, 51, 52, 53, 54, 55, 56, 57, 58, 76, 77] (by decide +kernel) (by decide +kernel)
set_option maxRecDepth 20000 in
theorem gX8_count_X8_howManyRows : GoodIn wsX8_count (wsV RX8 331 RX8 yX8_howManyRows wsX8_howManyRows) := goodIn_app (goodIn_of _ (by decide +kernel)) ggX8_count_X8_howManyRows
set_option maxRecDepth 20000 in
theorem ggX8_count_X8_howManyTexts : GoodIn wsX8_count wsX8_howManyTexts := goodIn_r _ [34, 35, 36, 37, 38, 39, 40, 41, 47, 48, 49, 50, 51, 52, 53, 54, 55, 56, 57, 58, 78, 79] (by decide +kernel) (by decide +kernel)
set_option maxRecDepth 20000 in
theorem gX8_count_X8_howManyTexts : GoodIn wsX8_count (wsV RX8 334 RX8 yX8_howManyTexts wsX8_howManyTexts) := goodIn_app (goodIn_of _ (by decide +kernel)) ggX8_count_X8_howManyTexts
set_option maxRecDepth 20000 in
theorem ggX8_count_X8_howManyKept : GoodIn wsX8_count wsX8_howManyKept := goodIn_r _ [45, 46, 47, 48, 49, 50, 51, 52, 53, 54, 55, 56, 57, 58] (by decide +kernel) (by decide +kernel)
set_option maxRecDepth 20000 in
theorem gX8_count_X8_howManyKept : GoodIn wsX8_count (wsV RX8 337 RX8 yX8_howManyKept wsX8_howManyKept) := goodIn_app (goodIn_of _ (by decide +kernel)) ggX8_count_X8_howManyKept
theorem dX8_count_0 : decode cX8_count 0 = .ok (.iload_n 1, 1) := by decide +kernel
theorem dX8_count_1 : decode cX8_count 1 = .ok (.tableswitch 119 0 8 #[51, 59, 67, 75, 86, 95, 104, 109, 114], 51) := by decide +kernel
theorem dX8_count_52 : decode cX8_count 52 = .ok (.aload_n 0, 1) := by decide +kernel
theorem dX8_count_53 : decode cX8_count 53 = .ok (.getfield 24, 3) := by decide +kernel
theorem dX8_count_56 : decode cX8_count 56 = .ok (.getfield 131, 3) := by decide +kernel
theorem dX8_count_59 : decode cX8_count 59 = .ok (.ireturn, 1) := by decide +kernel
theorem dX8_count_60 : decode cX8_count 60 = .ok (.aload_n 0, 1) := by decide +kernel
theorem dX8_count_61 : decode cX8_count 61 = .ok (.getfield 24, 3) := by decide +kernel
theorem dX8_count_64 : decode cX8_count 64 = .ok (.getfield 165, 3) := by decide +kernel
theorem dX8_count_67 : decode cX8_count 67 = .ok (.ireturn, 1) := by decide +kernel
theorem dX8_count_68 : decode cX8_count 68 = .ok (.aload_n 0, 1) := by decide +kernel
theorem dX8_count_69 : decode cX8_count 69 = .ok (.getfield 24, 3) := by decide +kernel
theorem dX8_count_72 : decode cX8_count 72 = .ok (.getfield 202, 3) := by decide +kernel
theorem dX8_count_75 : decode cX8_count 75 = .ok (.ireturn, 1) := by decide +kernel
theorem dX8_count_76 : decode cX8_count 76 = .ok (.aload_n 0, 1) := by decide +kernel
theorem dX8_count_77 : decode cX8_count 77 = .ok (.getfield 24, 3) := by decide +kernel
theorem dX8_count_80 : decode cX8_count 80 = .ok (.getfield 281, 3) := by decide +kernel
theorem dX8_count_83 : decode cX8_count 83 = .ok (.getfield 293, 3) := by decide +kernel
theorem dX8_count_86 : decode cX8_count 86 = .ok (.ireturn, 1) := by decide +kernel
theorem dX8_count_87 : decode cX8_count 87 = .ok (.aload_n 0, 1) := by decide +kernel
theorem dX8_count_88 : decode cX8_count 88 = .ok (.getfield 24, 3) := by decide +kernel
theorem dX8_count_91 : decode cX8_count 91 = .ok (.iconst 1, 1) := by decide +kernel
theorem dX8_count_92 : decode cX8_count 92 = .ok (.invokevirtual 328, 3) := by decide +kernel
theorem dX8_count_95 : decode cX8_count 95 = .ok (.ireturn, 1) := by decide +kernel
theorem dX8_count_96 : decode cX8_count 96 = .ok (.aload_n 0, 1) := by decide +kernel
theorem dX8_count_97 : decode cX8_count 97 = .ok (.getfield 24, 3) := by decide +kernel
theorem dX8_count_100 : decode cX8_count 100 = .ok (.iconst 2, 1) := by decide +kernel
theorem dX8_count_101 : decode cX8_count 101 = .ok (.invokevirtual 328, 3) := by decide +kernel
theorem dX8_count_104 : decode cX8_count 104 = .ok (.ireturn, 1) := by decide +kernel
theorem dX8_count_105 : decode cX8_count 105 = .ok (.aload_n 0, 1) := by decide +kernel
theorem dX8_count_106 : decode cX8_count 106 = .ok (.invokevirtual 331, 3) := by decide +kernel
theorem dX8_count_109 : decode cX8_count 109 = .ok (.ireturn, 1) := by decide +kernel
theorem dX8_count_110 : decode cX8_count 110 = .ok (.aload_n 0, 1) := by decide +kernel
theorem dX8_count_111 : decode cX8_count 111 = .ok (.invokevirtual 334, 3) := by decide +kernel
theorem dX8_count_114 : decode cX8_count 114 = .ok (.ireturn, 1) := by decide +kernel
theorem dX8_count_115 : decode cX8_count 115 = .ok (.aload_n 0, 1) := by decide +kernel
theorem dX8_count_116 : decode cX8_count 116 = .ok (.invokevirtual 337, 3) := by decide +kernel
theorem dX8_count_119 : decode cX8_count 119 = .ok (.ireturn, 1) := by decide +kernel
theorem dX8_count_120 : decode cX8_count 120 = .ok (.iconst (-1), 1) := by decide +kernel
theorem dX8_count_121 : decode cX8_count 121 = .ok (.ireturn, 1) := by decide +kernel
theorem dX8_isRow_0 : decode cX8_isRow 0 = .ok (.iload_n 0, 1) := by decide +kernel
theorem dX8_isRow_1 : decode cX8_isRow 1 = .ok (.ifCond .lt 13, 3) := by decide +kernel
theorem dX8_isRow_4 : decode cX8_isRow 4 = .ok (.iload_n 0, 1) := by decide +kernel
theorem dX8_isRow_5 : decode cX8_isRow 5 = .ok (.bipush 6, 2) := by decide +kernel
theorem dX8_isRow_7 : decode cX8_isRow 7 = .ok (.if_icmp .ge 7, 3) := by decide +kernel
theorem dX8_isRow_10 : decode cX8_isRow 10 = .ok (.iconst 1, 1) := by decide +kernel
theorem dX8_isRow_11 : decode cX8_isRow 11 = .ok (.goto 4, 3) := by decide +kernel
theorem dX8_isRow_14 : decode cX8_isRow 14 = .ok (.iconst 0, 1) := by decide +kernel
theorem dX8_isRow_15 : decode cX8_isRow 15 = .ok (.ireturn, 1) := by decide +kernel
theorem dX8_isText_0 : decode cX8_isText 0 = .ok (.iload_n 0, 1) := by decide +kernel
theorem dX8_isText_1 : decode cX8_isText 1 = .ok (.ifCond .lt 12, 3) := by decide +kernel
theorem dX8_isText_4 : decode cX8_isText 4 = .ok (.iload_n 0, 1) := by decide +kernel
theorem dX8_isText_5 : decode cX8_isText 5 = .ok (.iconst 4, 1) := by decide +kernel
theorem dX8_isText_6 : decode cX8_isText 6 = .ok (.if_icmp .ge 7, 3) := by decide +kernel
theorem dX8_isText_9 : decode cX8_isText 9 = .ok (.iconst 1, 1) := by decide +kernel
theorem dX8_isText_10 : decode cX8_isText 10 = .ok (.goto 4, 3) := by decide +kernel
theorem dX8_isText_13 : decode cX8_isText 13 = .ok (.iconst 0, 1) := by decide +kernel
theorem dX8_isText_14 : decode cX8_isText 14 = .ok (.ireturn, 1) := by decide +kernel
theorem dX8_isPlace_0 : decode cX8_isPlace 0 = .ok (.iload_n 0, 1) := by decide +kernel
theorem dX8_isPlace_1 : decode cX8_isPlace 1 = .ok (.ifCond .lt 12, 3) := by decide +kernel
theorem dX8_isPlace_4 : decode cX8_isPlace 4 = .ok (.iload_n 0, 1) := by decide +kernel
theorem dX8_isPlace_5 : decode cX8_isPlace 5 = .ok (.iconst 3, 1) := by decide +kernel
theorem dX8_isPlace_6 : decode cX8_isPlace 6 = .ok (.if_icmp .ge 7, 3) := by decide +kernel
theorem dX8_isPlace_9 : decode cX8_isPlace 9 = .ok (.iconst 1, 1) := by decide +kernel
theorem dX8_isPlace_10 : decode cX8_isPlace 10 = .ok (.goto 4, 3) := by decide +kernel
theorem dX8_isPlace_13 : decode cX8_isPlace 13 = .ok (.iconst 0, 1) := by decide +kernel
theorem dX8_isPlace_14 : decode cX8_isPlace 14 = .ok (.ireturn, 1) := by decide +kernel
theorem dX8_isThing_0 : decode cX8_isThing 0 = .ok (.iload_n 0, 1) := by decide +kernel
theorem dX8_isThing_1 : decode cX8_isThing 1 = .ok (.ifCond .lt 13, 3) := by decide +kernel
theorem dX8_isThing_4 : decode cX8_isThing 4 = .ok (.iload_n 0, 1) := by decide +kernel
theorem dX8_isThing_5 : decode cX8_isThing 5 = .ok (.bipush 8, 2) := by decide +kernel
theorem dX8_isThing_7 : decode cX8_isThing 7 = .ok (.if_icmp .ge 7, 3) := by decide +kernel
theorem dX8_isThing_10 : decode cX8_isThing 10 = .ok (.iconst 1, 1) := by decide +kernel
theorem dX8_isThing_11 : decode cX8_isThing 11 = .ok (.goto 4, 3) := by decide +kernel
theorem dX8_isThing_14 : decode cX8_isThing 14 = .ok (.iconst 0, 1) := by decide +kernel
theorem dX8_isThing_15 : decode cX8_isThing 15 = .ok (.ireturn, 1) := by decide +kernel
theorem dX8_isOne_0 : decode cX8_isOne 0 = .ok (.iload_n 1, 1) := by decide +kernel
theorem dX8_isOne_1 : decode cX8_isOne 1 = .ok (.ifCond .lt 18, 3) := by decide +kernel
theorem dX8_isOne_4 : decode cX8_isOne 4 = .ok (.iload_n 1, 1) := by decide +kernel
theorem dX8_isOne_5 : decode cX8_isOne 5 = .ok (.aload_n 0, 1) := by decide +kernel
theorem dX8_isOne_6 : decode cX8_isOne 6 = .ok (.getfield 24, 3) := by decide +kernel
theorem dX8_isOne_9 : decode cX8_isOne 9 = .ok (.getfield 131, 3) := by decide +kernel
theorem dX8_isOne_12 : decode cX8_isOne 12 = .ok (.if_icmp .ge 7, 3) := by decide +kernel
theorem dX8_isOne_15 : decode cX8_isOne 15 = .ok (.iconst 1, 1) := by decide +kernel
theorem dX8_isOne_16 : decode cX8_isOne 16 = .ok (.goto 4, 3) := by decide +kernel
theorem dX8_isOne_19 : decode cX8_isOne 19 = .ok (.iconst 0, 1) := by decide +kernel
theorem dX8_isOne_20 : decode cX8_isOne 20 = .ok (.ireturn, 1) := by decide +kernel
set_option maxRecDepth 20000 in
theorem ggX8_areTwo_X8_isOne : GoodIn wsX8_areTwo wsX8_isOne := goodIn_r _ [5, 6, 7, 8, 9, 10, 11, 12, 13, 14, 15, 16, 17, 18, 19, 20, 21, 22, 23, 24, 25, 26, 27, 28, 29, 30] (by decide +kernel) (by decide +kernel)
set_option maxRecDepth 20000 in
theorem gX8_areTwo_X8_isOne : GoodIn wsX8_areTwo (wsV RX8 134 RX8 yX8_isOne wsX8_isOne) := goodIn_app (goodIn_of _ (by decide +kernel)) ggX8_areTwo_X8_isOne
theorem dX8_areTwo_0 : decode cX8_areTwo 0 = .ok (.aload_n 0, 1) := by decide +kernel
theorem dX8_areTwo_1 : decode cX8_areTwo 1 = .ok (.iload_n 1, 1) := by decide +kernel
theorem dX8_areTwo_2 : decode cX8_areTwo 2 = .ok (.invokevirtual 134, 3) := by decide +kernel
theorem dX8_areTwo_5 : decode cX8_areTwo 5 = .ok (.ifCond .eq 20, 3) := by decide +kernel
theorem dX8_areTwo_8 : decode cX8_areTwo 8 = .ok (.aload_n 0, 1) := by decide +kernel
theorem dX8_areTwo_9 : decode cX8_areTwo 9 = .ok (.iload_n 2, 1) := by decide +kernel
theorem dX8_areTwo_10 : decode cX8_areTwo 10 = .ok (.invokevirtual 134, 3) := by decide +kernel
theorem dX8_areTwo_13 : decode cX8_areTwo 13 = .ok (.ifCond .eq 12, 3) := by decide +kernel
theorem dX8_areTwo_16 : decode cX8_areTwo 16 = .ok (.iload_n 1, 1) := by decide +kernel
theorem dX8_areTwo_17 : decode cX8_areTwo 17 = .ok (.iload_n 2, 1) := by decide +kernel
theorem dX8_areTwo_18 : decode cX8_areTwo 18 = .ok (.if_icmp .eq 7, 3) := by decide +kernel
theorem dX8_areTwo_21 : decode cX8_areTwo 21 = .ok (.iconst 1, 1) := by decide +kernel
theorem dX8_areTwo_22 : decode cX8_areTwo 22 = .ok (.goto 4, 3) := by decide +kernel
theorem dX8_areTwo_25 : decode cX8_areTwo 25 = .ok (.iconst 0, 1) := by decide +kernel
theorem dX8_areTwo_26 : decode cX8_areTwo 26 = .ok (.ireturn, 1) := by decide +kernel
set_option maxRecDepth 20000 in
theorem ggX8_isSet_X6_everyone : GoodIn wsX8_isSet wsX6_everyone := goodIn_r _ [6, 7, 20, 21, 22, 23, 24, 25, 26, 27, 28, 29, 30] (by decide +kernel) (by decide +kernel)
set_option maxRecDepth 20000 in
theorem gX8_isSet_X6_everyone : GoodIn wsX8_isSet (wsV RX8 192 RX6 yX6_everyone wsX6_everyone) := goodIn_app (goodIn_of _ (by decide +kernel)) ggX8_isSet_X6_everyone
theorem dX8_isSet_0 : decode cX8_isSet 0 = .ok (.iload_n 1, 1) := by decide +kernel
theorem dX8_isSet_1 : decode cX8_isSet 1 = .ok (.ifCond .lt 18, 3) := by decide +kernel
theorem dX8_isSet_4 : decode cX8_isSet 4 = .ok (.iload_n 1, 1) := by decide +kernel
theorem dX8_isSet_5 : decode cX8_isSet 5 = .ok (.aload_n 0, 1) := by decide +kernel
theorem dX8_isSet_6 : decode cX8_isSet 6 = .ok (.getfield 24, 3) := by decide +kernel
theorem dX8_isSet_9 : decode cX8_isSet 9 = .ok (.invokevirtual 192, 3) := by decide +kernel
theorem dX8_isSet_12 : decode cX8_isSet 12 = .ok (.if_icmp .gt 7, 3) := by decide +kernel
theorem dX8_isSet_15 : decode cX8_isSet 15 = .ok (.iconst 1, 1) := by decide +kernel
theorem dX8_isSet_16 : decode cX8_isSet 16 = .ok (.goto 4, 3) := by decide +kernel
theorem dX8_isSet_19 : decode cX8_isSet 19 = .ok (.iconst 0, 1) := by decide +kernel
theorem dX8_isSet_20 : decode cX8_isSet 20 = .ok (.ireturn, 1) := by decide +kernel
theorem dX8_find_0 : decode cX8_find 0 = .ok (.aload_n 0, 1) := by decide +kernel
theorem dX8_find_1 : decode cX8_find 1 = .ok (.iload_n 1, 1) := by decide +kernel
theorem dX8_find_2 : decode cX8_find 2 = .ok (.putfield 340, 3) := by decide +kernel
theorem dX8_find_5 : decode cX8_find 5 = .ok (.aload_n 0, 1) := by decide +kernel
theorem dX8_find_6 : decode cX8_find 6 = .ok (.getfield 60, 3) := by decide +kernel
theorem dX8_find_9 : decode cX8_find 9 = .ok (.iload_n 1, 1) := by decide +kernel
theorem dX8_find_10 : decode cX8_find 10 = .ok (.dup2, 1) := by decide +kernel
theorem dX8_find_11 : decode cX8_find 11 = .ok (.iaload, 1) := by decide +kernel
theorem dX8_find_12 : decode cX8_find 12 = .ok (.iconst 1, 1) := by decide +kernel
theorem dX8_find_13 : decode cX8_find 13 = .ok (.iadd, 1) := by decide +kernel
theorem dX8_find_14 : decode cX8_find 14 = .ok (.iastore, 1) := by decide +kernel
theorem dX8_find_15 : decode cX8_find 15 = .ok (.bipush (-3), 2) := by decide +kernel
theorem dX8_find_17 : decode cX8_find 17 = .ok (.ireturn, 1) := by decide +kernel
set_option maxRecDepth 20000 in
theorem ggX8_isFewer_J6_bitCount_0f7a4 : GoodIn wsX8_isFewer wsJ6_bitCount_0f7a4 := goodIn_r _ [4, 5, 6, 7] (by decide +kernel) (by decide +kernel)
set_option maxRecDepth 20000 in
theorem gX8_isFewer_J6_bitCount_0f7a4 : GoodIn wsX8_isFewer (va_wsS RX8 151 yJ6_bitCount_0f7a4 wsJ6_bitCount_0f7a4) := goodIn_app (goodIn_of _ (by decide +kernel)) ggX8_isFewer_J6_bitCount_0f7a4
theorem dX8_isFewer_0 : decode cX8_isFewer 0 = .ok (.iload_n 1, 1) := by decide +kernel
theorem dX8_isFewer_1 : decode cX8_isFewer 1 = .ok (.bipush (-9), 2) := by decide +kernel
theorem dX8_isFewer_3 : decode cX8_isFewer 3 = .ok (.if_icmp .eq 14, 3) := by decide +kernel
theorem dX8_isFewer_6 : decode cX8_isFewer 6 = .ok (.iload_n 0, 1) := by decide +kernel
theorem dX8_isFewer_7 : decode cX8_isFewer 7 = .ok (.invokestatic 151, 3) := by decide +kernel
theorem dX8_isFewer_10 : decode cX8_isFewer 10 = .ok (.iload_n 1, 1) := by decide +kernel
theorem dX8_isFewer_11 : decode cX8_isFewer 11 = .ok (.invokestatic 151, 3) := by decide +kernel
theorem dX8_isFewer_14 : decode cX8_isFewer 14 = .ok (.if_icmp .ge 7, 3) := by decide +kernel
theorem dX8_isFewer_17 : decode cX8_isFewer 17 = .ok (.iconst 1, 1) := by decide +kernel
theorem dX8_isFewer_18 : decode cX8_isFewer 18 = .ok (.goto 4, 3) := by decide +kernel
theorem dX8_isFewer_21 : decode cX8_isFewer 21 = .ok (.iconst 0, 1) := by decide +kernel
theorem dX8_isFewer_22 : decode cX8_isFewer 22 = .ok (.ireturn, 1) := by decide +kernel
set_option maxRecDepth 20000 in
theorem ggX8_tellSet_J6_bitCount_0f7a4 : GoodIn wsX8_tellSet wsJ6_bitCount_0f7a4 := goodIn_r _ [5, 6, 7, 8] (by decide +kernel) (by decide +kernel)
set_option maxRecDepth 20000 in
theorem gX8_tellSet_J6_bitCount_0f7a4 : GoodIn wsX8_tellSet (va_wsS RX8 151 yJ6_bitCount_0f7a4 wsJ6_bitCount_0f7a4) := goodIn_app (goodIn_of _ (by decide +kernel)) ggX8_tellSet_J6_bitCount_0f7a4
theorem dX8_tellSet_0 : decode cX8_tellSet 0 = .ok (.iload_n 1, 1) := by decide +kernel
theorem dX8_tellSet_1 : decode cX8_tellSet 1 = .ok (.bipush (-9), 2) := by decide +kernel
theorem dX8_tellSet_3 : decode cX8_tellSet 3 = .ok (.if_icmp .ne 6, 3) := by decide +kernel
theorem dX8_tellSet_6 : decode cX8_tellSet 6 = .ok (.bipush (-9), 2) := by decide +kernel
theorem dX8_tellSet_8 : decode cX8_tellSet 8 = .ok (.ireturn, 1) := by decide +kernel
theorem dX8_tellSet_9 : decode cX8_tellSet 9 = .ok (.aload_n 0, 1) := by decide +kernel
theorem dX8_tellSet_10 : decode cX8_tellSet 10 = .ok (.iload_n 1, 1) := by decide +kernel
theorem dX8_tellSet_11 : decode cX8_tellSet 11 = .ok (.putfield 92, 3) := by decide +kernel
theorem dX8_tellSet_14 : decode cX8_tellSet 14 = .ok (.iload_n 1, 1) := by decide +kernel
theorem dX8_tellSet_15 : decode cX8_tellSet 15 = .ok (.invokestatic 151, 3) := by decide +kernel
theorem dX8_tellSet_18 : decode cX8_tellSet 18 = .ok (.ireturn, 1) := by decide +kernel
set_option maxRecDepth 20000 in
theorem ggX8_isSafeByPasting_X5_begin : GoodIn wsX8_isSafeByPasting wsX5_begin := goodIn_r _ [11, 12, 13, 97, 98] (by decide +kernel) (by decide +kernel)
set_option maxRecDepth 20000 in
theorem gX8_isSafeByPasting_X5_begin : GoodIn wsX8_isSafeByPasting (wsV RX8 356 RX5 yX5_begin wsX5_begin) := goodIn_app (goodIn_of _ (by decide +kernel)) ggX8_isSafeByPasting_X5_begin
set_option maxRecDepth 20000 in
theorem ggX8_isSafeByPasting_X6_measure : GoodIn wsX8_isSafeByPasting wsX6_measure := goodIn_r _ [18, 19, 20, 21, 86, 87, 88, 89, 90, 91, 92, 93, 94, 95, 96] (by decide +kernel) (by decide +kernel)
set_option maxRecDepth 20000 in
theorem gX8_isSafeByPasting_X6_measure : GoodIn wsX8_isSafeByPasting (wsV RX8 171 RX6 yX6_measure wsX6_measure) := goodIn_app (goodIn_of _ (by decide +kernel)) ggX8_isSafeByPasting_X6_measure
set_option maxRecDepth 20000 in
theorem ggX8_isSafeByPasting_X6_isSafe : GoodIn wsX8_isSafeByPasting wsX6_isSafe := goodIn_r _ [25, 26, 27, 28, 17, 29, 30, 31, 32, 33, 34, 35, 36, 37, 38, 39, 40, 41, 42, 43, 44, 45, 46, 47, 48, 49, 50, 51, 52, 53, 54, 55, 56, 57, 20, 58, 59, 60, 61, 62, 63, 64, 65, 66, 67, 68, 69, 86, 87, 88, 89, 90, 91, 92, 93, 94, 95, 96] (by decide +kernel) (by decide +kernel)
set_option maxRecDepth 20000 in
theorem gX8_isSafeByPasting_X6_isSafe : GoodIn wsX8_isSafeByPasting (wsV RX8 218 RX6 yX6_isSafe wsX6_isSafe) := goodIn_app (goodIn_of _ (by decide +kernel)) ggX8_isSafeByPasting_X6_isSafe
set_option maxRecDepth 20000 in
theorem ggX8_isSafeByPasting_X5_advance : GoodIn wsX8_isSafeByPasting wsX5_advance := goodIn_r _ [73, 12, 13, 97, 98] (by decide +kernel) (by decide +kernel)
set_option maxRecDepth 20000 in
theorem gX8_isSafeByPasting_X5_advance : GoodIn wsX8_isSafeByPasting (wsV RX8 358 RX5 yX5_advance wsX5_advance) := goodIn_app (goodIn_of _ (by decide +kernel)) ggX8_isSafeByPasting_X5_advance
theorem dX8_isSafeByPasting_0 : decode cX8_isSafeByPasting 0 = .ok (.aload_n 0, 1) := by decide +kernel
theorem dX8_isSafeByPasting_1 : decode cX8_isSafeByPasting 1 = .ok (.getfield 56, 3) := by decide +kernel
theorem dX8_isSafeByPasting_4 : decode cX8_isSafeByPasting 4 = .ok (.aload_n 0, 1) := by decide +kernel
theorem dX8_isSafeByPasting_5 : decode cX8_isSafeByPasting 5 = .ok (.getfield 24, 3) := by decide +kernel
theorem dX8_isSafeByPasting_8 : decode cX8_isSafeByPasting 8 = .ok (.getfield 165, 3) := by decide +kernel
theorem dX8_isSafeByPasting_11 : decode cX8_isSafeByPasting 11 = .ok (.iload_n 2, 1) := by decide +kernel
theorem dX8_isSafeByPasting_12 : decode cX8_isSafeByPasting 12 = .ok (.invokevirtual 356, 3) := by decide +kernel
theorem dX8_isSafeByPasting_15 : decode cX8_isSafeByPasting 15 = .ok (.iconst 0, 1) := by decide +kernel
theorem dX8_isSafeByPasting_16 : decode cX8_isSafeByPasting 16 = .ok (.istore_n 3, 1) := by decide +kernel
theorem dX8_isSafeByPasting_17 : decode cX8_isSafeByPasting 17 = .ok (.iload_n 3, 1) := by decide +kernel
theorem dX8_isSafeByPasting_18 : decode cX8_isSafeByPasting 18 = .ok (.sipush 1000, 3) := by decide +kernel
theorem dX8_isSafeByPasting_21 : decode cX8_isSafeByPasting 21 = .ok (.if_icmp .ge 94, 3) := by decide +kernel
theorem dX8_isSafeByPasting_24 : decode cX8_isSafeByPasting 24 = .ok (.iconst 0, 1) := by decide +kernel
theorem dX8_isSafeByPasting_25 : decode cX8_isSafeByPasting 25 = .ok (.istore 4, 2) := by decide +kernel
theorem dX8_isSafeByPasting_27 : decode cX8_isSafeByPasting 27 = .ok (.iload 4, 2) := by decide +kernel
theorem dX8_isSafeByPasting_29 : decode cX8_isSafeByPasting 29 = .ok (.aload_n 0, 1) := by decide +kernel
theorem dX8_isSafeByPasting_30 : decode cX8_isSafeByPasting 30 = .ok (.getfield 24, 3) := by decide +kernel
theorem dX8_isSafeByPasting_33 : decode cX8_isSafeByPasting 33 = .ok (.getfield 165, 3) := by decide +kernel
theorem dX8_isSafeByPasting_36 : decode cX8_isSafeByPasting 36 = .ok (.if_icmp .ge 40, 3) := by decide +kernel
theorem dX8_isSafeByPasting_39 : decode cX8_isSafeByPasting 39 = .ok (.aload_n 0, 1) := by decide +kernel
theorem dX8_isSafeByPasting_40 : decode cX8_isSafeByPasting 40 = .ok (.getfield 28, 3) := by decide +kernel
theorem dX8_isSafeByPasting_43 : decode cX8_isSafeByPasting 43 = .ok (.getfield 168, 3) := by decide +kernel
theorem dX8_isSafeByPasting_46 : decode cX8_isSafeByPasting 46 = .ok (.iload 4, 2) := by decide +kernel
theorem dX8_isSafeByPasting_48 : decode cX8_isSafeByPasting 48 = .ok (.aload_n 0, 1) := by decide +kernel
theorem dX8_isSafeByPasting_49 : decode cX8_isSafeByPasting 49 = .ok (.getfield 24, 3) := by decide +kernel
theorem dX8_isSafeByPasting_52 : decode cX8_isSafeByPasting 52 = .ok (.getfield 168, 3) := by decide +kernel
theorem dX8_isSafeByPasting_55 : decode cX8_isSafeByPasting 55 = .ok (.iload 4, 2) := by decide +kernel
theorem dX8_isSafeByPasting_57 : decode cX8_isSafeByPasting 57 = .ok (.iaload, 1) := by decide +kernel
theorem dX8_isSafeByPasting_58 : decode cX8_isSafeByPasting 58 = .ok (.aload_n 0, 1) := by decide +kernel
theorem dX8_isSafeByPasting_59 : decode cX8_isSafeByPasting 59 = .ok (.getfield 56, 3) := by decide +kernel
theorem dX8_isSafeByPasting_62 : decode cX8_isSafeByPasting 62 = .ok (.getfield 260, 3) := by decide +kernel
theorem dX8_isSafeByPasting_65 : decode cX8_isSafeByPasting 65 = .ok (.iload 4, 2) := by decide +kernel
theorem dX8_isSafeByPasting_67 : decode cX8_isSafeByPasting 67 = .ok (.iaload, 1) := by decide +kernel
theorem dX8_isSafeByPasting_68 : decode cX8_isSafeByPasting 68 = .ok (.iadd, 1) := by decide +kernel
theorem dX8_isSafeByPasting_69 : decode cX8_isSafeByPasting 69 = .ok (.iastore, 1) := by decide +kernel
theorem dX8_isSafeByPasting_70 : decode cX8_isSafeByPasting 70 = .ok (.iinc 4 1, 3) := by decide +kernel
theorem dX8_isSafeByPasting_73 : decode cX8_isSafeByPasting 73 = .ok (.goto (-46), 3) := by decide +kernel
theorem dX8_isSafeByPasting_76 : decode cX8_isSafeByPasting 76 = .ok (.aload_n 0, 1) := by decide +kernel
theorem dX8_isSafeByPasting_77 : decode cX8_isSafeByPasting 77 = .ok (.getfield 28, 3) := by decide +kernel
theorem dX8_isSafeByPasting_80 : decode cX8_isSafeByPasting 80 = .ok (.invokevirtual 171, 3) := by decide +kernel
theorem dX8_isSafeByPasting_83 : decode cX8_isSafeByPasting 83 = .ok (.aload_n 0, 1) := by decide +kernel
theorem dX8_isSafeByPasting_84 : decode cX8_isSafeByPasting 84 = .ok (.getfield 28, 3) := by decide +kernel
theorem dX8_isSafeByPasting_87 : decode cX8_isSafeByPasting 87 = .ok (.iload_n 1, 1) := by decide +kernel
theorem dX8_isSafeByPasting_88 : decode cX8_isSafeByPasting 88 = .ok (.iconst 0, 1) := by decide +kernel
theorem dX8_isSafeByPasting_89 : decode cX8_isSafeByPasting 89 = .ok (.invokevirtual 218, 3) := by decide +kernel
theorem dX8_isSafeByPasting_92 : decode cX8_isSafeByPasting 92 = .ok (.ifCond .eq 5, 3) := by decide +kernel
theorem dX8_isSafeByPasting_95 : decode cX8_isSafeByPasting 95 = .ok (.iconst 1, 1) := by decide +kernel
theorem dX8_isSafeByPasting_96 : decode cX8_isSafeByPasting 96 = .ok (.ireturn, 1) := by decide +kernel
theorem dX8_isSafeByPasting_97 : decode cX8_isSafeByPasting 97 = .ok (.aload_n 0, 1) := by decide +kernel
theorem dX8_isSafeByPasting_98 : decode cX8_isSafeByPasting 98 = .ok (.getfield 56, 3) := by decide +kernel
theorem dX8_isSafeByPasting_101 : decode cX8_isSafeByPasting 101 = .ok (.invokevirtual 358, 3) := by decide +kernel
theorem dX8_isSafeByPasting_104 : decode cX8_isSafeByPasting 104 = .ok (.ifCond .ne 5, 3) := by decide +kernel
theorem dX8_isSafeByPasting_107 : decode cX8_isSafeByPasting 107 = .ok (.iconst 0, 1) := by decide +kernel
theorem dX8_isSafeByPasting_108 : decode cX8_isSafeByPasting 108 = .ok (.ireturn, 1) := by decide +kernel
theorem dX8_isSafeByPasting_109 : decode cX8_isSafeByPasting 109 = .ok (.iinc 3 1, 3) := by decide +kernel
theorem dX8_isSafeByPasting_112 : decode cX8_isSafeByPasting 112 = .ok (.goto (-95), 3) := by decide +kernel
theorem dX8_isSafeByPasting_115 : decode cX8_isSafeByPasting 115 = .ok (.iconst 0, 1) := by decide +kernel
theorem dX8_isSafeByPasting_116 : decode cX8_isSafeByPasting 116 = .ok (.ireturn, 1) := by decide +kernel
theorem dX8_commonDivisor_0 : decode cX8_commonDivisor 0 = .ok (.iload_n 0, 1) := by decide +kernel
theorem dX8_commonDivisor_1 : decode cX8_commonDivisor 1 = .ok (.iload_n 1, 1) := by decide +kernel
theorem dX8_commonDivisor_2 : decode cX8_commonDivisor 2 = .ok (.invokestatic 271, 3) := by decide +kernel
theorem dX8_commonDivisor_5 : decode cX8_commonDivisor 5 = .ok (.istore_n 2, 1) := by decide +kernel
theorem dX8_commonDivisor_6 : decode cX8_commonDivisor 6 = .ok (.iload_n 2, 1) := by decide +kernel
theorem dX8_commonDivisor_7 : decode cX8_commonDivisor 7 = .ok (.istore_n 3, 1) := by decide +kernel
theorem dX8_commonDivisor_8 : decode cX8_commonDivisor 8 = .ok (.iload_n 3, 1) := by decide +kernel
theorem dX8_commonDivisor_9 : decode cX8_commonDivisor 9 = .ok (.iconst 1, 1) := by decide +kernel
theorem dX8_commonDivisor_10 : decode cX8_commonDivisor 10 = .ok (.if_icmp .le 23, 3) := by decide +kernel
theorem dX8_commonDivisor_13 : decode cX8_commonDivisor 13 = .ok (.iload_n 0, 1) := by decide +kernel
theorem dX8_commonDivisor_14 : decode cX8_commonDivisor 14 = .ok (.iload_n 3, 1) := by decide +kernel
theorem dX8_commonDivisor_15 : decode cX8_commonDivisor 15 = .ok (.irem, 1) := by decide +kernel
theorem dX8_commonDivisor_16 : decode cX8_commonDivisor 16 = .ok (.ifCond .ne 11, 3) := by decide +kernel
theorem dX8_commonDivisor_19 : decode cX8_commonDivisor 19 = .ok (.iload_n 1, 1) := by decide +kernel
theorem dX8_commonDivisor_20 : decode cX8_commonDivisor 20 = .ok (.iload_n 3, 1) := by decide +kernel
theorem dX8_commonDivisor_21 : decode cX8_commonDivisor 21 = .ok (.irem, 1) := by decide +kernel
theorem dX8_commonDivisor_22 : decode cX8_commonDivisor 22 = .ok (.ifCond .ne 5, 3) := by decide +kernel
theorem dX8_commonDivisor_25 : decode cX8_commonDivisor 25 = .ok (.iload_n 3, 1) := by decide +kernel
theorem dX8_commonDivisor_26 : decode cX8_commonDivisor 26 = .ok (.ireturn, 1) := by decide +kernel
theorem dX8_commonDivisor_27 : decode cX8_commonDivisor 27 = .ok (.iinc 3 (-1), 3) := by decide +kernel
theorem dX8_commonDivisor_30 : decode cX8_commonDivisor 30 = .ok (.goto (-22), 3) := by decide +kernel
theorem dX8_commonDivisor_33 : decode cX8_commonDivisor 33 = .ok (.iconst 1, 1) := by decide +kernel
theorem dX8_commonDivisor_34 : decode cX8_commonDivisor 34 = .ok (.ireturn, 1) := by decide +kernel
set_option maxRecDepth 20000 in
theorem ggX8_howManyRows_X4_isMissing : GoodIn wsX8_howManyRows wsX4_isMissing := goodIn_r _ [6, 7, 20, 21] (by decide +kernel) (by decide +kernel)
set_option maxRecDepth 20000 in
theorem gX8_howManyRows_X4_isMissing : GoodIn wsX8_howManyRows (wsV RX8 85 RX4 yX4_isMissing wsX4_isMissing) := goodIn_app (goodIn_of _ (by decide +kernel)) ggX8_howManyRows_X4_isMissing
theorem dX8_howManyRows_0 : decode cX8_howManyRows 0 = .ok (.iconst 0, 1) := by decide +kernel
theorem dX8_howManyRows_1 : decode cX8_howManyRows 1 = .ok (.istore_n 1, 1) := by decide +kernel
theorem dX8_howManyRows_2 : decode cX8_howManyRows 2 = .ok (.iconst 0, 1) := by decide +kernel
theorem dX8_howManyRows_3 : decode cX8_howManyRows 3 = .ok (.istore_n 2, 1) := by decide +kernel
theorem dX8_howManyRows_4 : decode cX8_howManyRows 4 = .ok (.iload_n 2, 1) := by decide +kernel
theorem dX8_howManyRows_5 : decode cX8_howManyRows 5 = .ok (.bipush 6, 2) := by decide +kernel
theorem dX8_howManyRows_7 : decode cX8_howManyRows 7 = .ok (.if_icmp .ge 29, 3) := by decide +kernel
theorem dX8_howManyRows_10 : decode cX8_howManyRows 10 = .ok (.iload_n 1, 1) := by decide +kernel
theorem dX8_howManyRows_11 : decode cX8_howManyRows 11 = .ok (.aload_n 0, 1) := by decide +kernel
theorem dX8_howManyRows_12 : decode cX8_howManyRows 12 = .ok (.getfield 11, 3) := by decide +kernel
theorem dX8_howManyRows_15 : decode cX8_howManyRows 15 = .ok (.iload_n 2, 1) := by decide +kernel
theorem dX8_howManyRows_16 : decode cX8_howManyRows 16 = .ok (.aaload, 1) := by decide +kernel
theorem dX8_howManyRows_17 : decode cX8_howManyRows 17 = .ok (.invokevirtual 85, 3) := by decide +kernel
theorem dX8_howManyRows_20 : decode cX8_howManyRows 20 = .ok (.ifCond .eq 7, 3) := by decide +kernel
theorem dX8_howManyRows_23 : decode cX8_howManyRows 23 = .ok (.iconst 0, 1) := by decide +kernel
theorem dX8_howManyRows_24 : decode cX8_howManyRows 24 = .ok (.goto 4, 3) := by decide +kernel
theorem dX8_howManyRows_27 : decode cX8_howManyRows 27 = .ok (.iconst 1, 1) := by decide +kernel
theorem dX8_howManyRows_28 : decode cX8_howManyRows 28 = .ok (.iadd, 1) := by decide +kernel
theorem dX8_howManyRows_29 : decode cX8_howManyRows 29 = .ok (.istore_n 1, 1) := by decide +kernel
theorem dX8_howManyRows_30 : decode cX8_howManyRows 30 = .ok (.iinc 2 1, 3) := by decide +kernel
theorem dX8_howManyRows_33 : decode cX8_howManyRows 33 = .ok (.goto (-29), 3) := by decide +kernel
theorem dX8_howManyRows_36 : decode cX8_howManyRows 36 = .ok (.iload_n 1, 1) := by decide +kernel
theorem dX8_howManyRows_37 : decode cX8_howManyRows 37 = .ok (.ireturn, 1) := by decide +kernel
set_option maxRecDepth 20000 in
theorem ggX8_howManyTexts_X7_isMissing : GoodIn wsX8_howManyTexts wsX7_isMissing := goodIn_r _ [6, 7, 20, 21] (by decide +kernel) (by decide +kernel)
set_option maxRecDepth 20000 in
theorem gX8_howManyTexts_X7_isMissing : GoodIn wsX8_howManyTexts (wsV RX8 117 RX7 yX7_isMissing wsX7_isMissing) := goodIn_app (goodIn_of _ (by decide +kernel)) ggX8_howManyTexts_X7_isMissing
theorem dX8_howManyTexts_0 : decode cX8_howManyTexts 0 = .ok (.iconst 0, 1) := by decide +kernel
theorem dX8_howManyTexts_1 : decode cX8_howManyTexts 1 = .ok (.istore_n 1, 1) := by decide +kernel
theorem dX8_howManyTexts_2 : decode cX8_howManyTexts 2 = .ok (.iconst 0, 1) := by decide +kernel
theorem dX8_howManyTexts_3 : decode cX8_howManyTexts 3 = .ok (.istore_n 2, 1) := by decide +kernel
theorem dX8_howManyTexts_4 : decode cX8_howManyTexts 4 = .ok (.iload_n 2, 1) := by decide +kernel
theorem dX8_howManyTexts_5 : decode cX8_howManyTexts 5 = .ok (.iconst 4, 1) := by decide +kernel
theorem dX8_howManyTexts_6 : decode cX8_howManyTexts 6 = .ok (.if_icmp .ge 29, 3) := by decide +kernel
theorem dX8_howManyTexts_9 : decode cX8_howManyTexts 9 = .ok (.iload_n 1, 1) := by decide +kernel
theorem dX8_howManyTexts_10 : decode cX8_howManyTexts 10 = .ok (.aload_n 0, 1) := by decide +kernel
theorem dX8_howManyTexts_11 : decode cX8_howManyTexts 11 = .ok (.getfield 17, 3) := by decide +kernel
theorem dX8_howManyTexts_14 : decode cX8_howManyTexts 14 = .ok (.iload_n 2, 1) := by decide +kernel
theorem dX8_howManyTexts_15 : decode cX8_howManyTexts 15 = .ok (.aaload, 1) := by decide +kernel
theorem dX8_howManyTexts_16 : decode cX8_howManyTexts 16 = .ok (.invokevirtual 117, 3) := by decide +kernel
theorem dX8_howManyTexts_19 : decode cX8_howManyTexts 19 = .ok (.ifCond .eq 7, 3) := by decide +kernel
theorem dX8_howManyTexts_22 : decode cX8_howManyTexts 22 = .ok (.iconst 0, 1) := by decide +kernel
theorem dX8_howManyTexts_23 : decode cX8_howManyTexts 23 = .ok (.goto 4, 3) := by decide +kernel
theorem dX8_howManyTexts_26 : decode cX8_howManyTexts 26 = .ok (.iconst 1, 1) := by decide +kernel
theorem dX8_howManyTexts_27 : decode cX8_howManyTexts 27 = .ok (.iadd, 1) := by decide +kernel
theorem dX8_howManyTexts_28 : decode cX8_howManyTexts 28 = .ok (.istore_n 1, 1) := by decide +kernel
theorem dX8_howManyTexts_29 : decode cX8_howManyTexts 29 = .ok (.iinc 2 1, 3) := by decide +kernel
theorem dX8_howManyTexts_32 : decode cX8_howManyTexts 32 = .ok (.goto (-28), 3) := by decide +kernel
theorem dX8_howManyTexts_35 : decode cX8_howManyTexts 35 = .ok (.iload_n 1, 1) := by decide +kernel
theorem dX8_howManyTexts_36 : decode cX8_howManyTexts 36 = .ok (.ireturn, 1) := by decide +kernel
theorem dX8_howManyKept_0 : decode cX8_howManyKept 0 = .ok (.iconst 0, 1) := by decide +kernel
theorem dX8_howManyKept_1 : decode cX8_howManyKept 1 = .ok (.istore_n 1, 1) := by decide +kernel
theorem dX8_howManyKept_2 : decode cX8_howManyKept 2 = .ok (.iconst 0, 1) := by decide +kernel
theorem dX8_howManyKept_3 : decode cX8_howManyKept 3 = .ok (.istore_n 2, 1) := by decide +kernel
theorem dX8_howManyKept_4 : decode cX8_howManyKept 4 = .ok (.iload_n 2, 1) := by decide +kernel
theorem dX8_howManyKept_5 : decode cX8_howManyKept 5 = .ok (.iconst 3, 1) := by decide +kernel
theorem dX8_howManyKept_6 : decode cX8_howManyKept 6 = .ok (.if_icmp .ge 26, 3) := by decide +kernel
theorem dX8_howManyKept_9 : decode cX8_howManyKept 9 = .ok (.iload_n 1, 1) := by decide +kernel
theorem dX8_howManyKept_10 : decode cX8_howManyKept 10 = .ok (.aload_n 0, 1) := by decide +kernel
theorem dX8_howManyKept_11 : decode cX8_howManyKept 11 = .ok (.getfield 35, 3) := by decide +kernel
theorem dX8_howManyKept_14 : decode cX8_howManyKept 14 = .ok (.iload_n 2, 1) := by decide +kernel
theorem dX8_howManyKept_15 : decode cX8_howManyKept 15 = .ok (.baload, 1) := by decide +kernel
theorem dX8_howManyKept_16 : decode cX8_howManyKept 16 = .ok (.ifCond .eq 7, 3) := by decide +kernel
theorem dX8_howManyKept_19 : decode cX8_howManyKept 19 = .ok (.iconst 1, 1) := by decide +kernel
theorem dX8_howManyKept_20 : decode cX8_howManyKept 20 = .ok (.goto 4, 3) := by decide +kernel
theorem dX8_howManyKept_23 : decode cX8_howManyKept 23 = .ok (.iconst 0, 1) := by decide +kernel
theorem dX8_howManyKept_24 : decode cX8_howManyKept 24 = .ok (.iadd, 1) := by decide +kernel
theorem dX8_howManyKept_25 : decode cX8_howManyKept 25 = .ok (.istore_n 1, 1) := by decide +kernel
theorem dX8_howManyKept_26 : decode cX8_howManyKept 26 = .ok (.iinc 2 1, 3) := by decide +kernel
theorem dX8_howManyKept_29 : decode cX8_howManyKept 29 = .ok (.goto (-25), 3) := by decide +kernel
theorem dX8_howManyKept_32 : decode cX8_howManyKept 32 = .ok (.iload_n 1, 1) := by decide +kernel
theorem dX8_howManyKept_33 : decode cX8_howManyKept 33 = .ok (.ireturn, 1) := by decide +kernel
theorem dJ6_bitCount_0f7a4_0 : decode cJ6_bitCount_0f7a4 0 = .ok (.iload_n 0, 1) := by decide +kernel
theorem dJ6_bitCount_0f7a4_1 : decode cJ6_bitCount_0f7a4 1 = .ok (.iload_n 0, 1) := by decide +kernel
theorem dJ6_bitCount_0f7a4_2 : decode cJ6_bitCount_0f7a4 2 = .ok (.iconst 1, 1) := by decide +kernel
theorem dJ6_bitCount_0f7a4_3 : decode cJ6_bitCount_0f7a4 3 = .ok (.iushr, 1) := by decide +kernel
theorem dJ6_bitCount_0f7a4_4 : decode cJ6_bitCount_0f7a4 4 = .ok (.ldc_w 265, 3) := by decide +kernel
theorem dJ6_bitCount_0f7a4_7 : decode cJ6_bitCount_0f7a4 7 = .ok (.iand, 1) := by decide +kernel
theorem dJ6_bitCount_0f7a4_8 : decode cJ6_bitCount_0f7a4 8 = .ok (.isub, 1) := by decide +kernel
theorem dJ6_bitCount_0f7a4_9 : decode cJ6_bitCount_0f7a4 9 = .ok (.istore_n 0, 1) := by decide +kernel
theorem dJ6_bitCount_0f7a4_10 : decode cJ6_bitCount_0f7a4 10 = .ok (.iload_n 0, 1) := by decide +kernel
theorem dJ6_bitCount_0f7a4_11 : decode cJ6_bitCount_0f7a4 11 = .ok (.ldc_w 266, 3) := by decide +kernel
theorem dJ6_bitCount_0f7a4_14 : decode cJ6_bitCount_0f7a4 14 = .ok (.iand, 1) := by decide +kernel
theorem dJ6_bitCount_0f7a4_15 : decode cJ6_bitCount_0f7a4 15 = .ok (.iload_n 0, 1) := by decide +kernel
theorem dJ6_bitCount_0f7a4_16 : decode cJ6_bitCount_0f7a4 16 = .ok (.iconst 2, 1) := by decide +kernel
theorem dJ6_bitCount_0f7a4_17 : decode cJ6_bitCount_0f7a4 17 = .ok (.iushr, 1) := by decide +kernel
theorem dJ6_bitCount_0f7a4_18 : decode cJ6_bitCount_0f7a4 18 = .ok (.ldc_w 266, 3) := by decide +kernel
theorem dJ6_bitCount_0f7a4_21 : decode cJ6_bitCount_0f7a4 21 = .ok (.iand, 1) := by decide +kernel
theorem dJ6_bitCount_0f7a4_22 : decode cJ6_bitCount_0f7a4 22 = .ok (.iadd, 1) := by decide +kernel
theorem dJ6_bitCount_0f7a4_23 : decode cJ6_bitCount_0f7a4 23 = .ok (.istore_n 0, 1) := by decide +kernel
theorem dJ6_bitCount_0f7a4_24 : decode cJ6_bitCount_0f7a4 24 = .ok (.iload_n 0, 1) := by decide +kernel
theorem dJ6_bitCount_0f7a4_25 : decode cJ6_bitCount_0f7a4 25 = .ok (.iload_n 0, 1) := by decide +kernel
theorem dJ6_bitCount_0f7a4_26 : decode cJ6_bitCount_0f7a4 26 = .ok (.iconst 4, 1) := by decide +kernel
theorem dJ6_bitCount_0f7a4_27 : decode cJ6_bitCount_0f7a4 27 = .ok (.iushr, 1) := by decide +kernel
theorem dJ6_bitCount_0f7a4_28 : decode cJ6_bitCount_0f7a4 28 = .ok (.iadd, 1) := by decide +kernel
theorem dJ6_bitCount_0f7a4_29 : decode cJ6_bitCount_0f7a4 29 = .ok (.ldc_w 267, 3) := by decide +kernel
theorem dJ6_bitCount_0f7a4_32 : decode cJ6_bitCount_0f7a4 32 = .ok (.iand, 1) := by decide +kernel
theorem dJ6_bitCount_0f7a4_33 : decode cJ6_bitCount_0f7a4 33 = .ok (.istore_n 0, 1) := by decide +kernel
theorem dJ6_bitCount_0f7a4_34 : decode cJ6_bitCount_0f7a4 34 = .ok (.iload_n 0, 1) := by decide +kernel
theorem dJ6_bitCount_0f7a4_35 : decode cJ6_bitCount_0f7a4 35 = .ok (.iload_n 0, 1) := by decide +kernel
theorem dJ6_bitCount_0f7a4_36 : decode cJ6_bitCount_0f7a4 36 = .ok (.bipush 8, 2) := by decide +kernel
theorem dJ6_bitCount_0f7a4_38 : decode cJ6_bitCount_0f7a4 38 = .ok (.iushr, 1) := by decide +kernel
theorem dJ6_bitCount_0f7a4_39 : decode cJ6_bitCount_0f7a4 39 = .ok (.iadd, 1) := by decide +kernel
theorem dJ6_bitCount_0f7a4_40 : decode cJ6_bitCount_0f7a4 40 = .ok (.istore_n 0, 1) := by decide +kernel
theorem dJ6_bitCount_0f7a4_41 : decode cJ6_bitCount_0f7a4 41 = .ok (.iload_n 0, 1) := by decide +kernel
theorem dJ6_bitCount_0f7a4_42 : decode cJ6_bitCount_0f7a4 42 = .ok (.iload_n 0, 1) := by decide +kernel
theorem dJ6_bitCount_0f7a4_43 : decode cJ6_bitCount_0f7a4 43 = .ok (.bipush 16, 2) := by decide +kernel
theorem dJ6_bitCount_0f7a4_45 : decode cJ6_bitCount_0f7a4 45 = .ok (.iushr, 1) := by decide +kernel
theorem dJ6_bitCount_0f7a4_46 : decode cJ6_bitCount_0f7a4 46 = .ok (.iadd, 1) := by decide +kernel
theorem dJ6_bitCount_0f7a4_47 : decode cJ6_bitCount_0f7a4 47 = .ok (.istore_n 0, 1) := by decide +kernel
theorem dJ6_bitCount_0f7a4_48 : decode cJ6_bitCount_0f7a4 48 = .ok (.iload_n 0, 1) := by decide +kernel
theorem dJ6_bitCount_0f7a4_49 : decode cJ6_bitCount_0f7a4 49 = .ok (.bipush 63, 2) := by decide +kernel
theorem dJ6_bitCount_0f7a4_51 : decode cJ6_bitCount_0f7a4 51 = .ok (.iand, 1) := by decide +kernel
theorem dJ6_bitCount_0f7a4_52 : decode cJ6_bitCount_0f7a4 52 = .ok (.ireturn, 1) := by decide +kernel
theorem dJ9_abs_0f7a4_0 : decode cJ9_abs_0f7a4 0 = .ok (.iload_n 0, 1) := by decide +kernel
theorem dJ9_abs_0f7a4_1 : decode cJ9_abs_0f7a4 1 = .ok (.ifCond .ge 8, 3) := by decide +kernel
theorem dJ9_abs_0f7a4_4 : decode cJ9_abs_0f7a4 4 = .ok (.iload_n 0, 1) := by decide +kernel
theorem dJ9_abs_0f7a4_5 : decode cJ9_abs_0f7a4 5 = .ok (.ineg, 1) := by decide +kernel
theorem dJ9_abs_0f7a4_6 : decode cJ9_abs_0f7a4 6 = .ok (.goto 4, 3) := by decide +kernel
theorem dJ9_abs_0f7a4_9 : decode cJ9_abs_0f7a4 9 = .ok (.iload_n 0, 1) := by decide +kernel
theorem dJ9_abs_0f7a4_10 : decode cJ9_abs_0f7a4 10 = .ok (.ireturn, 1) := by decide +kernel
theorem dJ9_max_7cf53_0 : decode cJ9_max_7cf53 0 = .ok (.iload_n 0, 1) := by decide +kernel
theorem dJ9_max_7cf53_1 : decode cJ9_max_7cf53 1 = .ok (.iload_n 1, 1) := by decide +kernel
theorem dJ9_max_7cf53_2 : decode cJ9_max_7cf53 2 = .ok (.if_icmp .lt 7, 3) := by decide +kernel
theorem dJ9_max_7cf53_5 : decode cJ9_max_7cf53 5 = .ok (.iload_n 0, 1) := by decide +kernel
theorem dJ9_max_7cf53_6 : decode cJ9_max_7cf53 6 = .ok (.goto 4, 3) := by decide +kernel
theorem dJ9_max_7cf53_9 : decode cJ9_max_7cf53 9 = .ok (.iload_n 1, 1) := by decide +kernel
theorem dJ9_max_7cf53_10 : decode cJ9_max_7cf53 10 = .ok (.ireturn, 1) := by decide +kernel
theorem dJ9_min_7cf53_0 : decode cJ9_min_7cf53 0 = .ok (.iload_n 0, 1) := by decide +kernel
theorem dJ9_min_7cf53_1 : decode cJ9_min_7cf53 1 = .ok (.iload_n 1, 1) := by decide +kernel
theorem dJ9_min_7cf53_2 : decode cJ9_min_7cf53 2 = .ok (.if_icmp .gt 7, 3) := by decide +kernel
theorem dJ9_min_7cf53_5 : decode cJ9_min_7cf53 5 = .ok (.iload_n 0, 1) := by decide +kernel
theorem dJ9_min_7cf53_6 : decode cJ9_min_7cf53 6 = .ok (.goto 4, 3) := by decide +kernel
theorem dJ9_min_7cf53_9 : decode cJ9_min_7cf53 9 = .ok (.iload_n 1, 1) := by decide +kernel
theorem dJ9_min_7cf53_10 : decode cJ9_min_7cf53 10 = .ok (.ireturn, 1) := by decide +kernel
theorem dL_cell_0 : decode cL_cell 0 = .ok (.iload_n 1, 1) := by decide +kernel
theorem dL_cell_1 : decode cL_cell 1 = .ok (.aload_n 0, 1) := by decide +kernel
theorem dL_cell_2 : decode cL_cell 2 = .ok (.arraylength, 1) := by decide +kernel
theorem dL_cell_3 : decode cL_cell 3 = .ok (.if_icmp .ge 9, 3) := by decide +kernel
theorem dL_cell_6 : decode cL_cell 6 = .ok (.aload_n 0, 1) := by decide +kernel
theorem dL_cell_7 : decode cL_cell 7 = .ok (.iload_n 1, 1) := by decide +kernel
theorem dL_cell_8 : decode cL_cell 8 = .ok (.iaload, 1) := by decide +kernel
theorem dL_cell_9 : decode cL_cell 9 = .ok (.goto 9, 3) := by decide +kernel
theorem dL_cell_12 : decode cL_cell 12 = .ok (.ldc 7, 2) := by decide +kernel
theorem dL_cell_14 : decode cL_cell 14 = .ok (.iload_n 1, 1) := by decide +kernel
theorem dL_cell_15 : decode cL_cell 15 = .ok (.iconst 3, 1) := by decide +kernel
theorem dL_cell_16 : decode cL_cell 16 = .ok (.iadd, 1) := by decide +kernel
theorem dL_cell_17 : decode cL_cell 17 = .ok (.imul, 1) := by decide +kernel
theorem dL_cell_18 : decode cL_cell 18 = .ok (.ireturn, 1) := by decide +kernel
theorem dL_some_0 : decode cL_some 0 = .ok (.iload_n 0, 1) := by decide +kernel
theorem dL_some_1 : decode cL_some 1 = .ok (.ldc 8, 2) := by decide +kernel
theorem dL_some_3 : decode cL_some 3 = .ok (.iand, 1) := by decide +kernel
theorem dL_some_4 : decode cL_some 4 = .ok (.iload_n 1, 1) := by decide +kernel
theorem dL_some_5 : decode cL_some 5 = .ok (.irem, 1) := by decide +kernel
theorem dL_some_6 : decode cL_some 6 = .ok (.ireturn, 1) := by decide +kernel
theorem dL_size_0 : decode cL_size 0 = .ok (.iconst 0, 1) := by decide +kernel
theorem dL_size_1 : decode cL_size 1 = .ok (.istore_n 1, 1) := by decide +kernel
theorem dL_size_2 : decode cL_size 2 = .ok (.iconst 0, 1) := by decide +kernel
theorem dL_size_3 : decode cL_size 3 = .ok (.istore_n 2, 1) := by decide +kernel
theorem dL_size_4 : decode cL_size 4 = .ok (.iload_n 2, 1) := by decide +kernel
theorem dL_size_5 : decode cL_size 5 = .ok (.bipush 8, 2) := by decide +kernel
theorem dL_size_7 : decode cL_size 7 = .ok (.if_icmp .ge 17, 3) := by decide +kernel
theorem dL_size_10 : decode cL_size 10 = .ok (.iload_n 1, 1) := by decide +kernel
theorem dL_size_11 : decode cL_size 11 = .ok (.iload_n 0, 1) := by decide +kernel
theorem dL_size_12 : decode cL_size 12 = .ok (.iload_n 2, 1) := by decide +kernel
theorem dL_size_13 : decode cL_size 13 = .ok (.ishr, 1) := by decide +kernel
theorem dL_size_14 : decode cL_size 14 = .ok (.iconst 1, 1) := by decide +kernel
theorem dL_size_15 : decode cL_size 15 = .ok (.iand, 1) := by decide +kernel
theorem dL_size_16 : decode cL_size 16 = .ok (.iadd, 1) := by decide +kernel
theorem dL_size_17 : decode cL_size 17 = .ok (.istore_n 1, 1) := by decide +kernel
theorem dL_size_18 : decode cL_size 18 = .ok (.iinc 2 1, 3) := by decide +kernel
theorem dL_size_21 : decode cL_size 21 = .ok (.goto (-17), 3) := by decide +kernel
theorem dL_size_24 : decode cL_size 24 = .ok (.iload_n 1, 1) := by decide +kernel
theorem dL_size_25 : decode cL_size 25 = .ok (.ireturn, 1) := by decide +kernel
theorem dL_letter_0 : decode cL_letter 0 = .ok (.iload_n 0, 1) := by decide +kernel
theorem dL_letter_1 : decode cL_letter 1 = .ok (.ifCond .ne 8, 3) := by decide +kernel
theorem dL_letter_4 : decode cL_letter 4 = .ok (.bipush 111, 2) := by decide +kernel
theorem dL_letter_6 : decode cL_letter 6 = .ok (.goto 45, 3) := by decide +kernel
theorem dL_letter_9 : decode cL_letter 9 = .ok (.iload_n 0, 1) := by decide +kernel
theorem dL_letter_10 : decode cL_letter 10 = .ok (.iconst 1, 1) := by decide +kernel
theorem dL_letter_11 : decode cL_letter 11 = .ok (.if_icmp .ne 8, 3) := by decide +kernel
theorem dL_letter_14 : decode cL_letter 14 = .ok (.bipush 108, 2) := by decide +kernel
theorem dL_letter_16 : decode cL_letter 16 = .ok (.goto 35, 3) := by decide +kernel
theorem dL_letter_19 : decode cL_letter 19 = .ok (.iload_n 0, 1) := by decide +kernel
theorem dL_letter_20 : decode cL_letter 20 = .ok (.iconst 2, 1) := by decide +kernel
theorem dL_letter_21 : decode cL_letter 21 = .ok (.if_icmp .ne 8, 3) := by decide +kernel
theorem dL_letter_24 : decode cL_letter 24 = .ok (.bipush 119, 2) := by decide +kernel
theorem dL_letter_26 : decode cL_letter 26 = .ok (.goto 25, 3) := by decide +kernel
theorem dL_letter_29 : decode cL_letter 29 = .ok (.iload_n 0, 1) := by decide +kernel
theorem dL_letter_30 : decode cL_letter 30 = .ok (.iconst 3, 1) := by decide +kernel
theorem dL_letter_31 : decode cL_letter 31 = .ok (.if_icmp .ne 8, 3) := by decide +kernel
theorem dL_letter_34 : decode cL_letter 34 = .ok (.bipush 100, 2) := by decide +kernel
theorem dL_letter_36 : decode cL_letter 36 = .ok (.goto 15, 3) := by decide +kernel
theorem dL_letter_39 : decode cL_letter 39 = .ok (.iload_n 0, 1) := by decide +kernel
theorem dL_letter_40 : decode cL_letter 40 = .ok (.iconst 4, 1) := by decide +kernel
theorem dL_letter_41 : decode cL_letter 41 = .ok (.if_icmp .ne 8, 3) := by decide +kernel
theorem dL_letter_44 : decode cL_letter 44 = .ok (.bipush 115, 2) := by decide +kernel
theorem dL_letter_46 : decode cL_letter 46 = .ok (.goto 5, 3) := by decide +kernel
theorem dL_letter_49 : decode cL_letter 49 = .ok (.bipush 105, 2) := by decide +kernel
theorem dL_letter_51 : decode cL_letter 51 = .ok (.ireturn, 1) := by decide +kernel
set_option maxRecDepth 20000 in
theorem ggL_build_L_cell : GoodIn wsL_build wsL_cell := goodIn_r _ [5, 6] (by decide +kernel) (by decide +kernel)
set_option maxRecDepth 20000 in
theorem gL_build_L_cell : GoodIn wsL_build (va_wsS RL 30 yL_cell wsL_cell) := goodIn_app (goodIn_of _ (by decide +kernel)) ggL_build_L_cell
set_option maxRecDepth 20000 in
theorem ggL_build_L_some : GoodIn wsL_build wsL_some := goodIn_r _ [9, 10] (by decide +kernel) (by decide +kernel)
set_option maxRecDepth 20000 in
theorem gL_build_L_some : GoodIn wsL_build (va_wsS RL 34 yL_some wsL_some) := goodIn_app (goodIn_of _ (by decide +kernel)) ggL_build_L_some
set_option maxRecDepth 20000 in
theorem ggL_build_L_letter : GoodIn wsL_build wsL_letter := goodIn_r _ [13] (by decide +kernel) (by decide +kernel)
set_option maxRecDepth 20000 in
theorem gL_build_L_letter : GoodIn wsL_build (va_wsS RL 38 yL_letter wsL_letter) := goodIn_app (goodIn_of _ (by decide +kernel)) ggL_build_L_letter
set_option maxRecDepth 20000 in
theorem ggL_build_X8_text : GoodIn wsL_build wsX8_text := goodIn_r _ [18, 19, 20, 21, 17, 22, 23, 24, 25, 26, 27, 28, 29, 30, 31, 32, 33, 34, 35, 164, 165, 166, 167, 168, 169, 170, 171, 172, 173, 174, 175, 176, 177] (by decide +kernel) (by decide +kernel)
set_option maxRecDepth 20000 in
theorem gL_build_X8_text : GoodIn wsL_build (wsV RL 41 RX8 yX8_text wsX8_text) := goodIn_app (goodIn_of _ (by decide +kernel)) ggL_build_X8_text
set_option maxRecDepth 20000 in
theorem ggL_build_X8_put : GoodIn wsL_build wsX8_put := goodIn_r _ [39, 19, 40, 20, 21, 17, 22, 41, 42, 43, 32, 44, 34, 23, 24, 25, 26, 27, 28, 45, 46, 47, 48, 164, 165, 166, 167, 168, 169, 170, 171, 172, 173, 174, 175, 176, 177] (by decide +kernel) (by decide +kernel)
set_option maxRecDepth 20000 in
theorem gL_build_X8_put : GoodIn wsL_build (wsV RL 46 RX8 yX8_put wsX8_put) := goodIn_app (goodIn_of _ (by decide +kernel)) ggL_build_X8_put
set_option maxRecDepth 20000 in
theorem ggL_build_X8_fault : GoodIn wsL_build wsX8_fault := goodIn_r _ [52, 19, 53, 20, 21, 17, 22, 41, 42, 43, 32, 44, 34, 23, 24, 25, 26, 27, 28, 54, 55, 56, 57, 58, 59, 60, 61, 62, 63, 64, 65, 66, 67, 68, 69, 70, 71, 72, 73, 74, 75, 76, 77, 78, 35, 79, 46, 47, 48, 80, 81, 82, 83, 84, 85, 86, 87, 88, 89, 90, 91, 92, 93, 94, 95, 96, 97, 98, 99, 100, 101, 164, 165, 166, 167, 168, 169, 170, 171, 172, 173, 174, 175, 176, 177, 178, 179, 180, 181, 182, 183, 184, 185, 186, 187, 188, 189, 190, 191, 192, 193, 194] (by decide +kernel) (by decide +kernel)
set_option maxRecDepth 20000 in
theorem gL_build_X8_fault : GoodIn wsL_build (wsV RL 50 RX8 yX8_fault wsX8_fault) := goodIn_app (goodIn_of _ (by decide +kernel)) ggL_build_X8_fault
set_option maxRecDepth 20000 in
theorem ggL_build_X8_street : GoodIn wsL_build wsX8_street := goodIn_r _ [105, 19, 53, 106, 107, 108, 20, 21, 17, 22, 41, 42, 43, 32, 44, 34, 23, 24, 25, 26, 27, 28, 54, 55, 56, 57, 58, 59, 60, 61, 62, 63, 64, 65, 66, 67, 68, 69, 70, 71, 72, 73, 74, 75, 76, 77, 78, 35, 79, 46, 47, 48, 80, 81, 82, 83, 84, 85, 86, 87, 88, 89, 90, 91, 92, 93, 94, 95, 96, 97, 98, 99, 100, 101, 109, 110, 111, 112, 113, 114, 115, 116, 117, 118, 119, 120, 121, 122, 123, 124, 125, 126, 127, 128, 164, 165, 166, 167, 168, 169, 170, 171, 172, 173, 174, 175, 178, 179, 180, 181, 182, 183, 184, 185, 186, 187, 188, 176, 177, 189, 190, 191, 192, 193, 194] (by decide +kernel) (by decide +kernel)
set_option maxRecDepth 20000 in
theorem gL_build_X8_street : GoodIn wsL_build (wsV RL 53 RX8 yX8_street wsX8_street) := goodIn_app (goodIn_of _ (by decide +kernel)) ggL_build_X8_street
set_option maxRecDepth 20000 in
theorem ggL_build_X8_count : GoodIn wsL_build wsX8_count := goodIn_r _ [132, 106, 108, 133, 134, 135, 136, 137, 138, 139, 57, 140, 60, 95, 141, 142, 99, 143, 144, 145, 146, 147, 17, 148, 149, 150, 151, 152, 153, 154, 155, 156, 157, 158, 159, 19, 41, 42, 43, 32, 44, 34, 160, 161, 162, 163, 107, 164, 165, 166, 167, 168, 169, 170, 171, 172, 173, 174, 175, 178, 179, 180, 181, 182, 183, 184, 185, 186, 187, 188, 189, 190, 191, 192, 193, 194, 195, 196, 176, 177] (by decide +kernel) (by decide +kernel)
set_option maxRecDepth 20000 in
theorem gL_build_X8_count : GoodIn wsL_build (wsV RL 56 RX8 yX8_count wsX8_count) := goodIn_app (goodIn_of _ (by decide +kernel)) ggL_build_X8_count
theorem dL_build_0 : decode cL_build 0 = .ok (.aload_n 1, 1) := by decide +kernel
theorem dL_build_1 : decode cL_build 1 = .ok (.iload_n 2, 1) := by decide +kernel
theorem dL_build_2 : decode cL_build 2 = .ok (.invokestatic 30, 3) := by decide +kernel
theorem dL_build_5 : decode cL_build 5 = .ok (.istore 9, 2) := by decide +kernel
theorem dL_build_7 : decode cL_build 7 = .ok (.aload 6, 2) := by decide +kernel
theorem dL_build_9 : decode cL_build 9 = .ok (.iconst 0, 1) := by decide +kernel
theorem dL_build_10 : decode cL_build 10 = .ok (.iload 7, 2) := by decide +kernel
theorem dL_build_12 : decode cL_build 12 = .ok (.iload 9, 2) := by decide +kernel
theorem dL_build_14 : decode cL_build 14 = .ok (.iload 8, 2) := by decide +kernel
theorem dL_build_16 : decode cL_build 16 = .ok (.iload 7, 2) := by decide +kernel
theorem dL_build_18 : decode cL_build 18 = .ok (.isub, 1) := by decide +kernel
theorem dL_build_19 : decode cL_build 19 = .ok (.iconst 1, 1) := by decide +kernel
theorem dL_build_20 : decode cL_build 20 = .ok (.iadd, 1) := by decide +kernel
theorem dL_build_21 : decode cL_build 21 = .ok (.invokestatic 34, 3) := by decide +kernel
theorem dL_build_24 : decode cL_build 24 = .ok (.iadd, 1) := by decide +kernel
theorem dL_build_25 : decode cL_build 25 = .ok (.iastore, 1) := by decide +kernel
theorem dL_build_26 : decode cL_build 26 = .ok (.aload 6, 2) := by decide +kernel
theorem dL_build_28 : decode cL_build 28 = .ok (.iconst 1, 1) := by decide +kernel
theorem dL_build_29 : decode cL_build 29 = .ok (.iconst 1, 1) := by decide +kernel
theorem dL_build_30 : decode cL_build 30 = .ok (.iload 9, 2) := by decide +kernel
theorem dL_build_32 : decode cL_build 32 = .ok (.iconst 3, 1) := by decide +kernel
theorem dL_build_33 : decode cL_build 33 = .ok (.ishr, 1) := by decide +kernel
theorem dL_build_34 : decode cL_build 34 = .ok (.bipush 6, 2) := by decide +kernel
theorem dL_build_36 : decode cL_build 36 = .ok (.invokestatic 34, 3) := by decide +kernel
theorem dL_build_39 : decode cL_build 39 = .ok (.iadd, 1) := by decide +kernel
theorem dL_build_40 : decode cL_build 40 = .ok (.iastore, 1) := by decide +kernel
theorem dL_build_41 : decode cL_build 41 = .ok (.iload 9, 2) := by decide +kernel
theorem dL_build_43 : decode cL_build 43 = .ok (.bipush 6, 2) := by decide +kernel
theorem dL_build_45 : decode cL_build 45 = .ok (.ishr, 1) := by decide +kernel
theorem dL_build_46 : decode cL_build 46 = .ok (.iconst 3, 1) := by decide +kernel
theorem dL_build_47 : decode cL_build 47 = .ok (.invokestatic 34, 3) := by decide +kernel
theorem dL_build_50 : decode cL_build 50 = .ok (.ifCond .ne 8, 3) := by decide +kernel
theorem dL_build_53 : decode cL_build 53 = .ok (.bipush 10, 2) := by decide +kernel
theorem dL_build_55 : decode cL_build 55 = .ok (.goto 4, 3) := by decide +kernel
theorem dL_build_58 : decode cL_build 58 = .ok (.iconst 4, 1) := by decide +kernel
theorem dL_build_59 : decode cL_build 59 = .ok (.istore 10, 2) := by decide +kernel
theorem dL_build_61 : decode cL_build 61 = .ok (.bipush 40, 2) := by decide +kernel
theorem dL_build_63 : decode cL_build 63 = .ok (.newarray .int, 2) := by decide +kernel
theorem dL_build_65 : decode cL_build 65 = .ok (.astore 11, 2) := by decide +kernel
theorem dL_build_67 : decode cL_build 67 = .ok (.iconst 0, 1) := by decide +kernel
theorem dL_build_68 : decode cL_build 68 = .ok (.istore 12, 2) := by decide +kernel
theorem dL_build_70 : decode cL_build 70 = .ok (.aload 11, 2) := by decide +kernel
theorem dL_build_72 : decode cL_build 72 = .ok (.iload 12, 2) := by decide +kernel
theorem dL_build_74 : decode cL_build 74 = .ok (.bipush 112, 2) := by decide +kernel
theorem dL_build_76 : decode cL_build 76 = .ok (.iastore, 1) := by decide +kernel
theorem dL_build_77 : decode cL_build 77 = .ok (.iload 12, 2) := by decide +kernel
theorem dL_build_79 : decode cL_build 79 = .ok (.iconst 1, 1) := by decide +kernel
theorem dL_build_80 : decode cL_build 80 = .ok (.iadd, 1) := by decide +kernel
theorem dL_build_81 : decode cL_build 81 = .ok (.istore 12, 2) := by decide +kernel
theorem dL_build_83 : decode cL_build 83 = .ok (.iconst 0, 1) := by decide +kernel
theorem dL_build_84 : decode cL_build 84 = .ok (.istore 13, 2) := by decide +kernel
theorem dL_build_86 : decode cL_build 86 = .ok (.iload 13, 2) := by decide +kernel
theorem dL_build_88 : decode cL_build 88 = .ok (.bipush 6, 2) := by decide +kernel
theorem dL_build_90 : decode cL_build 90 = .ok (.if_icmp .ge 15, 3) := by decide +kernel
theorem dL_build_93 : decode cL_build 93 = .ok (.aload 5, 2) := by decide +kernel
theorem dL_build_95 : decode cL_build 95 = .ok (.iload 13, 2) := by decide +kernel
theorem dL_build_97 : decode cL_build 97 = .ok (.iconst 0, 1) := by decide +kernel
theorem dL_build_98 : decode cL_build 98 = .ok (.iastore, 1) := by decide +kernel
theorem dL_build_99 : decode cL_build 99 = .ok (.iinc 13 1, 3) := by decide +kernel
theorem dL_build_102 : decode cL_build 102 = .ok (.goto (-16), 3) := by decide +kernel
theorem dL_build_105 : decode cL_build 105 = .ok (.iconst 0, 1) := by decide +kernel
theorem dL_build_106 : decode cL_build 106 = .ok (.istore 13, 2) := by decide +kernel
theorem dL_build_108 : decode cL_build 108 = .ok (.iload 13, 2) := by decide +kernel
theorem dL_build_110 : decode cL_build 110 = .ok (.aload 6, 2) := by decide +kernel
theorem dL_build_112 : decode cL_build 112 = .ok (.iconst 1, 1) := by decide +kernel
theorem dL_build_113 : decode cL_build 113 = .ok (.iaload, 1) := by decide +kernel
theorem dL_build_114 : decode cL_build 114 = .ok (.if_icmp .ge 48, 3) := by decide +kernel
theorem dL_build_117 : decode cL_build 117 = .ok (.aload 5, 2) := by decide +kernel
theorem dL_build_119 : decode cL_build 119 = .ok (.iload 13, 2) := by decide +kernel
theorem dL_build_121 : decode cL_build 121 = .ok (.iload 9, 2) := by decide +kernel
theorem dL_build_123 : decode cL_build 123 = .ok (.bipush 8, 2) := by decide +kernel
theorem dL_build_125 : decode cL_build 125 = .ok (.iconst 3, 1) := by decide +kernel
theorem dL_build_126 : decode cL_build 126 = .ok (.iload 13, 2) := by decide +kernel
theorem dL_build_128 : decode cL_build 128 = .ok (.imul, 1) := by decide +kernel
theorem dL_build_129 : decode cL_build 129 = .ok (.iadd, 1) := by decide +kernel
theorem dL_build_130 : decode cL_build 130 = .ok (.ishr, 1) := by decide +kernel
theorem dL_build_131 : decode cL_build 131 = .ok (.iload 10, 2) := by decide +kernel
theorem dL_build_133 : decode cL_build 133 = .ok (.invokestatic 34, 3) := by decide +kernel
theorem dL_build_136 : decode cL_build 136 = .ok (.iastore, 1) := by decide +kernel
theorem dL_build_137 : decode cL_build 137 = .ok (.aload 11, 2) := by decide +kernel
theorem dL_build_139 : decode cL_build 139 = .ok (.iload 12, 2) := by decide +kernel
theorem dL_build_141 : decode cL_build 141 = .ok (.bipush 48, 2) := by decide +kernel
theorem dL_build_143 : decode cL_build 143 = .ok (.aload 5, 2) := by decide +kernel
theorem dL_build_145 : decode cL_build 145 = .ok (.iload 13, 2) := by decide +kernel
theorem dL_build_147 : decode cL_build 147 = .ok (.iaload, 1) := by decide +kernel
theorem dL_build_148 : decode cL_build 148 = .ok (.iadd, 1) := by decide +kernel
theorem dL_build_149 : decode cL_build 149 = .ok (.iastore, 1) := by decide +kernel
theorem dL_build_150 : decode cL_build 150 = .ok (.iload 12, 2) := by decide +kernel
theorem dL_build_152 : decode cL_build 152 = .ok (.iconst 1, 1) := by decide +kernel
theorem dL_build_153 : decode cL_build 153 = .ok (.iadd, 1) := by decide +kernel
theorem dL_build_154 : decode cL_build 154 = .ok (.istore 12, 2) := by decide +kernel
theorem dL_build_156 : decode cL_build 156 = .ok (.iinc 13 1, 3) := by decide +kernel
theorem dL_build_159 : decode cL_build 159 = .ok (.goto (-51), 3) := by decide +kernel
theorem dL_build_162 : decode cL_build 162 = .ok (.iconst 0, 1) := by decide +kernel
theorem dL_build_163 : decode cL_build 163 = .ok (.istore 13, 2) := by decide +kernel
theorem dL_build_165 : decode cL_build 165 = .ok (.iload 13, 2) := by decide +kernel
theorem dL_build_167 : decode cL_build 167 = .ok (.aload 6, 2) := by decide +kernel
theorem dL_build_169 : decode cL_build 169 = .ok (.iconst 0, 1) := by decide +kernel
theorem dL_build_170 : decode cL_build 170 = .ok (.iaload, 1) := by decide +kernel
theorem dL_build_171 : decode cL_build 171 = .ok (.if_icmp .ge 123, 3) := by decide +kernel
theorem dL_build_174 : decode cL_build 174 = .ok (.aload_n 1, 1) := by decide +kernel
theorem dL_build_175 : decode cL_build 175 = .ok (.iload_n 2, 1) := by decide +kernel
theorem dL_build_176 : decode cL_build 176 = .ok (.iconst 1, 1) := by decide +kernel
theorem dL_build_177 : decode cL_build 177 = .ok (.iadd, 1) := by decide +kernel
theorem dL_build_178 : decode cL_build 178 = .ok (.iload 13, 2) := by decide +kernel
theorem dL_build_180 : decode cL_build 180 = .ok (.iadd, 1) := by decide +kernel
theorem dL_build_181 : decode cL_build 181 = .ok (.invokestatic 30, 3) := by decide +kernel
theorem dL_build_184 : decode cL_build 184 = .ok (.istore 14, 2) := by decide +kernel
theorem dL_build_186 : decode cL_build 186 = .ok (.aload_n 3, 1) := by decide +kernel
theorem dL_build_187 : decode cL_build 187 = .ok (.iload 13, 2) := by decide +kernel
theorem dL_build_189 : decode cL_build 189 = .ok (.iload 14, 2) := by decide +kernel
theorem dL_build_191 : decode cL_build 191 = .ok (.iconst 3, 1) := by decide +kernel
theorem dL_build_192 : decode cL_build 192 = .ok (.invokestatic 34, 3) := by decide +kernel
theorem dL_build_195 : decode cL_build 195 = .ok (.ifCond .ne 7, 3) := by decide +kernel
theorem dL_build_198 : decode cL_build 198 = .ok (.iconst 0, 1) := by decide +kernel
theorem dL_build_199 : decode cL_build 199 = .ok (.goto 12, 3) := by decide +kernel
theorem dL_build_202 : decode cL_build 202 = .ok (.iload 14, 2) := by decide +kernel
theorem dL_build_204 : decode cL_build 204 = .ok (.iconst 2, 1) := by decide +kernel
theorem dL_build_205 : decode cL_build 205 = .ok (.ishr, 1) := by decide +kernel
theorem dL_build_206 : decode cL_build 206 = .ok (.bipush 6, 2) := by decide +kernel
theorem dL_build_208 : decode cL_build 208 = .ok (.invokestatic 34, 3) := by decide +kernel
theorem dL_build_211 : decode cL_build 211 = .ok (.iastore, 1) := by decide +kernel
theorem dL_build_212 : decode cL_build 212 = .ok (.aload 4, 2) := by decide +kernel
theorem dL_build_214 : decode cL_build 214 = .ok (.iload 13, 2) := by decide +kernel
theorem dL_build_216 : decode cL_build 216 = .ok (.iload 14, 2) := by decide +kernel
theorem dL_build_218 : decode cL_build 218 = .ok (.iconst 5, 1) := by decide +kernel
theorem dL_build_219 : decode cL_build 219 = .ok (.ishr, 1) := by decide +kernel
theorem dL_build_220 : decode cL_build 220 = .ok (.aload 6, 2) := by decide +kernel
theorem dL_build_222 : decode cL_build 222 = .ok (.iconst 1, 1) := by decide +kernel
theorem dL_build_223 : decode cL_build 223 = .ok (.iaload, 1) := by decide +kernel
theorem dL_build_224 : decode cL_build 224 = .ok (.iconst 1, 1) := by decide +kernel
theorem dL_build_225 : decode cL_build 225 = .ok (.iadd, 1) := by decide +kernel
theorem dL_build_226 : decode cL_build 226 = .ok (.invokestatic 34, 3) := by decide +kernel
theorem dL_build_229 : decode cL_build 229 = .ok (.iastore, 1) := by decide +kernel
theorem dL_build_230 : decode cL_build 230 = .ok (.iload 14, 2) := by decide +kernel
theorem dL_build_232 : decode cL_build 232 = .ok (.bipush 9, 2) := by decide +kernel
theorem dL_build_234 : decode cL_build 234 = .ok (.ishr, 1) := by decide +kernel
theorem dL_build_235 : decode cL_build 235 = .ok (.iconst 2, 1) := by decide +kernel
theorem dL_build_236 : decode cL_build 236 = .ok (.invokestatic 34, 3) := by decide +kernel
theorem dL_build_239 : decode cL_build 239 = .ok (.ifCond .ne 16, 3) := by decide +kernel
theorem dL_build_242 : decode cL_build 242 = .ok (.aload 11, 2) := by decide +kernel
theorem dL_build_244 : decode cL_build 244 = .ok (.iload 12, 2) := by decide +kernel
theorem dL_build_246 : decode cL_build 246 = .ok (.bipush 32, 2) := by decide +kernel
theorem dL_build_248 : decode cL_build 248 = .ok (.iastore, 1) := by decide +kernel
theorem dL_build_249 : decode cL_build 249 = .ok (.iload 12, 2) := by decide +kernel
theorem dL_build_251 : decode cL_build 251 = .ok (.iconst 1, 1) := by decide +kernel
theorem dL_build_252 : decode cL_build 252 = .ok (.iadd, 1) := by decide +kernel
theorem dL_build_253 : decode cL_build 253 = .ok (.istore 12, 2) := by decide +kernel
theorem dL_build_255 : decode cL_build 255 = .ok (.aload 11, 2) := by decide +kernel
theorem dL_build_257 : decode cL_build 257 = .ok (.iload 12, 2) := by decide +kernel
theorem dL_build_259 : decode cL_build 259 = .ok (.aload_n 3, 1) := by decide +kernel
theorem dL_build_260 : decode cL_build 260 = .ok (.iload 13, 2) := by decide +kernel
theorem dL_build_262 : decode cL_build 262 = .ok (.iaload, 1) := by decide +kernel
theorem dL_build_263 : decode cL_build 263 = .ok (.invokestatic 38, 3) := by decide +kernel
theorem dL_build_266 : decode cL_build 266 = .ok (.iastore, 1) := by decide +kernel
theorem dL_build_267 : decode cL_build 267 = .ok (.aload 11, 2) := by decide +kernel
theorem dL_build_269 : decode cL_build 269 = .ok (.iload 12, 2) := by decide +kernel
theorem dL_build_271 : decode cL_build 271 = .ok (.iconst 1, 1) := by decide +kernel
theorem dL_build_272 : decode cL_build 272 = .ok (.iadd, 1) := by decide +kernel
theorem dL_build_273 : decode cL_build 273 = .ok (.bipush 48, 2) := by decide +kernel
theorem dL_build_275 : decode cL_build 275 = .ok (.aload 4, 2) := by decide +kernel
theorem dL_build_277 : decode cL_build 277 = .ok (.iload 13, 2) := by decide +kernel
theorem dL_build_279 : decode cL_build 279 = .ok (.iaload, 1) := by decide +kernel
theorem dL_build_280 : decode cL_build 280 = .ok (.iadd, 1) := by decide +kernel
theorem dL_build_281 : decode cL_build 281 = .ok (.iastore, 1) := by decide +kernel
theorem dL_build_282 : decode cL_build 282 = .ok (.iload 12, 2) := by decide +kernel
theorem dL_build_284 : decode cL_build 284 = .ok (.iconst 2, 1) := by decide +kernel
theorem dL_build_285 : decode cL_build 285 = .ok (.iadd, 1) := by decide +kernel
theorem dL_build_286 : decode cL_build 286 = .ok (.istore 12, 2) := by decide +kernel
theorem dL_build_288 : decode cL_build 288 = .ok (.iinc 13 1, 3) := by decide +kernel
theorem dL_build_291 : decode cL_build 291 = .ok (.goto (-126), 3) := by decide +kernel
theorem dL_build_294 : decode cL_build 294 = .ok (.aload_n 0, 1) := by decide +kernel
theorem dL_build_295 : decode cL_build 295 = .ok (.iconst 0, 1) := by decide +kernel
theorem dL_build_296 : decode cL_build 296 = .ok (.iload 12, 2) := by decide +kernel
theorem dL_build_298 : decode cL_build 298 = .ok (.invokevirtual 41, 3) := by decide +kernel
theorem dL_build_301 : decode cL_build 301 = .ok (.iload 12, 2) := by decide +kernel
theorem dL_build_303 : decode cL_build 303 = .ok (.if_icmp .ne 7, 3) := by decide +kernel
theorem dL_build_306 : decode cL_build 306 = .ok (.iconst 1, 1) := by decide +kernel
theorem dL_build_307 : decode cL_build 307 = .ok (.goto 4, 3) := by decide +kernel
theorem dL_build_310 : decode cL_build 310 = .ok (.iconst 0, 1) := by decide +kernel
end
section
theorem dL_build_311 : decode cL_build 311 = .ok (.istore 13, 2) := by decide +kernel
theorem dL_build_313 : decode cL_build 313 = .ok (.iconst 0, 1) := by decide +kernel
theorem dL_build_314 : decode cL_build 314 = .ok (.istore 14, 2) := by decide +kernel
theorem dL_build_316 : decode cL_build 316 = .ok (.iload 14, 2) := by decide +kernel
theorem dL_build_318 : decode cL_build 318 = .ok (.iload 12, 2) := by decide +kernel
theorem dL_build_320 : decode cL_build 320 = .ok (.if_icmp .ge 39, 3) := by decide +kernel
theorem dL_build_323 : decode cL_build 323 = .ok (.iload 13, 2) := by decide +kernel
theorem dL_build_325 : decode cL_build 325 = .ok (.ifCond .eq 34, 3) := by decide +kernel
theorem dL_build_328 : decode cL_build 328 = .ok (.aload_n 0, 1) := by decide +kernel
theorem dL_build_329 : decode cL_build 329 = .ok (.iconst 0, 1) := by decide +kernel
theorem dL_build_330 : decode cL_build 330 = .ok (.iload 14, 2) := by decide +kernel
theorem dL_build_332 : decode cL_build 332 = .ok (.aload 11, 2) := by decide +kernel
theorem dL_build_334 : decode cL_build 334 = .ok (.iload 14, 2) := by decide +kernel
theorem dL_build_336 : decode cL_build 336 = .ok (.iaload, 1) := by decide +kernel
theorem dL_build_337 : decode cL_build 337 = .ok (.invokevirtual 46, 3) := by decide +kernel
theorem dL_build_340 : decode cL_build 340 = .ok (.sipush 1032, 3) := by decide +kernel
theorem dL_build_343 : decode cL_build 343 = .ok (.if_icmp .ne 7, 3) := by decide +kernel
theorem dL_build_346 : decode cL_build 346 = .ok (.iconst 1, 1) := by decide +kernel
theorem dL_build_347 : decode cL_build 347 = .ok (.goto 4, 3) := by decide +kernel
theorem dL_build_350 : decode cL_build 350 = .ok (.iconst 0, 1) := by decide +kernel
theorem dL_build_351 : decode cL_build 351 = .ok (.istore 13, 2) := by decide +kernel
theorem dL_build_353 : decode cL_build 353 = .ok (.iinc 14 1, 3) := by decide +kernel
theorem dL_build_356 : decode cL_build 356 = .ok (.goto (-40), 3) := by decide +kernel
theorem dL_build_359 : decode cL_build 359 = .ok (.iload 13, 2) := by decide +kernel
theorem dL_build_361 : decode cL_build 361 = .ok (.ifCond .eq 53, 3) := by decide +kernel
theorem dL_build_364 : decode cL_build 364 = .ok (.aload_n 0, 1) := by decide +kernel
theorem dL_build_365 : decode cL_build 365 = .ok (.iconst 0, 1) := by decide +kernel
theorem dL_build_366 : decode cL_build 366 = .ok (.invokevirtual 50, 3) := by decide +kernel
theorem dL_build_369 : decode cL_build 369 = .ok (.bipush (-9), 2) := by decide +kernel
theorem dL_build_371 : decode cL_build 371 = .ok (.if_icmp .ne 43, 3) := by decide +kernel
theorem dL_build_374 : decode cL_build 374 = .ok (.aload_n 0, 1) := by decide +kernel
theorem dL_build_375 : decode cL_build 375 = .ok (.iconst 0, 1) := by decide +kernel
theorem dL_build_376 : decode cL_build 376 = .ok (.invokevirtual 53, 3) := by decide +kernel
theorem dL_build_379 : decode cL_build 379 = .ok (.aload 6, 2) := by decide +kernel
theorem dL_build_381 : decode cL_build 381 = .ok (.iconst 0, 1) := by decide +kernel
theorem dL_build_382 : decode cL_build 382 = .ok (.iaload, 1) := by decide +kernel
theorem dL_build_383 : decode cL_build 383 = .ok (.if_icmp .ne 31, 3) := by decide +kernel
theorem dL_build_386 : decode cL_build 386 = .ok (.aload_n 0, 1) := by decide +kernel
theorem dL_build_387 : decode cL_build 387 = .ok (.iconst 0, 1) := by decide +kernel
theorem dL_build_388 : decode cL_build 388 = .ok (.invokevirtual 56, 3) := by decide +kernel
theorem dL_build_391 : decode cL_build 391 = .ok (.aload 6, 2) := by decide +kernel
theorem dL_build_393 : decode cL_build 393 = .ok (.iconst 0, 1) := by decide +kernel
theorem dL_build_394 : decode cL_build 394 = .ok (.iaload, 1) := by decide +kernel
theorem dL_build_395 : decode cL_build 395 = .ok (.if_icmp .ne 19, 3) := by decide +kernel
theorem dL_build_398 : decode cL_build 398 = .ok (.aload_n 0, 1) := by decide +kernel
theorem dL_build_399 : decode cL_build 399 = .ok (.iconst 1, 1) := by decide +kernel
theorem dL_build_400 : decode cL_build 400 = .ok (.invokevirtual 56, 3) := by decide +kernel
theorem dL_build_403 : decode cL_build 403 = .ok (.aload 6, 2) := by decide +kernel
theorem dL_build_405 : decode cL_build 405 = .ok (.iconst 1, 1) := by decide +kernel
theorem dL_build_406 : decode cL_build 406 = .ok (.iaload, 1) := by decide +kernel
theorem dL_build_407 : decode cL_build 407 = .ok (.if_icmp .ne 7, 3) := by decide +kernel
theorem dL_build_410 : decode cL_build 410 = .ok (.iconst 1, 1) := by decide +kernel
theorem dL_build_411 : decode cL_build 411 = .ok (.goto 4, 3) := by decide +kernel
theorem dL_build_414 : decode cL_build 414 = .ok (.iconst 0, 1) := by decide +kernel
theorem dL_build_415 : decode cL_build 415 = .ok (.ireturn, 1) := by decide +kernel
set_option maxRecDepth 20000 in
theorem ggL_talks_L_cell : GoodIn wsL_talks wsL_cell := goodIn_r _ [4, 5] (by decide +kernel) (by decide +kernel)
set_option maxRecDepth 20000 in
theorem gL_talks_L_cell : GoodIn wsL_talks (va_wsS RL 30 yL_cell wsL_cell) := goodIn_app (goodIn_of _ (by decide +kernel)) ggL_talks_L_cell
set_option maxRecDepth 20000 in
theorem ggL_talks_L_some : GoodIn wsL_talks wsL_some := goodIn_r _ [8, 9] (by decide +kernel) (by decide +kernel)
set_option maxRecDepth 20000 in
theorem gL_talks_L_some : GoodIn wsL_talks (va_wsS RL 34 yL_some wsL_some) := goodIn_app (goodIn_of _ (by decide +kernel)) ggL_talks_L_some
set_option maxRecDepth 20000 in
theorem ggL_talks_X8_talk : GoodIn wsL_talks wsX8_talk := goodIn_r _ [14, 15, 16, 17, 18, 19, 13, 20, 21, 22, 23, 24, 25, 26, 27, 28, 29, 30, 31, 32, 33, 34, 35, 36, 37, 38, 39, 40, 41, 42, 43, 44, 45, 46, 47, 48, 49, 50, 51, 52, 53, 54, 55, 56, 57, 58, 59, 60, 61, 62, 63, 64, 65, 66] (by decide +kernel) (by decide +kernel)
set_option maxRecDepth 20000 in
theorem gL_talks_X8_talk : GoodIn wsL_talks (wsV RL 59 RX8 yX8_talk wsX8_talk) := goodIn_app (goodIn_of _ (by decide +kernel)) ggL_talks_X8_talk
theorem dL_talks_0 : decode cL_talks 0 = .ok (.aload_n 3, 1) := by decide +kernel
theorem dL_talks_1 : decode cL_talks 1 = .ok (.iconst 0, 1) := by decide +kernel
theorem dL_talks_2 : decode cL_talks 2 = .ok (.iaload, 1) := by decide +kernel
theorem dL_talks_3 : decode cL_talks 3 = .ok (.iconst 2, 1) := by decide +kernel
theorem dL_talks_4 : decode cL_talks 4 = .ok (.if_icmp .ge 7, 3) := by decide +kernel
theorem dL_talks_7 : decode cL_talks 7 = .ok (.iconst 0, 1) := by decide +kernel
theorem dL_talks_8 : decode cL_talks 8 = .ok (.goto 15, 3) := by decide +kernel
theorem dL_talks_11 : decode cL_talks 11 = .ok (.aload_n 1, 1) := by decide +kernel
theorem dL_talks_12 : decode cL_talks 12 = .ok (.iload_n 2, 1) := by decide +kernel
theorem dL_talks_13 : decode cL_talks 13 = .ok (.invokestatic 30, 3) := by decide +kernel
theorem dL_talks_16 : decode cL_talks 16 = .ok (.iload 5, 2) := by decide +kernel
theorem dL_talks_18 : decode cL_talks 18 = .ok (.iconst 1, 1) := by decide +kernel
theorem dL_talks_19 : decode cL_talks 19 = .ok (.iadd, 1) := by decide +kernel
theorem dL_talks_20 : decode cL_talks 20 = .ok (.invokestatic 34, 3) := by decide +kernel
theorem dL_talks_23 : decode cL_talks 23 = .ok (.istore 6, 2) := by decide +kernel
theorem dL_talks_25 : decode cL_talks 25 = .ok (.iconst 1, 1) := by decide +kernel
theorem dL_talks_26 : decode cL_talks 26 = .ok (.istore 7, 2) := by decide +kernel
theorem dL_talks_28 : decode cL_talks 28 = .ok (.iconst 0, 1) := by decide +kernel
theorem dL_talks_29 : decode cL_talks 29 = .ok (.istore 8, 2) := by decide +kernel
theorem dL_talks_31 : decode cL_talks 31 = .ok (.iload 8, 2) := by decide +kernel
theorem dL_talks_33 : decode cL_talks 33 = .ok (.iload 6, 2) := by decide +kernel
theorem dL_talks_35 : decode cL_talks 35 = .ok (.if_icmp .ge 155, 3) := by decide +kernel
theorem dL_talks_38 : decode cL_talks 38 = .ok (.iload 7, 2) := by decide +kernel
theorem dL_talks_40 : decode cL_talks 40 = .ok (.ifCond .eq 150, 3) := by decide +kernel
theorem dL_talks_43 : decode cL_talks 43 = .ok (.aload_n 1, 1) := by decide +kernel
theorem dL_talks_44 : decode cL_talks 44 = .ok (.iload_n 2, 1) := by decide +kernel
theorem dL_talks_45 : decode cL_talks 45 = .ok (.iconst 1, 1) := by decide +kernel
theorem dL_talks_46 : decode cL_talks 46 = .ok (.iadd, 1) := by decide +kernel
theorem dL_talks_47 : decode cL_talks 47 = .ok (.iload 8, 2) := by decide +kernel
theorem dL_talks_49 : decode cL_talks 49 = .ok (.iadd, 1) := by decide +kernel
theorem dL_talks_50 : decode cL_talks 50 = .ok (.invokestatic 30, 3) := by decide +kernel
theorem dL_talks_53 : decode cL_talks 53 = .ok (.istore 9, 2) := by decide +kernel
theorem dL_talks_55 : decode cL_talks 55 = .ok (.iload 9, 2) := by decide +kernel
theorem dL_talks_57 : decode cL_talks 57 = .ok (.aload_n 3, 1) := by decide +kernel
theorem dL_talks_58 : decode cL_talks 58 = .ok (.iconst 0, 1) := by decide +kernel
theorem dL_talks_59 : decode cL_talks 59 = .ok (.iaload, 1) := by decide +kernel
theorem dL_talks_60 : decode cL_talks 60 = .ok (.invokestatic 34, 3) := by decide +kernel
theorem dL_talks_63 : decode cL_talks 63 = .ok (.istore 10, 2) := by decide +kernel
theorem dL_talks_65 : decode cL_talks 65 = .ok (.iload 10, 2) := by decide +kernel
theorem dL_talks_67 : decode cL_talks 67 = .ok (.iconst 1, 1) := by decide +kernel
theorem dL_talks_68 : decode cL_talks 68 = .ok (.iadd, 1) := by decide +kernel
theorem dL_talks_69 : decode cL_talks 69 = .ok (.iload 9, 2) := by decide +kernel
theorem dL_talks_71 : decode cL_talks 71 = .ok (.iconst 3, 1) := by decide +kernel
theorem dL_talks_72 : decode cL_talks 72 = .ok (.ishr, 1) := by decide +kernel
theorem dL_talks_73 : decode cL_talks 73 = .ok (.aload_n 3, 1) := by decide +kernel
theorem dL_talks_74 : decode cL_talks 74 = .ok (.iconst 0, 1) := by decide +kernel
theorem dL_talks_75 : decode cL_talks 75 = .ok (.iaload, 1) := by decide +kernel
theorem dL_talks_76 : decode cL_talks 76 = .ok (.iconst 1, 1) := by decide +kernel
theorem dL_talks_77 : decode cL_talks 77 = .ok (.isub, 1) := by decide +kernel
theorem dL_talks_78 : decode cL_talks 78 = .ok (.invokestatic 34, 3) := by decide +kernel
theorem dL_talks_81 : decode cL_talks 81 = .ok (.iadd, 1) := by decide +kernel
theorem dL_talks_82 : decode cL_talks 82 = .ok (.aload_n 3, 1) := by decide +kernel
theorem dL_talks_83 : decode cL_talks 83 = .ok (.iconst 0, 1) := by decide +kernel
theorem dL_talks_84 : decode cL_talks 84 = .ok (.iaload, 1) := by decide +kernel
theorem dL_talks_85 : decode cL_talks 85 = .ok (.irem, 1) := by decide +kernel
theorem dL_talks_86 : decode cL_talks 86 = .ok (.istore 11, 2) := by decide +kernel
theorem dL_talks_88 : decode cL_talks 88 = .ok (.iload 9, 2) := by decide +kernel
theorem dL_talks_90 : decode cL_talks 90 = .ok (.bipush 6, 2) := by decide +kernel
theorem dL_talks_92 : decode cL_talks 92 = .ok (.ishr, 1) := by decide +kernel
theorem dL_talks_93 : decode cL_talks 93 = .ok (.iconst 1, 1) := by decide +kernel
theorem dL_talks_94 : decode cL_talks 94 = .ok (.aload_n 3, 1) := by decide +kernel
theorem dL_talks_95 : decode cL_talks 95 = .ok (.iconst 0, 1) := by decide +kernel
theorem dL_talks_96 : decode cL_talks 96 = .ok (.iaload, 1) := by decide +kernel
theorem dL_talks_97 : decode cL_talks 97 = .ok (.ishl, 1) := by decide +kernel
theorem dL_talks_98 : decode cL_talks 98 = .ok (.invokestatic 34, 3) := by decide +kernel
theorem dL_talks_101 : decode cL_talks 101 = .ok (.iload 9, 2) := by decide +kernel
theorem dL_talks_103 : decode cL_talks 103 = .ok (.bipush 13, 2) := by decide +kernel
theorem dL_talks_105 : decode cL_talks 105 = .ok (.ishr, 1) := by decide +kernel
theorem dL_talks_106 : decode cL_talks 106 = .ok (.iconst 1, 1) := by decide +kernel
theorem dL_talks_107 : decode cL_talks 107 = .ok (.aload_n 3, 1) := by decide +kernel
theorem dL_talks_108 : decode cL_talks 108 = .ok (.iconst 0, 1) := by decide +kernel
theorem dL_talks_109 : decode cL_talks 109 = .ok (.iaload, 1) := by decide +kernel
theorem dL_talks_110 : decode cL_talks 110 = .ok (.ishl, 1) := by decide +kernel
theorem dL_talks_111 : decode cL_talks 111 = .ok (.invokestatic 34, 3) := by decide +kernel
theorem dL_talks_114 : decode cL_talks 114 = .ok (.iand, 1) := by decide +kernel
theorem dL_talks_115 : decode cL_talks 115 = .ok (.iconst 1, 1) := by decide +kernel
theorem dL_talks_116 : decode cL_talks 116 = .ok (.iload 10, 2) := by decide +kernel
theorem dL_talks_118 : decode cL_talks 118 = .ok (.ishl, 1) := by decide +kernel
theorem dL_talks_119 : decode cL_talks 119 = .ok (.iconst (-1), 1) := by decide +kernel
theorem dL_talks_120 : decode cL_talks 120 = .ok (.ixor, 1) := by decide +kernel
theorem dL_talks_121 : decode cL_talks 121 = .ok (.iand, 1) := by decide +kernel
theorem dL_talks_122 : decode cL_talks 122 = .ok (.iconst 1, 1) := by decide +kernel
theorem dL_talks_123 : decode cL_talks 123 = .ok (.iload 11, 2) := by decide +kernel
theorem dL_talks_125 : decode cL_talks 125 = .ok (.ishl, 1) := by decide +kernel
theorem dL_talks_126 : decode cL_talks 126 = .ok (.iconst (-1), 1) := by decide +kernel
theorem dL_talks_127 : decode cL_talks 127 = .ok (.ixor, 1) := by decide +kernel
theorem dL_talks_128 : decode cL_talks 128 = .ok (.iand, 1) := by decide +kernel
theorem dL_talks_129 : decode cL_talks 129 = .ok (.istore 12, 2) := by decide +kernel
theorem dL_talks_131 : decode cL_talks 131 = .ok (.aload 4, 2) := by decide +kernel
theorem dL_talks_133 : decode cL_talks 133 = .ok (.iconst 3, 1) := by decide +kernel
theorem dL_talks_134 : decode cL_talks 134 = .ok (.iload 8, 2) := by decide +kernel
theorem dL_talks_136 : decode cL_talks 136 = .ok (.imul, 1) := by decide +kernel
theorem dL_talks_137 : decode cL_talks 137 = .ok (.iload 10, 2) := by decide +kernel
theorem dL_talks_139 : decode cL_talks 139 = .ok (.iastore, 1) := by decide +kernel
theorem dL_talks_140 : decode cL_talks 140 = .ok (.aload 4, 2) := by decide +kernel
theorem dL_talks_142 : decode cL_talks 142 = .ok (.iconst 3, 1) := by decide +kernel
theorem dL_talks_143 : decode cL_talks 143 = .ok (.iload 8, 2) := by decide +kernel
theorem dL_talks_145 : decode cL_talks 145 = .ok (.imul, 1) := by decide +kernel
theorem dL_talks_146 : decode cL_talks 146 = .ok (.iconst 1, 1) := by decide +kernel
theorem dL_talks_147 : decode cL_talks 147 = .ok (.iadd, 1) := by decide +kernel
theorem dL_talks_148 : decode cL_talks 148 = .ok (.iload 11, 2) := by decide +kernel
theorem dL_talks_150 : decode cL_talks 150 = .ok (.iastore, 1) := by decide +kernel
theorem dL_talks_151 : decode cL_talks 151 = .ok (.aload 4, 2) := by decide +kernel
theorem dL_talks_153 : decode cL_talks 153 = .ok (.iconst 3, 1) := by decide +kernel
theorem dL_talks_154 : decode cL_talks 154 = .ok (.iload 8, 2) := by decide +kernel
theorem dL_talks_156 : decode cL_talks 156 = .ok (.imul, 1) := by decide +kernel
theorem dL_talks_157 : decode cL_talks 157 = .ok (.iconst 2, 1) := by decide +kernel
theorem dL_talks_158 : decode cL_talks 158 = .ok (.iadd, 1) := by decide +kernel
theorem dL_talks_159 : decode cL_talks 159 = .ok (.iload 12, 2) := by decide +kernel
theorem dL_talks_161 : decode cL_talks 161 = .ok (.iastore, 1) := by decide +kernel
theorem dL_talks_162 : decode cL_talks 162 = .ok (.aload_n 0, 1) := by decide +kernel
theorem dL_talks_163 : decode cL_talks 163 = .ok (.iload 10, 2) := by decide +kernel
theorem dL_talks_165 : decode cL_talks 165 = .ok (.iload 11, 2) := by decide +kernel
theorem dL_talks_167 : decode cL_talks 167 = .ok (.iload 12, 2) := by decide +kernel
theorem dL_talks_169 : decode cL_talks 169 = .ok (.invokevirtual 59, 3) := by decide +kernel
theorem dL_talks_172 : decode cL_talks 172 = .ok (.iload 8, 2) := by decide +kernel
theorem dL_talks_174 : decode cL_talks 174 = .ok (.if_icmp .ne 7, 3) := by decide +kernel
theorem dL_talks_177 : decode cL_talks 177 = .ok (.iconst 1, 1) := by decide +kernel
theorem dL_talks_178 : decode cL_talks 178 = .ok (.goto 4, 3) := by decide +kernel
theorem dL_talks_181 : decode cL_talks 181 = .ok (.iconst 0, 1) := by decide +kernel
theorem dL_talks_182 : decode cL_talks 182 = .ok (.istore 7, 2) := by decide +kernel
theorem dL_talks_184 : decode cL_talks 184 = .ok (.iinc 8 1, 3) := by decide +kernel
theorem dL_talks_187 : decode cL_talks 187 = .ok (.goto (-156), 3) := by decide +kernel
theorem dL_talks_190 : decode cL_talks 190 = .ok (.aload_n 3, 1) := by decide +kernel
theorem dL_talks_191 : decode cL_talks 191 = .ok (.iconst 2, 1) := by decide +kernel
theorem dL_talks_192 : decode cL_talks 192 = .ok (.iload 6, 2) := by decide +kernel
theorem dL_talks_194 : decode cL_talks 194 = .ok (.iastore, 1) := by decide +kernel
theorem dL_talks_195 : decode cL_talks 195 = .ok (.iload 7, 2) := by decide +kernel
theorem dL_talks_197 : decode cL_talks 197 = .ok (.ireturn, 1) := by decide +kernel
set_option maxRecDepth 20000 in
theorem ggL_law_X8_init : GoodIn wsL_law wsX8_init := goodIn_r _ [6, 7, 8, 9, 10, 11, 12, 13, 14, 15, 16, 17, 18, 19, 20, 21, 22, 23, 24, 25, 26, 27, 28, 29, 30, 31, 32, 33, 3, 34, 35, 36, 37, 38, 39, 40, 41, 42, 43, 44, 45, 46, 47, 48, 49, 50, 51, 52, 53, 54, 55, 56, 57, 58, 59, 60, 61, 62, 63, 64, 65, 66, 67, 68, 69, 70, 71, 72, 73, 74, 75, 76, 77, 78, 79, 80, 81, 82, 83, 84, 85, 86, 87, 88, 89, 90, 91, 92, 543, 544, 545, 546, 547, 548, 549, 550, 551, 552, 553, 554, 555, 556, 557, 558, 559, 560, 561, 562, 563, 564, 565, 566, 567, 568, 569, 570, 571, 572, 573, 574, 575, 576, 577, 578, 579, 580, 581, 582] (by decide +kernel) (by decide +kernel)
set_option maxRecDepth 20000 in
theorem gL_law_X8_init : GoodIn wsL_law (wsX8_init) := ggL_law_X8_init
set_option maxRecDepth 20000 in
theorem ggL_law_L_build : GoodIn wsL_law wsL_build := goodIn_r _ [96, 3, 97, 98, 95, 99, 100, 101, 102, 103, 104, 105, 106, 107, 108, 109, 110, 2, 111, 13, 112, 113, 114, 115, 116, 117, 118, 119, 34, 120, 121, 122, 38, 123, 92, 91, 124, 125, 126, 127, 128, 129, 130, 131, 132, 133, 134, 135, 136, 137, 138, 139, 140, 18, 141, 142, 143, 16, 144, 145, 146, 147, 53, 43, 148, 149, 150, 52, 151, 152, 153, 154, 155, 156, 157, 158, 159, 160, 161, 162, 163, 164, 165, 166, 167, 168, 169, 170, 171, 44, 172, 173, 174, 175, 176, 45, 46, 177, 178, 179, 180, 181, 182, 183, 184, 185, 17, 21, 186, 187, 188, 189, 190, 191, 192, 193, 194, 47, 48, 49, 195, 196, 197, 198, 58, 199, 59, 60, 62, 200, 201, 202, 203, 204, 205, 206, 207, 208, 209, 210, 211, 212, 213, 214, 215, 216, 217, 218, 219, 11, 220, 221, 222, 36, 223, 85, 224, 225, 226, 227, 228, 229, 230, 231, 543, 544, 545, 546, 547, 548, 549, 550, 551, 552, 553, 554, 575, 576, 555, 556, 557, 558, 559, 560, 561, 562, 563, 564, 565, 577, 578, 579, 580, 581, 582, 573, 574] (by decide +kernel) (by decide +kernel)
set_option maxRecDepth 20000 in
theorem gL_law_L_build : GoodIn wsL_law (va_wsS RL 70 yL_build wsL_build) := goodIn_app (goodIn_of _ (by decide +kernel)) ggL_law_L_build
set_option maxRecDepth 20000 in
theorem ggL_law_L_talks : GoodIn wsL_law wsL_talks := goodIn_r _ [234, 97, 98, 95, 99, 100, 101, 102, 103, 104, 235, 236, 237, 2, 238, 17, 205, 239, 240, 241, 242, 243, 244, 245, 246, 186, 247, 248, 249, 250, 251, 252, 253, 16, 254, 146, 255, 256, 257, 258, 47, 147, 48, 49, 543, 544, 545, 546, 547, 548, 549, 550, 551, 552, 553, 554, 555, 556, 557, 558, 559, 560, 561, 562, 563, 564, 565] (by decide +kernel) (by decide +kernel)
set_option maxRecDepth 20000 in
theorem gL_law_L_talks : GoodIn wsL_law (va_wsS RL 74 yL_talks wsL_talks) := goodIn_app (goodIn_of _ (by decide +kernel)) ggL_law_L_talks
set_option maxRecDepth 20000 in
theorem ggL_law_X8_keep : GoodIn wsL_law wsX8_keep := goodIn_r _ [262, 17, 186, 19, 21, 206, 207, 263, 264, 2, 265, 187, 188, 189, 16, 190, 145, 146, 147, 43, 191, 192, 193, 194, 44, 45, 46, 47, 48, 49, 53, 195, 196, 197, 52, 198, 58, 199, 59, 60, 62, 152, 153, 543, 544, 545, 546, 547, 548, 549, 550, 551, 552, 553, 554, 555, 556, 557, 558, 559, 560, 561, 562, 563, 564, 565, 577, 578, 579, 580, 581, 582] (by decide +kernel) (by decide +kernel)
set_option maxRecDepth 20000 in
theorem gL_law_X8_keep : GoodIn wsL_law (wsV RL 78 RX8 yX8_keep wsX8_keep) := goodIn_app (goodIn_of _ (by decide +kernel)) ggL_law_X8_keep
set_option maxRecDepth 20000 in
theorem ggL_law_L_cell : GoodIn wsL_law wsL_cell := goodIn_r _ [99, 100] (by decide +kernel) (by decide +kernel)
set_option maxRecDepth 20000 in
theorem gL_law_L_cell : GoodIn wsL_law (va_wsS RL 30 yL_cell wsL_cell) := goodIn_app (goodIn_of _ (by decide +kernel)) ggL_law_L_cell
set_option maxRecDepth 20000 in
theorem ggL_law_L_some : GoodIn wsL_law wsL_some := goodIn_r _ [103, 104] (by decide +kernel) (by decide +kernel)
set_option maxRecDepth 20000 in
theorem gL_law_L_some : GoodIn wsL_law (va_wsS RL 34 yL_some wsL_some) := goodIn_app (goodIn_of _ (by decide +kernel)) ggL_law_L_some
set_option maxRecDepth 20000 in
theorem ggL_law_X8_heard : GoodIn wsL_law wsX8_heard := goodIn_r _ [269, 17, 243, 244, 245, 2, 246, 186, 247, 248, 249, 250, 251, 252, 253, 16, 254, 146, 270, 271, 272, 273, 274, 275, 276, 277, 278, 46, 279, 280, 281, 282, 283, 284, 45, 285, 286, 287, 288, 44, 289, 290, 291, 292, 293, 294, 295, 296, 297, 179, 298, 299, 543, 544, 545, 546, 547, 548, 549, 550, 551, 552, 553, 554, 555, 556, 557, 558, 559, 560, 561, 562, 563, 564, 565] (by decide +kernel) (by decide +kernel)
set_option maxRecDepth 20000 in
theorem gL_law_X8_heard : GoodIn wsL_law (wsV RL 81 RX8 yX8_heard wsX8_heard) := goodIn_app (goodIn_of _ (by decide +kernel)) ggL_law_X8_heard
set_option maxRecDepth 20000 in
theorem ggL_law_X8_hush : GoodIn wsL_law wsX8_hush := goodIn_r _ [303, 17, 243, 244, 245, 2, 246, 186, 251, 252, 253, 16, 254, 146, 304, 305, 306, 307, 308, 309, 310, 311, 312, 313, 270, 271, 272, 273, 274, 275, 276, 277, 278, 46, 279, 280, 281, 282, 283, 284, 45, 285, 286, 287, 288, 44, 289, 290, 291, 292, 293, 294, 295, 296, 297, 179, 298, 299, 314, 315, 316, 317, 318, 543, 544, 545, 546, 547, 548, 549, 550, 551, 552, 553, 554, 555, 556, 557, 558, 559, 560, 561, 562, 563, 564, 565] (by decide +kernel) (by decide +kernel)
set_option maxRecDepth 20000 in
theorem gL_law_X8_hush : GoodIn wsL_law (wsV RL 83 RX8 yX8_hush wsX8_hush) := goodIn_app (goodIn_of _ (by decide +kernel)) ggL_law_X8_hush
set_option maxRecDepth 20000 in
theorem ggL_law_X8_asked : GoodIn wsL_law wsX8_asked := goodIn_r _ [322, 318, 543, 544, 545, 546, 547, 548, 549, 550, 551, 552, 553, 554] (by decide +kernel) (by decide +kernel)
set_option maxRecDepth 20000 in
theorem gL_law_X8_asked : GoodIn wsL_law (wsV RL 86 RX8 yX8_asked wsX8_asked) := goodIn_app (goodIn_of _ (by decide +kernel)) ggL_law_X8_asked
set_option maxRecDepth 20000 in
theorem ggL_law_L_size : GoodIn wsL_law wsL_size := goodIn_r _ [325] (by decide +kernel) (by decide +kernel)
set_option maxRecDepth 20000 in
theorem gL_law_L_size : GoodIn wsL_law (va_wsS RL 90 yL_size wsL_size) := goodIn_app (goodIn_of _ (by decide +kernel)) ggL_law_L_size
set_option maxRecDepth 20000 in
theorem ggL_law_X8_leak : GoodIn wsL_law wsX8_leak := goodIn_r _ [329, 17, 186, 247, 248, 249, 2, 250, 251, 252, 253, 16, 254, 146, 330, 331, 332, 333, 334, 271, 272, 273, 274, 275, 276, 277, 278, 46, 279, 280, 281, 282, 283, 284, 45, 285, 286, 287, 288, 44, 289, 290, 291, 292, 293, 294, 295, 296, 297, 179, 298, 299, 543, 544, 545, 546, 547, 548, 549, 550, 551, 552, 553, 554, 555, 556, 557, 558, 559, 560, 561, 562, 563, 564, 565] (by decide +kernel) (by decide +kernel)
set_option maxRecDepth 20000 in
theorem gL_law_X8_leak : GoodIn wsL_law (wsV RL 93 RX8 yX8_leak wsX8_leak) := goodIn_app (goodIn_of _ (by decide +kernel)) ggL_law_X8_leak
set_option maxRecDepth 20000 in
theorem ggL_law_X8_tearOff : GoodIn wsL_law wsX8_tearOff := goodIn_r _ [338, 339, 17, 340, 341, 318, 342, 343, 283, 344, 345, 282, 284, 346, 239, 240, 241, 2, 242, 243, 244, 245, 246, 186, 347, 293, 294, 16, 295, 280, 45, 44, 46, 289, 290, 291, 543, 544, 545, 546, 547, 548, 549, 550, 551, 552, 553, 554, 555, 556, 557, 558, 559, 560, 561, 562, 563, 564, 565] (by decide +kernel) (by decide +kernel)
set_option maxRecDepth 20000 in
theorem gL_law_X8_tearOff : GoodIn wsL_law (wsV RL 96 RX8 yX8_tearOff wsX8_tearOff) := goodIn_app (goodIn_of _ (by decide +kernel)) ggL_law_X8_tearOff
set_option maxRecDepth 20000 in
theorem ggL_law_X8_hears : GoodIn wsL_law wsX8_hears := goodIn_r _ [351, 17, 341, 318, 239, 240, 241, 2, 242, 243, 244, 245, 246, 186, 347, 293, 294, 16, 295, 280, 45, 44, 46, 289, 290, 283, 291, 352, 353, 354, 355, 292, 296, 297, 179, 298, 299, 543, 544, 545, 546, 547, 548, 549, 550, 551, 552, 553, 554, 555, 556, 557, 558, 559, 560, 561, 562, 563, 564, 565] (by decide +kernel) (by decide +kernel)
set_option maxRecDepth 20000 in
theorem gL_law_X8_hears : GoodIn wsL_law (wsV RL 99 RX8 yX8_hears wsX8_hears) := goodIn_app (goodIn_of _ (by decide +kernel)) ggL_law_X8_hears
set_option maxRecDepth 20000 in
theorem ggL_law_X8_wall : GoodIn wsL_law wsX8_wall := goodIn_r _ [359, 17, 204, 346, 360, 169, 170, 16, 171, 145, 44, 43, 543, 544, 545, 546, 547, 548, 549, 550, 551, 552, 553, 554, 555, 556, 557, 558, 559, 560, 561, 562, 563, 564, 565] (by decide +kernel) (by decide +kernel)
set_option maxRecDepth 20000 in
theorem gL_law_X8_wall : GoodIn wsL_law (wsV RL 102 RX8 yX8_wall wsX8_wall) := goodIn_app (goodIn_of _ (by decide +kernel)) ggL_law_X8_wall
set_option maxRecDepth 20000 in
theorem ggL_law_X8_cover : GoodIn wsL_law wsX8_cover := goodIn_r _ [364, 17, 205, 115, 116, 117, 2, 118, 119, 34, 251, 252, 253, 16, 254, 146, 304, 305, 306, 307, 308, 309, 310, 311, 312, 313, 365, 366, 367, 368, 369, 370, 371, 372, 47, 48, 274, 373, 374, 375, 376, 49, 275, 276, 277, 278, 46, 279, 280, 281, 282, 283, 284, 45, 285, 286, 287, 288, 44, 289, 290, 291, 292, 293, 294, 295, 296, 297, 179, 298, 299, 314, 315, 316, 317, 318, 543, 544, 545, 546, 547, 548, 549, 550, 551, 552, 553, 554, 555, 556, 557, 558, 559, 560, 561, 562, 563, 564, 565] (by decide +kernel) (by decide +kernel)
set_option maxRecDepth 20000 in
theorem gL_law_X8_cover : GoodIn wsL_law (wsV RL 105 RX8 yX8_cover wsX8_cover) := goodIn_app (goodIn_of _ (by decide +kernel)) ggL_law_X8_cover
set_option maxRecDepth 20000 in
theorem ggL_law_X8_safe : GoodIn wsL_law wsX8_safe := goodIn_r _ [380, 17, 205, 381, 382, 318, 247, 248, 249, 2, 250, 251, 252, 253, 16, 254, 146, 115, 116, 117, 118, 119, 34, 270, 271, 272, 273, 274, 275, 276, 277, 278, 46, 279, 280, 281, 282, 283, 284, 45, 285, 286, 287, 288, 44, 289, 290, 291, 292, 293, 294, 295, 296, 297, 179, 298, 299, 365, 366, 367, 368, 369, 370, 371, 372, 47, 48, 373, 374, 375, 376, 49, 543, 544, 545, 546, 547, 548, 549, 550, 551, 552, 553, 554, 555, 556, 557, 558, 559, 560, 561, 562, 563, 564, 565] (by decide +kernel) (by decide +kernel)
set_option maxRecDepth 20000 in
theorem gL_law_X8_safe : GoodIn wsL_law (wsV RL 108 RX8 yX8_safe wsX8_safe) := goodIn_app (goodIn_of _ (by decide +kernel)) ggL_law_X8_safe
set_option maxRecDepth 20000 in
theorem ggL_law_X8_paste : GoodIn wsL_law wsX8_paste := goodIn_r _ [386, 17, 205, 18, 11, 33, 387, 204, 388, 389, 2, 390, 115, 116, 117, 118, 119, 34, 187, 188, 189, 16, 190, 145, 146, 147, 43, 191, 192, 193, 194, 44, 45, 46, 47, 48, 49, 53, 195, 196, 197, 52, 198, 58, 199, 59, 60, 62, 152, 153, 391, 392, 393, 394, 346, 395, 396, 397, 32, 398, 399, 79, 360, 169, 170, 171, 365, 366, 367, 368, 369, 370, 371, 372, 274, 252, 253, 254, 373, 374, 375, 376, 275, 276, 277, 278, 279, 280, 281, 282, 283, 284, 285, 286, 287, 288, 289, 290, 291, 292, 293, 294, 295, 296, 297, 179, 298, 299, 400, 401, 402, 403, 404, 405, 406, 36, 407, 84, 408, 409, 410, 411, 412, 85, 543, 544, 545, 546, 547, 548, 549, 550, 551, 552, 553, 554, 555, 556, 557, 558, 559, 560, 561, 562, 563, 564, 565, 571, 572, 577, 578, 579, 580, 581, 582, 573, 574] (by decide +kernel) (by decide +kernel)
set_option maxRecDepth 20000 in
theorem gL_law_X8_paste : GoodIn wsL_law (wsV RL 110 RX8 yX8_paste wsX8_paste) := goodIn_app (goodIn_of _ (by decide +kernel)) ggL_law_X8_paste
set_option maxRecDepth 20000 in
theorem ggL_law_X8_at : GoodIn wsL_law wsX8_at := goodIn_r _ [416, 11, 417, 318, 388, 389, 2, 390, 220, 221, 222, 36, 223, 85, 115, 116, 117, 118, 119, 34, 418, 419, 420, 421, 543, 544, 545, 546, 547, 548, 549, 550, 551, 552, 553, 554, 573, 574] (by decide +kernel) (by decide +kernel)
set_option maxRecDepth 20000 in
theorem gL_law_X8_at : GoodIn wsL_law (wsV RL 113 RX8 yX8_at wsX8_at) := goodIn_app (goodIn_of _ (by decide +kernel)) ggL_law_X8_at
set_option maxRecDepth 20000 in
theorem ggL_law_X8_on : GoodIn wsL_law wsX8_on := goodIn_r _ [425, 21, 17, 19, 206, 207, 263, 264, 2, 265, 115, 116, 117, 118, 119, 34, 187, 188, 189, 16, 190, 145, 146, 147, 43, 191, 192, 193, 194, 44, 45, 46, 47, 48, 49, 53, 195, 196, 197, 52, 198, 58, 199, 59, 60, 62, 152, 153, 543, 544, 545, 546, 547, 548, 549, 550, 551, 552, 553, 554, 555, 556, 557, 558, 559, 560, 561, 562, 563, 564, 565, 577, 578, 579, 580, 581, 582] (by decide +kernel) (by decide +kernel)
set_option maxRecDepth 20000 in
theorem gL_law_X8_on : GoodIn wsL_law (wsV RL 116 RX8 yX8_on wsX8_on) := goodIn_app (goodIn_of _ (by decide +kernel)) ggL_law_X8_on
set_option maxRecDepth 20000 in
theorem ggL_law_X8_most : GoodIn wsL_law wsX8_most := goodIn_r _ [429, 25, 17, 430, 431, 432, 24, 433, 67, 68, 434, 435, 436, 16, 437, 147, 438, 439, 440, 441, 47, 369, 370, 371, 372, 48, 274, 252, 253, 254, 146, 373, 374, 375, 376, 49, 275, 276, 277, 278, 46, 279, 280, 281, 282, 283, 284, 45, 285, 286, 287, 288, 44, 289, 290, 291, 292, 293, 294, 295, 296, 297, 179, 298, 299, 442, 443, 444, 445, 446, 343, 344, 447, 448, 449, 450, 451, 308, 309, 310, 311, 312, 313, 314, 315, 316, 2, 317, 318, 307, 543, 544, 545, 546, 547, 548, 549, 550, 551, 552, 553, 554, 566, 567, 555, 556, 557, 558, 559, 560, 561, 562, 563, 564, 565] (by decide +kernel) (by decide +kernel)
set_option maxRecDepth 20000 in
theorem gL_law_X8_most : GoodIn wsL_law (wsV RL 119 RX8 yX8_most wsX8_most) := goodIn_app (goodIn_of _ (by decide +kernel)) ggL_law_X8_most
set_option maxRecDepth 20000 in
theorem ggL_law_X8_turns : GoodIn wsL_law wsX8_turns := goodIn_r _ [455, 25, 17, 318, 430, 431, 432, 24, 433, 67, 68, 434, 435, 436, 16, 437, 147, 438, 439, 440, 441, 47, 369, 370, 371, 372, 48, 274, 252, 253, 254, 146, 373, 374, 375, 376, 49, 275, 276, 277, 278, 46, 279, 280, 281, 282, 283, 284, 45, 285, 286, 287, 288, 44, 289, 290, 291, 292, 293, 294, 295, 296, 297, 179, 298, 299, 442, 443, 444, 445, 446, 343, 344, 456, 457, 458, 459, 460, 461, 462, 463, 543, 544, 545, 546, 547, 548, 549, 550, 551, 552, 553, 554, 566, 567, 555, 556, 557, 558, 559, 560, 561, 562, 563, 564, 565] (by decide +kernel) (by decide +kernel)
set_option maxRecDepth 20000 in
theorem gL_law_X8_turns : GoodIn wsL_law (wsV RL 122 RX8 yX8_turns wsX8_turns) := goodIn_app (goodIn_of _ (by decide +kernel)) ggL_law_X8_turns
set_option maxRecDepth 20000 in
theorem ggL_law_X8_beside : GoodIn wsL_law wsX8_beside := goodIn_r _ [467, 17, 468, 435, 436, 16, 437, 147, 469, 439, 440, 441, 47, 369, 370, 371, 372, 48, 274, 252, 253, 254, 146, 373, 374, 375, 376, 49, 275, 276, 277, 278, 46, 279, 280, 281, 282, 283, 284, 45, 285, 286, 287, 288, 44, 289, 290, 291, 292, 293, 294, 295, 296, 297, 179, 298, 299, 543, 544, 545, 546, 547, 548, 549, 550, 551, 552, 553, 554, 555, 556, 557, 558, 559, 560, 561, 562, 563, 564, 565] (by decide +kernel) (by decide +kernel)
set_option maxRecDepth 20000 in
theorem gL_law_X8_beside : GoodIn wsL_law (wsV RL 125 RX8 yX8_beside wsX8_beside) := goodIn_app (goodIn_of _ (by decide +kernel)) ggL_law_X8_beside
set_option maxRecDepth 20000 in
theorem ggL_law_X8_know : GoodIn wsL_law wsX8_know := goodIn_r _ [473, 17, 206, 474, 475, 2, 476, 477, 478, 479, 52, 480, 152, 543, 544, 545, 546, 547, 548, 549, 550, 551, 552, 553, 554, 555, 556, 557, 558, 559, 560, 561, 562, 563, 564, 565, 577, 578, 579, 580, 581, 582] (by decide +kernel) (by decide +kernel)
set_option maxRecDepth 20000 in
theorem gL_law_X8_know : GoodIn wsL_law (wsV RL 128 RX8 yX8_know wsX8_know) := goodIn_app (goodIn_of _ (by decide +kernel)) ggL_law_X8_know
set_option maxRecDepth 20000 in
theorem ggL_law_X8_tell : GoodIn wsL_law wsX8_tell := goodIn_r _ [484, 17, 206, 207, 243, 244, 245, 2, 246, 186, 474, 475, 476, 477, 478, 479, 52, 480, 152, 270, 271, 272, 16, 273, 274, 252, 253, 254, 146, 275, 276, 277, 278, 46, 279, 280, 281, 282, 283, 284, 45, 285, 286, 287, 288, 44, 289, 290, 291, 292, 293, 294, 295, 296, 297, 179, 298, 299, 485, 486, 487, 488, 58, 153, 59, 60, 62, 489, 490, 491, 492, 543, 544, 545, 546, 547, 548, 549, 550, 551, 552, 553, 554, 555, 556, 557, 558, 559, 560, 561, 562, 563, 564, 565, 577, 578, 579, 580, 581, 582] (by decide +kernel) (by decide +kernel)
set_option maxRecDepth 20000 in
theorem gL_law_X8_tell : GoodIn wsL_law (wsV RL 131 RX8 yX8_tell wsX8_tell) := goodIn_app (goodIn_of _ (by decide +kernel)) ggL_law_X8_tell
set_option maxRecDepth 20000 in
theorem ggL_law_X8_comes : GoodIn wsL_law wsX8_comes := goodIn_r _ [496, 17, 206, 243, 244, 245, 2, 246, 186, 474, 475, 476, 497, 490, 491, 52, 492, 152, 477, 478, 479, 480, 307, 308, 309, 310, 311, 312, 313, 543, 544, 545, 546, 547, 548, 549, 550, 551, 552, 553, 554, 555, 556, 557, 558, 559, 560, 561, 562, 563, 564, 565, 577, 578, 579, 580, 581, 582] (by decide +kernel) (by decide +kernel)
set_option maxRecDepth 20000 in
theorem gL_law_X8_comes : GoodIn wsL_law (wsV RL 134 RX8 yX8_comes wsX8_comes) := goodIn_app (goodIn_of _ (by decide +kernel)) ggL_law_X8_comes
set_option maxRecDepth 20000 in
theorem ggL_law_X8_spread : GoodIn wsL_law wsX8_spread := goodIn_r _ [501, 17, 206, 186, 474, 475, 2, 476, 477, 478, 479, 52, 480, 152, 270, 271, 272, 16, 273, 274, 252, 253, 254, 146, 275, 276, 277, 278, 46, 279, 280, 281, 282, 283, 284, 45, 285, 286, 287, 288, 44, 289, 290, 291, 292, 293, 294, 295, 296, 297, 179, 298, 299, 543, 544, 545, 546, 547, 548, 549, 550, 551, 552, 553, 554, 555, 556, 557, 558, 559, 560, 561, 562, 563, 564, 565, 577, 578, 579, 580, 581, 582] (by decide +kernel) (by decide +kernel)
set_option maxRecDepth 20000 in
theorem gL_law_X8_spread : GoodIn wsL_law (wsV RL 137 RX8 yX8_spread wsX8_spread) := goodIn_app (goodIn_of _ (by decide +kernel)) ggL_law_X8_spread
set_option maxRecDepth 20000 in
theorem ggL_law_X8_leaks : GoodIn wsL_law wsX8_leaks := goodIn_r _ [505, 17, 186, 247, 248, 249, 2, 250, 251, 252, 253, 16, 254, 146, 330, 331, 332, 333, 334, 271, 272, 273, 274, 275, 276, 277, 278, 46, 279, 280, 281, 282, 283, 284, 45, 285, 286, 287, 288, 44, 289, 290, 291, 292, 293, 294, 295, 296, 297, 179, 298, 299, 543, 544, 545, 546, 547, 548, 549, 550, 551, 552, 553, 554, 555, 556, 557, 558, 559, 560, 561, 562, 563, 564, 565] (by decide +kernel) (by decide +kernel)
set_option maxRecDepth 20000 in
theorem gL_law_X8_leaks : GoodIn wsL_law (wsV RL 140 RX8 yX8_leaks wsX8_leaks) := goodIn_app (goodIn_of _ (by decide +kernel)) ggL_law_X8_leaks
set_option maxRecDepth 20000 in
theorem ggL_law_X8_knowsThat : GoodIn wsL_law wsX8_knowsThat := goodIn_r _ [509, 17, 206, 207, 510, 239, 240, 241, 2, 242, 243, 244, 245, 246, 186, 474, 475, 476, 352, 353, 354, 16, 355, 45, 46, 292, 293, 294, 295, 280, 44, 289, 290, 283, 291, 296, 297, 179, 298, 299, 511, 512, 513, 52, 514, 60, 58, 543, 544, 545, 546, 547, 548, 549, 550, 551, 552, 553, 554, 555, 556, 557, 558, 559, 560, 561, 562, 563, 564, 565, 577, 578, 579, 580, 581, 582] (by decide +kernel) (by decide +kernel)
set_option maxRecDepth 20000 in
theorem gL_law_X8_knowsThat : GoodIn wsL_law (wsV RL 143 RX8 yX8_knowsThat wsX8_knowsThat) := goodIn_app (goodIn_of _ (by decide +kernel)) ggL_law_X8_knowsThat
set_option maxRecDepth 20000 in
theorem ggL_law_X8_undo : GoodIn wsL_law wsX8_undo := goodIn_r _ [518, 17, 206, 207, 519, 520, 521, 52, 522, 153, 62, 152, 543, 544, 545, 546, 547, 548, 549, 550, 551, 552, 553, 554, 555, 556, 557, 558, 559, 560, 561, 562, 563, 564, 565, 577, 578, 579, 580, 581, 582] (by decide +kernel) (by decide +kernel)
set_option maxRecDepth 20000 in
theorem gL_law_X8_undo : GoodIn wsL_law (wsV RL 146 RX8 yX8_undo wsX8_undo) := goodIn_app (goodIn_of _ (by decide +kernel)) ggL_law_X8_undo
set_option maxRecDepth 20000 in
theorem ggL_law_X8_upper : GoodIn wsL_law wsX8_upper := goodIn_r _ [526, 17, 527, 528, 529, 16, 530, 146, 334, 271, 272, 273, 274, 252, 253, 254, 275, 276, 277, 278, 46, 279, 280, 281, 282, 283, 284, 45, 285, 286, 287, 288, 44, 289, 290, 291, 292, 293, 294, 295, 296, 297, 179, 298, 299, 531, 308, 309, 310, 311, 312, 313, 532, 533, 534, 535, 536, 537, 2, 538, 345, 543, 544, 545, 546, 547, 548, 549, 550, 551, 552, 553, 554, 555, 556, 557, 558, 559, 560, 561, 562, 563, 564, 565] (by decide +kernel) (by decide +kernel)
set_option maxRecDepth 20000 in
theorem gL_law_X8_upper : GoodIn wsL_law (wsV RL 149 RX8 yX8_upper wsX8_upper) := goodIn_app (goodIn_of _ (by decide +kernel)) ggL_law_X8_upper
set_option maxRecDepth 20000 in
theorem ggL_law_X8_lower : GoodIn wsL_law wsX8_lower := goodIn_r _ [542, 17, 532, 533, 534, 16, 535, 146, 281, 282, 283, 284, 527, 528, 529, 530, 334, 271, 272, 273, 274, 252, 253, 254, 275, 276, 277, 278, 46, 279, 280, 45, 285, 286, 287, 288, 44, 289, 290, 291, 292, 293, 294, 295, 296, 297, 179, 298, 299, 531, 308, 309, 310, 311, 312, 313, 536, 537, 2, 538, 345, 543, 544, 545, 546, 547, 548, 549, 550, 551, 552, 553, 554, 555, 556, 557, 558, 559, 560, 561, 562, 563, 564, 565] (by decide +kernel) (by decide +kernel)
set_option maxRecDepth 20000 in
theorem gL_law_X8_lower : GoodIn wsL_law (wsV RL 153 RX8 yX8_lower wsX8_lower) := goodIn_app (goodIn_of _ (by decide +kernel)) ggL_law_X8_lower
theorem dL_law_0 : decode cL_law 0 = .ok (.new 42, 3) := by decide +kernel
theorem dL_law_3 : decode cL_law 3 = .ok (.dup, 1) := by decide +kernel
theorem dL_law_4 : decode cL_law 4 = .ok (.invokespecial 69, 3) := by decide +kernel
theorem dL_law_7 : decode cL_law 7 = .ok (.astore_n 1, 1) := by decide +kernel
theorem dL_law_8 : decode cL_law 8 = .ok (.bipush 7, 2) := by decide +kernel
theorem dL_law_10 : decode cL_law 10 = .ok (.newarray .int, 2) := by decide +kernel
theorem dL_law_12 : decode cL_law 12 = .ok (.astore_n 2, 1) := by decide +kernel
theorem dL_law_13 : decode cL_law 13 = .ok (.bipush 7, 2) := by decide +kernel
theorem dL_law_15 : decode cL_law 15 = .ok (.newarray .int, 2) := by decide +kernel
theorem dL_law_17 : decode cL_law 17 = .ok (.astore_n 3, 1) := by decide +kernel
theorem dL_law_18 : decode cL_law 18 = .ok (.bipush 6, 2) := by decide +kernel
theorem dL_law_20 : decode cL_law 20 = .ok (.newarray .int, 2) := by decide +kernel
theorem dL_law_22 : decode cL_law 22 = .ok (.astore 4, 2) := by decide +kernel
theorem dL_law_24 : decode cL_law 24 = .ok (.iconst 4, 1) := by decide +kernel
theorem dL_law_25 : decode cL_law 25 = .ok (.newarray .int, 2) := by decide +kernel
theorem dL_law_27 : decode cL_law 27 = .ok (.astore 5, 2) := by decide +kernel
theorem dL_law_29 : decode cL_law 29 = .ok (.bipush 24, 2) := by decide +kernel
theorem dL_law_31 : decode cL_law 31 = .ok (.newarray .int, 2) := by decide +kernel
theorem dL_law_33 : decode cL_law 33 = .ok (.astore 6, 2) := by decide +kernel
theorem dL_law_35 : decode cL_law 35 = .ok (.aload_n 1, 1) := by decide +kernel
theorem dL_law_36 : decode cL_law 36 = .ok (.aload_n 0, 1) := by decide +kernel
theorem dL_law_37 : decode cL_law 37 = .ok (.iconst 0, 1) := by decide +kernel
theorem dL_law_38 : decode cL_law 38 = .ok (.aload_n 2, 1) := by decide +kernel
theorem dL_law_39 : decode cL_law 39 = .ok (.aload_n 3, 1) := by decide +kernel
theorem dL_law_40 : decode cL_law 40 = .ok (.aload 4, 2) := by decide +kernel
theorem dL_law_42 : decode cL_law 42 = .ok (.aload 5, 2) := by decide +kernel
theorem dL_law_44 : decode cL_law 44 = .ok (.iconst 2, 1) := by decide +kernel
theorem dL_law_45 : decode cL_law 45 = .ok (.bipush 7, 2) := by decide +kernel
theorem dL_law_47 : decode cL_law 47 = .ok (.invokestatic 70, 3) := by decide +kernel
theorem dL_law_50 : decode cL_law 50 = .ok (.ifCond .eq 27, 3) := by decide +kernel
theorem dL_law_53 : decode cL_law 53 = .ok (.aload_n 1, 1) := by decide +kernel
theorem dL_law_54 : decode cL_law 54 = .ok (.aload_n 0, 1) := by decide +kernel
theorem dL_law_55 : decode cL_law 55 = .ok (.bipush 10, 2) := by decide +kernel
theorem dL_law_57 : decode cL_law 57 = .ok (.aload 5, 2) := by decide +kernel
theorem dL_law_59 : decode cL_law 59 = .ok (.aload 6, 2) := by decide +kernel
theorem dL_law_61 : decode cL_law 61 = .ok (.bipush 6, 2) := by decide +kernel
theorem dL_law_63 : decode cL_law 63 = .ok (.invokestatic 74, 3) := by decide +kernel
theorem dL_law_66 : decode cL_law 66 = .ok (.ifCond .eq 11, 3) := by decide +kernel
theorem dL_law_69 : decode cL_law 69 = .ok (.aload_n 1, 1) := by decide +kernel
theorem dL_law_70 : decode cL_law 70 = .ok (.iconst 0, 1) := by decide +kernel
theorem dL_law_71 : decode cL_law 71 = .ok (.invokevirtual 78, 3) := by decide +kernel
theorem dL_law_74 : decode cL_law 74 = .ok (.ifCond .eq 5, 3) := by decide +kernel
theorem dL_law_77 : decode cL_law 77 = .ok (.iconst 0, 1) := by decide +kernel
theorem dL_law_78 : decode cL_law 78 = .ok (.ireturn, 1) := by decide +kernel
theorem dL_law_79 : decode cL_law 79 = .ok (.aload 5, 2) := by decide +kernel
theorem dL_law_81 : decode cL_law 81 = .ok (.iconst 0, 1) := by decide +kernel
theorem dL_law_82 : decode cL_law 82 = .ok (.iaload, 1) := by decide +kernel
theorem dL_law_83 : decode cL_law 83 = .ok (.istore 7, 2) := by decide +kernel
theorem dL_law_85 : decode cL_law 85 = .ok (.iconst 0, 1) := by decide +kernel
theorem dL_law_86 : decode cL_law 86 = .ok (.istore 8, 2) := by decide +kernel
theorem dL_law_88 : decode cL_law 88 = .ok (.iload 8, 2) := by decide +kernel
theorem dL_law_90 : decode cL_law 90 = .ok (.iload 7, 2) := by decide +kernel
theorem dL_law_92 : decode cL_law 92 = .ok (.if_icmp .ge 298, 3) := by decide +kernel
theorem dL_law_95 : decode cL_law 95 = .ok (.aload_n 0, 1) := by decide +kernel
theorem dL_law_96 : decode cL_law 96 = .ok (.bipush 20, 2) := by decide +kernel
theorem dL_law_98 : decode cL_law 98 = .ok (.iload 8, 2) := by decide +kernel
theorem dL_law_100 : decode cL_law 100 = .ok (.iadd, 1) := by decide +kernel
theorem dL_law_101 : decode cL_law 101 = .ok (.invokestatic 30, 3) := by decide +kernel
theorem dL_law_104 : decode cL_law 104 = .ok (.iconst 1, 1) := by decide +kernel
theorem dL_law_105 : decode cL_law 105 = .ok (.iload 7, 2) := by decide +kernel
theorem dL_law_107 : decode cL_law 107 = .ok (.ishl, 1) := by decide +kernel
theorem dL_law_108 : decode cL_law 108 = .ok (.invokestatic 34, 3) := by decide +kernel
theorem dL_law_111 : decode cL_law 111 = .ok (.iconst 1, 1) := by decide +kernel
theorem dL_law_112 : decode cL_law 112 = .ok (.iload 8, 2) := by decide +kernel
theorem dL_law_114 : decode cL_law 114 = .ok (.ishl, 1) := by decide +kernel
theorem dL_law_115 : decode cL_law 115 = .ok (.iconst (-1), 1) := by decide +kernel
theorem dL_law_116 : decode cL_law 116 = .ok (.ixor, 1) := by decide +kernel
theorem dL_law_117 : decode cL_law 117 = .ok (.iand, 1) := by decide +kernel
theorem dL_law_118 : decode cL_law 118 = .ok (.istore 9, 2) := by decide +kernel
theorem dL_law_120 : decode cL_law 120 = .ok (.iload 9, 2) := by decide +kernel
theorem dL_law_122 : decode cL_law 122 = .ok (.aload_n 0, 1) := by decide +kernel
theorem dL_law_123 : decode cL_law 123 = .ok (.bipush 28, 2) := by decide +kernel
theorem dL_law_125 : decode cL_law 125 = .ok (.iload 8, 2) := by decide +kernel
theorem dL_law_127 : decode cL_law 127 = .ok (.iadd, 1) := by decide +kernel
theorem dL_law_128 : decode cL_law 128 = .ok (.invokestatic 30, 3) := by decide +kernel
theorem dL_law_131 : decode cL_law 131 = .ok (.iconst 1, 1) := by decide +kernel
theorem dL_law_132 : decode cL_law 132 = .ok (.iload 7, 2) := by decide +kernel
theorem dL_law_134 : decode cL_law 134 = .ok (.ishl, 1) := by decide +kernel
theorem dL_law_135 : decode cL_law 135 = .ok (.invokestatic 34, 3) := by decide +kernel
theorem dL_law_138 : decode cL_law 138 = .ok (.iand, 1) := by decide +kernel
theorem dL_law_139 : decode cL_law 139 = .ok (.istore 10, 2) := by decide +kernel
theorem dL_law_141 : decode cL_law 141 = .ok (.aload_n 1, 1) := by decide +kernel
theorem dL_law_142 : decode cL_law 142 = .ok (.iload 8, 2) := by decide +kernel
theorem dL_law_144 : decode cL_law 144 = .ok (.iload 9, 2) := by decide +kernel
theorem dL_law_146 : decode cL_law 146 = .ok (.invokevirtual 81, 3) := by decide +kernel
theorem dL_law_149 : decode cL_law 149 = .ok (.istore 11, 2) := by decide +kernel
theorem dL_law_151 : decode cL_law 151 = .ok (.iload 11, 2) := by decide +kernel
theorem dL_law_153 : decode cL_law 153 = .ok (.iload 9, 2) := by decide +kernel
theorem dL_law_155 : decode cL_law 155 = .ok (.iand, 1) := by decide +kernel
theorem dL_law_156 : decode cL_law 156 = .ok (.ifCond .ne 30, 3) := by decide +kernel
theorem dL_law_159 : decode cL_law 159 = .ok (.iload 11, 2) := by decide +kernel
theorem dL_law_161 : decode cL_law 161 = .ok (.aload_n 1, 1) := by decide +kernel
theorem dL_law_162 : decode cL_law 162 = .ok (.iload 8, 2) := by decide +kernel
theorem dL_law_164 : decode cL_law 164 = .ok (.iload 10, 2) := by decide +kernel
theorem dL_law_166 : decode cL_law 166 = .ok (.invokevirtual 81, 3) := by decide +kernel
theorem dL_law_169 : decode cL_law 169 = .ok (.iconst (-1), 1) := by decide +kernel
theorem dL_law_170 : decode cL_law 170 = .ok (.ixor, 1) := by decide +kernel
theorem dL_law_171 : decode cL_law 171 = .ok (.iand, 1) := by decide +kernel
theorem dL_law_172 : decode cL_law 172 = .ok (.ifCond .ne 14, 3) := by decide +kernel
theorem dL_law_175 : decode cL_law 175 = .ok (.iload 11, 2) := by decide +kernel
theorem dL_law_177 : decode cL_law 177 = .ok (.iload 8, 2) := by decide +kernel
theorem dL_law_179 : decode cL_law 179 = .ok (.ishr, 1) := by decide +kernel
theorem dL_law_180 : decode cL_law 180 = .ok (.iconst 1, 1) := by decide +kernel
theorem dL_law_181 : decode cL_law 181 = .ok (.iand, 1) := by decide +kernel
theorem dL_law_182 : decode cL_law 182 = .ok (.iconst 1, 1) := by decide +kernel
theorem dL_law_183 : decode cL_law 183 = .ok (.if_icmp .ne 5, 3) := by decide +kernel
theorem dL_law_186 : decode cL_law 186 = .ok (.iconst 0, 1) := by decide +kernel
theorem dL_law_187 : decode cL_law 187 = .ok (.ireturn, 1) := by decide +kernel
theorem dL_law_188 : decode cL_law 188 = .ok (.aload_n 1, 1) := by decide +kernel
theorem dL_law_189 : decode cL_law 189 = .ok (.iload 8, 2) := by decide +kernel
theorem dL_law_191 : decode cL_law 191 = .ok (.invokevirtual 83, 3) := by decide +kernel
theorem dL_law_194 : decode cL_law 194 = .ok (.istore 12, 2) := by decide +kernel
theorem dL_law_196 : decode cL_law 196 = .ok (.aload_n 1, 1) := by decide +kernel
theorem dL_law_197 : decode cL_law 197 = .ok (.invokevirtual 86, 3) := by decide +kernel
theorem dL_law_200 : decode cL_law 200 = .ok (.istore 13, 2) := by decide +kernel
theorem dL_law_202 : decode cL_law 202 = .ok (.iload 12, 2) := by decide +kernel
theorem dL_law_204 : decode cL_law 204 = .ok (.ifCond .lt 46, 3) := by decide +kernel
theorem dL_law_207 : decode cL_law 207 = .ok (.iload 12, 2) := by decide +kernel
theorem dL_law_209 : decode cL_law 209 = .ok (.iload 13, 2) := by decide +kernel
theorem dL_law_211 : decode cL_law 211 = .ok (.invokestatic 90, 3) := by decide +kernel
theorem dL_law_214 : decode cL_law 214 = .ok (.if_icmp .ne 36, 3) := by decide +kernel
theorem dL_law_217 : decode cL_law 217 = .ok (.aload_n 1, 1) := by decide +kernel
theorem dL_law_218 : decode cL_law 218 = .ok (.iload 8, 2) := by decide +kernel
theorem dL_law_220 : decode cL_law 220 = .ok (.iload 13, 2) := by decide +kernel
theorem dL_law_222 : decode cL_law 222 = .ok (.invokevirtual 81, 3) := by decide +kernel
theorem dL_law_225 : decode cL_law 225 = .ok (.ifCond .ne 25, 3) := by decide +kernel
theorem dL_law_228 : decode cL_law 228 = .ok (.aload_n 1, 1) := by decide +kernel
theorem dL_law_229 : decode cL_law 229 = .ok (.aload_n 1, 1) := by decide +kernel
theorem dL_law_230 : decode cL_law 230 = .ok (.iload 8, 2) := by decide +kernel
theorem dL_law_232 : decode cL_law 232 = .ok (.iconst 0, 1) := by decide +kernel
theorem dL_law_233 : decode cL_law 233 = .ok (.invokevirtual 81, 3) := by decide +kernel
theorem dL_law_236 : decode cL_law 236 = .ok (.iconst 1, 1) := by decide +kernel
theorem dL_law_237 : decode cL_law 237 = .ok (.iload 8, 2) := by decide +kernel
theorem dL_law_239 : decode cL_law 239 = .ok (.ishl, 1) := by decide +kernel
theorem dL_law_240 : decode cL_law 240 = .ok (.ior, 1) := by decide +kernel
theorem dL_law_241 : decode cL_law 241 = .ok (.invokevirtual 93, 3) := by decide +kernel
theorem dL_law_244 : decode cL_law 244 = .ok (.iload 8, 2) := by decide +kernel
theorem dL_law_246 : decode cL_law 246 = .ok (.ishr, 1) := by decide +kernel
theorem dL_law_247 : decode cL_law 247 = .ok (.ifCond .ne 5, 3) := by decide +kernel
theorem dL_law_250 : decode cL_law 250 = .ok (.iconst 0, 1) := by decide +kernel
theorem dL_law_251 : decode cL_law 251 = .ok (.ireturn, 1) := by decide +kernel
theorem dL_law_252 : decode cL_law 252 = .ok (.iconst 0, 1) := by decide +kernel
theorem dL_law_253 : decode cL_law 253 = .ok (.istore 14, 2) := by decide +kernel
theorem dL_law_255 : decode cL_law 255 = .ok (.iload 14, 2) := by decide +kernel
theorem dL_law_257 : decode cL_law 257 = .ok (.iload 7, 2) := by decide +kernel
theorem dL_law_259 : decode cL_law 259 = .ok (.if_icmp .ge 125, 3) := by decide +kernel
theorem dL_law_262 : decode cL_law 262 = .ok (.iload 14, 2) := by decide +kernel
theorem dL_law_264 : decode cL_law 264 = .ok (.iload 8, 2) := by decide +kernel
theorem dL_law_266 : decode cL_law 266 = .ok (.if_icmp .eq 112, 3) := by decide +kernel
theorem dL_law_269 : decode cL_law 269 = .ok (.aload_n 1, 1) := by decide +kernel
theorem dL_law_270 : decode cL_law 270 = .ok (.iload 8, 2) := by decide +kernel
theorem dL_law_272 : decode cL_law 272 = .ok (.iload 14, 2) := by decide +kernel
theorem dL_law_274 : decode cL_law 274 = .ok (.invokevirtual 96, 3) := by decide +kernel
theorem dL_law_277 : decode cL_law 277 = .ok (.istore 15, 2) := by decide +kernel
theorem dL_law_279 : decode cL_law 279 = .ok (.aload_n 1, 1) := by decide +kernel
theorem dL_law_280 : decode cL_law 280 = .ok (.invokevirtual 86, 3) := by decide +kernel
theorem dL_law_283 : decode cL_law 283 = .ok (.istore 16, 2) := by decide +kernel
theorem dL_law_285 : decode cL_law 285 = .ok (.iload 15, 2) := by decide +kernel
theorem dL_law_287 : decode cL_law 287 = .ok (.ifCond .ne 17, 3) := by decide +kernel
theorem dL_law_290 : decode cL_law 290 = .ok (.aload_n 1, 1) := by decide +kernel
theorem dL_law_291 : decode cL_law 291 = .ok (.iload 8, 2) := by decide +kernel
theorem dL_law_293 : decode cL_law 293 = .ok (.iload 14, 2) := by decide +kernel
theorem dL_law_295 : decode cL_law 295 = .ok (.invokevirtual 99, 3) := by decide +kernel
theorem dL_law_298 : decode cL_law 298 = .ok (.iconst 1, 1) := by decide +kernel
theorem dL_law_299 : decode cL_law 299 = .ok (.if_icmp .eq 5, 3) := by decide +kernel
theorem dL_law_302 : decode cL_law 302 = .ok (.iconst 0, 1) := by decide +kernel
theorem dL_law_303 : decode cL_law 303 = .ok (.ireturn, 1) := by decide +kernel
theorem dL_law_304 : decode cL_law 304 = .ok (.iload 15, 2) := by decide +kernel
theorem dL_law_306 : decode cL_law 306 = .ok (.ifCond .le 72, 3) := by decide +kernel
theorem dL_law_309 : decode cL_law 309 = .ok (.aload_n 1, 1) := by decide +kernel
theorem dL_law_310 : decode cL_law 310 = .ok (.iload 8, 2) := by decide +kernel
theorem dL_law_312 : decode cL_law 312 = .ok (.iload 14, 2) := by decide +kernel
theorem dL_law_314 : decode cL_law 314 = .ok (.invokevirtual 99, 3) := by decide +kernel
theorem dL_law_317 : decode cL_law 317 = .ok (.ifCond .ne 59, 3) := by decide +kernel
theorem dL_law_320 : decode cL_law 320 = .ok (.aload_n 1, 1) := by decide +kernel
theorem dL_law_321 : decode cL_law 321 = .ok (.iload 16, 2) := by decide +kernel
theorem dL_law_323 : decode cL_law 323 = .ok (.aload 4, 2) := by decide +kernel
theorem dL_law_325 : decode cL_law 325 = .ok (.iload 16, 2) := by decide +kernel
theorem dL_law_327 : decode cL_law 327 = .ok (.iaload, 1) := by decide +kernel
theorem dL_law_328 : decode cL_law 328 = .ok (.iload 15, 2) := by decide +kernel
theorem dL_law_330 : decode cL_law 330 = .ok (.isub, 1) := by decide +kernel
theorem dL_law_331 : decode cL_law 331 = .ok (.invokevirtual 102, 3) := by decide +kernel
theorem dL_law_334 : decode cL_law 334 = .ok (.aload 4, 2) := by decide +kernel
theorem dL_law_336 : decode cL_law 336 = .ok (.iload 16, 2) := by decide +kernel
theorem dL_law_338 : decode cL_law 338 = .ok (.iaload, 1) := by decide +kernel
theorem dL_law_339 : decode cL_law 339 = .ok (.if_icmp .ne 37, 3) := by decide +kernel
theorem dL_law_342 : decode cL_law 342 = .ok (.aload_n 1, 1) := by decide +kernel
theorem dL_law_343 : decode cL_law 343 = .ok (.iload 8, 2) := by decide +kernel
theorem dL_law_345 : decode cL_law 345 = .ok (.iload 14, 2) := by decide +kernel
theorem dL_law_347 : decode cL_law 347 = .ok (.invokevirtual 99, 3) := by decide +kernel
theorem dL_law_350 : decode cL_law 350 = .ok (.iconst 1, 1) := by decide +kernel
theorem dL_law_351 : decode cL_law 351 = .ok (.if_icmp .ne 25, 3) := by decide +kernel
theorem dL_law_354 : decode cL_law 354 = .ok (.aload_n 1, 1) := by decide +kernel
theorem dL_law_355 : decode cL_law 355 = .ok (.iload 16, 2) := by decide +kernel
theorem dL_law_357 : decode cL_law 357 = .ok (.aload 4, 2) := by decide +kernel
theorem dL_law_359 : decode cL_law 359 = .ok (.iload 16, 2) := by decide +kernel
theorem dL_law_361 : decode cL_law 361 = .ok (.iaload, 1) := by decide +kernel
theorem dL_law_362 : decode cL_law 362 = .ok (.invokevirtual 102, 3) := by decide +kernel
theorem dL_law_365 : decode cL_law 365 = .ok (.aload 4, 2) := by decide +kernel
theorem dL_law_367 : decode cL_law 367 = .ok (.iload 16, 2) := by decide +kernel
theorem dL_law_369 : decode cL_law 369 = .ok (.iaload, 1) := by decide +kernel
theorem dL_law_370 : decode cL_law 370 = .ok (.iload 15, 2) := by decide +kernel
theorem dL_law_372 : decode cL_law 372 = .ok (.isub, 1) := by decide +kernel
theorem dL_law_373 : decode cL_law 373 = .ok (.if_icmp .eq 5, 3) := by decide +kernel
theorem dL_law_376 : decode cL_law 376 = .ok (.iconst 0, 1) := by decide +kernel
theorem dL_law_377 : decode cL_law 377 = .ok (.ireturn, 1) := by decide +kernel
theorem dL_law_378 : decode cL_law 378 = .ok (.iinc 14 1, 3) := by decide +kernel
theorem dL_law_381 : decode cL_law 381 = .ok (.goto (-126), 3) := by decide +kernel
theorem dL_law_384 : decode cL_law 384 = .ok (.iinc 8 1, 3) := by decide +kernel
theorem dL_law_387 : decode cL_law 387 = .ok (.goto (-299), 3) := by decide +kernel
theorem dL_law_390 : decode cL_law 390 = .ok (.iconst 0, 1) := by decide +kernel
theorem dL_law_391 : decode cL_law 391 = .ok (.istore 8, 2) := by decide +kernel
theorem dL_law_393 : decode cL_law 393 = .ok (.iload 8, 2) := by decide +kernel
theorem dL_law_395 : decode cL_law 395 = .ok (.aload 5, 2) := by decide +kernel
theorem dL_law_397 : decode cL_law 397 = .ok (.iconst 2, 1) := by decide +kernel
theorem dL_law_398 : decode cL_law 398 = .ok (.iaload, 1) := by decide +kernel
theorem dL_law_399 : decode cL_law 399 = .ok (.if_icmp .ge 201, 3) := by decide +kernel
theorem dL_law_402 : decode cL_law 402 = .ok (.aload_n 1, 1) := by decide +kernel
theorem dL_law_403 : decode cL_law 403 = .ok (.iload 8, 2) := by decide +kernel
theorem dL_law_405 : decode cL_law 405 = .ok (.invokevirtual 105, 3) := by decide +kernel
theorem dL_law_408 : decode cL_law 408 = .ok (.istore 9, 2) := by decide +kernel
theorem dL_law_410 : decode cL_law 410 = .ok (.aload_n 1, 1) := by decide +kernel
theorem dL_law_411 : decode cL_law 411 = .ok (.invokevirtual 86, 3) := by decide +kernel
theorem dL_law_414 : decode cL_law 414 = .ok (.istore 10, 2) := by decide +kernel
theorem dL_law_416 : decode cL_law 416 = .ok (.iload 9, 2) := by decide +kernel
theorem dL_law_418 : decode cL_law 418 = .ok (.ifCond .lt 25, 3) := by decide +kernel
theorem dL_law_421 : decode cL_law 421 = .ok (.iload 9, 2) := by decide +kernel
theorem dL_law_423 : decode cL_law 423 = .ok (.iload 10, 2) := by decide +kernel
theorem dL_law_425 : decode cL_law 425 = .ok (.invokestatic 90, 3) := by decide +kernel
theorem dL_law_428 : decode cL_law 428 = .ok (.if_icmp .ne 33, 3) := by decide +kernel
theorem dL_law_431 : decode cL_law 431 = .ok (.aload_n 1, 1) := by decide +kernel
theorem dL_law_432 : decode cL_law 432 = .ok (.iload 8, 2) := by decide +kernel
theorem dL_law_434 : decode cL_law 434 = .ok (.iload 10, 2) := by decide +kernel
theorem dL_law_436 : decode cL_law 436 = .ok (.invokevirtual 108, 3) := by decide +kernel
theorem dL_law_439 : decode cL_law 439 = .ok (.iconst 1, 1) := by decide +kernel
theorem dL_law_440 : decode cL_law 440 = .ok (.if_icmp .ne 21, 3) := by decide +kernel
theorem dL_law_443 : decode cL_law 443 = .ok (.iload 9, 2) := by decide +kernel
theorem dL_law_445 : decode cL_law 445 = .ok (.bipush (-9), 2) := by decide +kernel
theorem dL_law_447 : decode cL_law 447 = .ok (.if_icmp .ne 16, 3) := by decide +kernel
theorem dL_law_450 : decode cL_law 450 = .ok (.aload_n 1, 1) := by decide +kernel
theorem dL_law_451 : decode cL_law 451 = .ok (.iload 8, 2) := by decide +kernel
theorem dL_law_453 : decode cL_law 453 = .ok (.iconst 0, 1) := by decide +kernel
theorem dL_law_454 : decode cL_law 454 = .ok (.invokevirtual 108, 3) := by decide +kernel
theorem dL_law_457 : decode cL_law 457 = .ok (.iconst 1, 1) := by decide +kernel
theorem dL_law_458 : decode cL_law 458 = .ok (.if_icmp .ne 5, 3) := by decide +kernel
theorem dL_law_461 : decode cL_law 461 = .ok (.iconst 0, 1) := by decide +kernel
theorem dL_law_462 : decode cL_law 462 = .ok (.ireturn, 1) := by decide +kernel
theorem dL_law_463 : decode cL_law 463 = .ok (.aload_n 1, 1) := by decide +kernel
theorem dL_law_464 : decode cL_law 464 = .ok (.iload 8, 2) := by decide +kernel
theorem dL_law_466 : decode cL_law 466 = .ok (.iconst 1, 1) := by decide +kernel
theorem dL_law_467 : decode cL_law 467 = .ok (.invokevirtual 110, 3) := by decide +kernel
theorem dL_law_470 : decode cL_law 470 = .ok (.istore 11, 2) := by decide +kernel
theorem dL_law_472 : decode cL_law 472 = .ok (.iconst 0, 1) := by decide +kernel
theorem dL_law_473 : decode cL_law 473 = .ok (.istore 12, 2) := by decide +kernel
theorem dL_law_475 : decode cL_law 475 = .ok (.iconst 0, 1) := by decide +kernel
theorem dL_law_476 : decode cL_law 476 = .ok (.istore 13, 2) := by decide +kernel
theorem dL_law_478 : decode cL_law 478 = .ok (.iload 13, 2) := by decide +kernel
theorem dL_law_480 : decode cL_law 480 = .ok (.aload 5, 2) := by decide +kernel
theorem dL_law_482 : decode cL_law 482 = .ok (.iconst 1, 1) := by decide +kernel
theorem dL_law_483 : decode cL_law 483 = .ok (.iaload, 1) := by decide +kernel
theorem dL_law_484 : decode cL_law 484 = .ok (.if_icmp .ge 77, 3) := by decide +kernel
theorem dL_law_487 : decode cL_law 487 = .ok (.iload 11, 2) := by decide +kernel
theorem dL_law_489 : decode cL_law 489 = .ok (.ifCond .lt 72, 3) := by decide +kernel
theorem dL_law_492 : decode cL_law 492 = .ok (.aload_n 1, 1) := by decide +kernel
theorem dL_law_493 : decode cL_law 493 = .ok (.iconst 1, 1) := by decide +kernel
theorem dL_law_494 : decode cL_law 494 = .ok (.iload 13, 2) := by decide +kernel
theorem dL_law_496 : decode cL_law 496 = .ok (.invokevirtual 113, 3) := by decide +kernel
theorem dL_law_499 : decode cL_law 499 = .ok (.iconst 1, 1) := by decide +kernel
theorem dL_law_500 : decode cL_law 500 = .ok (.if_icmp .eq 5, 3) := by decide +kernel
theorem dL_law_503 : decode cL_law 503 = .ok (.iconst 0, 1) := by decide +kernel
theorem dL_law_504 : decode cL_law 504 = .ok (.ireturn, 1) := by decide +kernel
theorem dL_law_505 : decode cL_law 505 = .ok (.aload_n 1, 1) := by decide +kernel
theorem dL_law_506 : decode cL_law 506 = .ok (.invokevirtual 86, 3) := by decide +kernel
theorem dL_law_509 : decode cL_law 509 = .ok (.istore 14, 2) := by decide +kernel
theorem dL_law_511 : decode cL_law 511 = .ok (.iload 12, 2) := by decide +kernel
theorem dL_law_513 : decode cL_law 513 = .ok (.iload 14, 2) := by decide +kernel
theorem dL_law_515 : decode cL_law 515 = .ok (.iadd, 1) := by decide +kernel
theorem dL_law_516 : decode cL_law 516 = .ok (.istore 12, 2) := by decide +kernel
theorem dL_law_518 : decode cL_law 518 = .ok (.aload 4, 2) := by decide +kernel
theorem dL_law_520 : decode cL_law 520 = .ok (.iload 13, 2) := by decide +kernel
theorem dL_law_522 : decode cL_law 522 = .ok (.iaload, 1) := by decide +kernel
theorem dL_law_523 : decode cL_law 523 = .ok (.iload 14, 2) := by decide +kernel
theorem dL_law_525 : decode cL_law 525 = .ok (.iadd, 1) := by decide +kernel
theorem dL_law_526 : decode cL_law 526 = .ok (.bipush 21, 2) := by decide +kernel
theorem dL_law_528 : decode cL_law 528 = .ok (.if_icmp .ge 27, 3) := by decide +kernel
theorem dL_law_531 : decode cL_law 531 = .ok (.aload_n 1, 1) := by decide +kernel
theorem dL_law_532 : decode cL_law 532 = .ok (.iload 13, 2) := by decide +kernel
theorem dL_law_534 : decode cL_law 534 = .ok (.aload 4, 2) := by decide +kernel
theorem dL_law_536 : decode cL_law 536 = .ok (.iload 13, 2) := by decide +kernel
theorem dL_law_538 : decode cL_law 538 = .ok (.iaload, 1) := by decide +kernel
theorem dL_law_539 : decode cL_law 539 = .ok (.iload 14, 2) := by decide +kernel
theorem dL_law_541 : decode cL_law 541 = .ok (.iadd, 1) := by decide +kernel
theorem dL_law_542 : decode cL_law 542 = .ok (.invokevirtual 102, 3) := by decide +kernel
theorem dL_law_545 : decode cL_law 545 = .ok (.aload 4, 2) := by decide +kernel
theorem dL_law_547 : decode cL_law 547 = .ok (.iload 13, 2) := by decide +kernel
theorem dL_law_549 : decode cL_law 549 = .ok (.iaload, 1) := by decide +kernel
theorem dL_law_550 : decode cL_law 550 = .ok (.if_icmp .eq 5, 3) := by decide +kernel
theorem dL_law_553 : decode cL_law 553 = .ok (.iconst 0, 1) := by decide +kernel
theorem dL_law_554 : decode cL_law 554 = .ok (.ireturn, 1) := by decide +kernel
theorem dL_law_555 : decode cL_law 555 = .ok (.iinc 13 1, 3) := by decide +kernel
theorem dL_law_558 : decode cL_law 558 = .ok (.goto (-80), 3) := by decide +kernel
theorem dL_law_561 : decode cL_law 561 = .ok (.iload 11, 2) := by decide +kernel
theorem dL_law_563 : decode cL_law 563 = .ok (.ifCond .lt 21, 3) := by decide +kernel
theorem dL_law_566 : decode cL_law 566 = .ok (.iload 12, 2) := by decide +kernel
theorem dL_law_568 : decode cL_law 568 = .ok (.iload 11, 2) := by decide +kernel
theorem dL_law_570 : decode cL_law 570 = .ok (.if_icmp .ne 22, 3) := by decide +kernel
theorem dL_law_573 : decode cL_law 573 = .ok (.aload_n 1, 1) := by decide +kernel
theorem dL_law_574 : decode cL_law 574 = .ok (.iload 8, 2) := by decide +kernel
theorem dL_law_576 : decode cL_law 576 = .ok (.iconst 0, 1) := by decide +kernel
theorem dL_law_577 : decode cL_law 577 = .ok (.invokevirtual 108, 3) := by decide +kernel
theorem dL_law_580 : decode cL_law 580 = .ok (.iconst 1, 1) := by decide +kernel
theorem dL_law_581 : decode cL_law 581 = .ok (.if_icmp .ne 11, 3) := by decide +kernel
theorem dL_law_584 : decode cL_law 584 = .ok (.aload_n 1, 1) := by decide +kernel
theorem dL_law_585 : decode cL_law 585 = .ok (.iconst 0, 1) := by decide +kernel
theorem dL_law_586 : decode cL_law 586 = .ok (.invokevirtual 116, 3) := by decide +kernel
theorem dL_law_589 : decode cL_law 589 = .ok (.ifCond .eq 5, 3) := by decide +kernel
theorem dL_law_592 : decode cL_law 592 = .ok (.iconst 0, 1) := by decide +kernel
theorem dL_law_593 : decode cL_law 593 = .ok (.ireturn, 1) := by decide +kernel
theorem dL_law_594 : decode cL_law 594 = .ok (.iinc 8 1, 3) := by decide +kernel
theorem dL_law_597 : decode cL_law 597 = .ok (.goto (-204), 3) := by decide +kernel
theorem dL_law_600 : decode cL_law 600 = .ok (.aload_n 1, 1) := by decide +kernel
theorem dL_law_601 : decode cL_law 601 = .ok (.invokevirtual 119, 3) := by decide +kernel
theorem dL_law_604 : decode cL_law 604 = .ok (.istore 8, 2) := by decide +kernel
theorem dL_law_606 : decode cL_law 606 = .ok (.aload_n 1, 1) := by decide +kernel
theorem dL_law_607 : decode cL_law 607 = .ok (.invokevirtual 86, 3) := by decide +kernel
theorem dL_law_610 : decode cL_law 610 = .ok (.istore 9, 2) := by decide +kernel
theorem dL_law_612 : decode cL_law 612 = .ok (.aload_n 1, 1) := by decide +kernel
theorem dL_law_613 : decode cL_law 613 = .ok (.invokevirtual 122, 3) := by decide +kernel
theorem dL_law_616 : decode cL_law 616 = .ok (.istore 10, 2) := by decide +kernel
theorem dL_law_618 : decode cL_law 618 = .ok (.aload_n 1, 1) := by decide +kernel
theorem dL_law_619 : decode cL_law 619 = .ok (.iload 9, 2) := by decide +kernel
theorem dL_law_621 : decode cL_law 621 = .ok (.invokevirtual 125, 3) := by decide +kernel
theorem dL_law_624 : decode cL_law 624 = .ok (.iconst 1, 1) := by decide +kernel
theorem dL_law_625 : decode cL_law 625 = .ok (.if_icmp .ne 47, 3) := by decide +kernel
theorem dL_law_628 : decode cL_law 628 = .ok (.iload 9, 2) := by decide +kernel
theorem dL_law_630 : decode cL_law 630 = .ok (.invokestatic 90, 3) := by decide +kernel
theorem dL_law_633 : decode cL_law 633 = .ok (.iload 8, 2) := by decide +kernel
theorem dL_law_635 : decode cL_law 635 = .ok (.if_icmp .ne 37, 3) := by decide +kernel
theorem dL_law_638 : decode cL_law 638 = .ok (.iload 8, 2) := by decide +kernel
theorem dL_law_640 : decode cL_law 640 = .ok (.ifCond .le 20, 3) := by decide +kernel
theorem dL_law_643 : decode cL_law 643 = .ok (.iload 10, 2) := by decide +kernel
theorem dL_law_645 : decode cL_law 645 = .ok (.ifCond .le 15, 3) := by decide +kernel
theorem dL_law_648 : decode cL_law 648 = .ok (.iload 10, 2) := by decide +kernel
theorem dL_law_650 : decode cL_law 650 = .ok (.iload 8, 2) := by decide +kernel
theorem dL_law_652 : decode cL_law 652 = .ok (.imul, 1) := by decide +kernel
theorem dL_law_653 : decode cL_law 653 = .ok (.aload 5, 2) := by decide +kernel
theorem dL_law_655 : decode cL_law 655 = .ok (.iconst 2, 1) := by decide +kernel
theorem dL_law_656 : decode cL_law 656 = .ok (.iaload, 1) := by decide +kernel
theorem dL_law_657 : decode cL_law 657 = .ok (.if_icmp .lt 15, 3) := by decide +kernel
theorem dL_law_660 : decode cL_law 660 = .ok (.aload 5, 2) := by decide +kernel
theorem dL_law_662 : decode cL_law 662 = .ok (.iconst 2, 1) := by decide +kernel
theorem dL_law_663 : decode cL_law 663 = .ok (.iaload, 1) := by decide +kernel
theorem dL_law_664 : decode cL_law 664 = .ok (.ifCond .le 10, 3) := by decide +kernel
theorem dL_law_667 : decode cL_law 667 = .ok (.iload 10, 2) := by decide +kernel
theorem dL_law_669 : decode cL_law 669 = .ok (.ifCond .ne 5, 3) := by decide +kernel
theorem dL_law_672 : decode cL_law 672 = .ok (.iconst 0, 1) := by decide +kernel
theorem dL_law_673 : decode cL_law 673 = .ok (.ireturn, 1) := by decide +kernel
theorem dL_law_674 : decode cL_law 674 = .ok (.aload_n 0, 1) := by decide +kernel
theorem dL_law_675 : decode cL_law 675 = .ok (.bipush 40, 2) := by decide +kernel
theorem dL_law_677 : decode cL_law 677 = .ok (.invokestatic 30, 3) := by decide +kernel
theorem dL_law_680 : decode cL_law 680 = .ok (.istore 11, 2) := by decide +kernel
theorem dL_law_682 : decode cL_law 682 = .ok (.iload 11, 2) := by decide +kernel
theorem dL_law_684 : decode cL_law 684 = .ok (.iload 7, 2) := by decide +kernel
theorem dL_law_686 : decode cL_law 686 = .ok (.invokestatic 34, 3) := by decide +kernel
theorem dL_law_689 : decode cL_law 689 = .ok (.istore 12, 2) := by decide +kernel
theorem dL_law_691 : decode cL_law 691 = .ok (.iload 11, 2) := by decide +kernel
theorem dL_law_693 : decode cL_law 693 = .ok (.iconst 3, 1) := by decide +kernel
theorem dL_law_694 : decode cL_law 694 = .ok (.ishr, 1) := by decide +kernel
theorem dL_law_695 : decode cL_law 695 = .ok (.bipush 8, 2) := by decide +kernel
theorem dL_law_697 : decode cL_law 697 = .ok (.invokestatic 34, 3) := by decide +kernel
theorem dL_law_700 : decode cL_law 700 = .ok (.istore 13, 2) := by decide +kernel
theorem dL_law_702 : decode cL_law 702 = .ok (.aload_n 1, 1) := by decide +kernel
theorem dL_law_703 : decode cL_law 703 = .ok (.iload 13, 2) := by decide +kernel
theorem dL_law_705 : decode cL_law 705 = .ok (.invokevirtual 128, 3) := by decide +kernel
theorem dL_law_708 : decode cL_law 708 = .ok (.ifCond .ne 28, 3) := by decide +kernel
theorem dL_law_711 : decode cL_law 711 = .ok (.aload_n 1, 1) := by decide +kernel
theorem dL_law_712 : decode cL_law 712 = .ok (.iload 12, 2) := by decide +kernel
theorem dL_law_714 : decode cL_law 714 = .ok (.iload 13, 2) := by decide +kernel
theorem dL_law_716 : decode cL_law 716 = .ok (.invokevirtual 131, 3) := by decide +kernel
theorem dL_law_719 : decode cL_law 719 = .ok (.bipush (-4), 2) := by decide +kernel
theorem dL_law_721 : decode cL_law 721 = .ok (.if_icmp .ne 15, 3) := by decide +kernel
theorem dL_law_724 : decode cL_law 724 = .ok (.aload_n 1, 1) := by decide +kernel
theorem dL_law_725 : decode cL_law 725 = .ok (.iload 12, 2) := by decide +kernel
theorem dL_law_727 : decode cL_law 727 = .ok (.iload 13, 2) := by decide +kernel
theorem dL_law_729 : decode cL_law 729 = .ok (.invokevirtual 134, 3) := by decide +kernel
theorem dL_law_732 : decode cL_law 732 = .ok (.iconst 1, 1) := by decide +kernel
theorem dL_law_733 : decode cL_law 733 = .ok (.if_icmp .eq 5, 3) := by decide +kernel
theorem dL_law_736 : decode cL_law 736 = .ok (.iconst 0, 1) := by decide +kernel
theorem dL_law_737 : decode cL_law 737 = .ok (.ireturn, 1) := by decide +kernel
theorem dL_law_738 : decode cL_law 738 = .ok (.aload_n 1, 1) := by decide +kernel
theorem dL_law_739 : decode cL_law 739 = .ok (.iload 12, 2) := by decide +kernel
theorem dL_law_741 : decode cL_law 741 = .ok (.iconst 0, 1) := by decide +kernel
theorem dL_law_742 : decode cL_law 742 = .ok (.invokevirtual 81, 3) := by decide +kernel
theorem dL_law_745 : decode cL_law 745 = .ok (.istore 14, 2) := by decide +kernel
theorem dL_law_747 : decode cL_law 747 = .ok (.aload_n 1, 1) := by decide +kernel
theorem dL_law_748 : decode cL_law 748 = .ok (.iload 13, 2) := by decide +kernel
theorem dL_law_750 : decode cL_law 750 = .ok (.iconst 1, 1) := by decide +kernel
theorem dL_law_751 : decode cL_law 751 = .ok (.invokevirtual 137, 3) := by decide +kernel
theorem dL_law_754 : decode cL_law 754 = .ok (.istore 15, 2) := by decide +kernel
theorem dL_law_756 : decode cL_law 756 = .ok (.iconst 1, 1) := by decide +kernel
theorem dL_law_757 : decode cL_law 757 = .ok (.iload 12, 2) := by decide +kernel
theorem dL_law_759 : decode cL_law 759 = .ok (.ishl, 1) := by decide +kernel
theorem dL_law_760 : decode cL_law 760 = .ok (.istore 16, 2) := by decide +kernel
theorem dL_law_762 : decode cL_law 762 = .ok (.iconst 0, 1) := by decide +kernel
theorem dL_law_763 : decode cL_law 763 = .ok (.istore 17, 2) := by decide +kernel
theorem dL_law_765 : decode cL_law 765 = .ok (.iload 17, 2) := by decide +kernel
theorem dL_law_767 : decode cL_law 767 = .ok (.bipush 8, 2) := by decide +kernel
theorem dL_law_769 : decode cL_law 769 = .ok (.if_icmp .ge 35, 3) := by decide +kernel
theorem dL_law_772 : decode cL_law 772 = .ok (.aload_n 1, 1) := by decide +kernel
theorem dL_law_773 : decode cL_law 773 = .ok (.iload 13, 2) := by decide +kernel
theorem dL_law_775 : decode cL_law 775 = .ok (.iload 17, 2) := by decide +kernel
theorem dL_law_777 : decode cL_law 777 = .ok (.invokevirtual 137, 3) := by decide +kernel
theorem dL_law_780 : decode cL_law 780 = .ok (.istore 18, 2) := by decide +kernel
theorem dL_law_782 : decode cL_law 782 = .ok (.iload 16, 2) := by decide +kernel
theorem dL_law_784 : decode cL_law 784 = .ok (.iload 18, 2) := by decide +kernel
theorem dL_law_786 : decode cL_law 786 = .ok (.iconst (-1), 1) := by decide +kernel
theorem dL_law_787 : decode cL_law 787 = .ok (.ixor, 1) := by decide +kernel
theorem dL_law_788 : decode cL_law 788 = .ok (.iand, 1) := by decide +kernel
theorem dL_law_789 : decode cL_law 789 = .ok (.ifCond .eq 5, 3) := by decide +kernel
theorem dL_law_792 : decode cL_law 792 = .ok (.iconst 0, 1) := by decide +kernel
theorem dL_law_793 : decode cL_law 793 = .ok (.ireturn, 1) := by decide +kernel
theorem dL_law_794 : decode cL_law 794 = .ok (.iload 18, 2) := by decide +kernel
theorem dL_law_796 : decode cL_law 796 = .ok (.istore 16, 2) := by decide +kernel
theorem dL_law_798 : decode cL_law 798 = .ok (.iinc 17 1, 3) := by decide +kernel
theorem dL_law_801 : decode cL_law 801 = .ok (.goto (-36), 3) := by decide +kernel
theorem dL_law_804 : decode cL_law 804 = .ok (.aload_n 1, 1) := by decide +kernel
theorem dL_law_805 : decode cL_law 805 = .ok (.iload 12, 2) := by decide +kernel
theorem dL_law_807 : decode cL_law 807 = .ok (.iload 13, 2) := by decide +kernel
theorem dL_law_809 : decode cL_law 809 = .ok (.invokevirtual 131, 3) := by decide +kernel
theorem dL_law_812 : decode cL_law 812 = .ok (.istore 17, 2) := by decide +kernel
theorem dL_law_814 : decode cL_law 814 = .ok (.iload 17, 2) := by decide +kernel
theorem dL_law_816 : decode cL_law 816 = .ok (.iload 14, 2) := by decide +kernel
theorem dL_law_818 : decode cL_law 818 = .ok (.iconst 1, 1) := by decide +kernel
theorem dL_law_819 : decode cL_law 819 = .ok (.iload 12, 2) := by decide +kernel
theorem dL_law_821 : decode cL_law 821 = .ok (.ishl, 1) := by decide +kernel
theorem dL_law_822 : decode cL_law 822 = .ok (.ior, 1) := by decide +kernel
theorem dL_law_823 : decode cL_law 823 = .ok (.if_icmp .ne 46, 3) := by decide +kernel
theorem dL_law_826 : decode cL_law 826 = .ok (.iload 15, 2) := by decide +kernel
theorem dL_law_828 : decode cL_law 828 = .ok (.iload 17, 2) := by decide +kernel
theorem dL_law_830 : decode cL_law 830 = .ok (.if_icmp .ne 39, 3) := by decide +kernel
theorem dL_law_833 : decode cL_law 833 = .ok (.aload_n 1, 1) := by decide +kernel
theorem dL_law_834 : decode cL_law 834 = .ok (.iload 17, 2) := by decide +kernel
theorem dL_law_836 : decode cL_law 836 = .ok (.invokevirtual 93, 3) := by decide +kernel
theorem dL_law_839 : decode cL_law 839 = .ok (.iload 12, 2) := by decide +kernel
theorem dL_law_841 : decode cL_law 841 = .ok (.ishr, 1) := by decide +kernel
theorem dL_law_842 : decode cL_law 842 = .ok (.ifCond .eq 27, 3) := by decide +kernel
theorem dL_law_845 : decode cL_law 845 = .ok (.aload_n 1, 1) := by decide +kernel
theorem dL_law_846 : decode cL_law 846 = .ok (.iload 17, 2) := by decide +kernel
theorem dL_law_848 : decode cL_law 848 = .ok (.invokevirtual 93, 3) := by decide +kernel
theorem dL_law_851 : decode cL_law 851 = .ok (.iload 12, 2) := by decide +kernel
theorem dL_law_853 : decode cL_law 853 = .ok (.ishr, 1) := by decide +kernel
theorem dL_law_854 : decode cL_law 854 = .ok (.iconst 1, 1) := by decide +kernel
theorem dL_law_855 : decode cL_law 855 = .ok (.iand, 1) := by decide +kernel
theorem dL_law_856 : decode cL_law 856 = .ok (.ifCond .eq 13, 3) := by decide +kernel
theorem dL_law_859 : decode cL_law 859 = .ok (.aload_n 1, 1) := by decide +kernel
theorem dL_law_860 : decode cL_law 860 = .ok (.iload 17, 2) := by decide +kernel
theorem dL_law_862 : decode cL_law 862 = .ok (.invokevirtual 140, 3) := by decide +kernel
theorem dL_law_865 : decode cL_law 865 = .ok (.iconst 1, 1) := by decide +kernel
theorem dL_law_866 : decode cL_law 866 = .ok (.if_icmp .ge 5, 3) := by decide +kernel
theorem dL_law_869 : decode cL_law 869 = .ok (.iconst 0, 1) := by decide +kernel
theorem dL_law_870 : decode cL_law 870 = .ok (.ireturn, 1) := by decide +kernel
theorem dL_law_871 : decode cL_law 871 = .ok (.iconst 0, 1) := by decide +kernel
theorem dL_law_872 : decode cL_law 872 = .ok (.istore 18, 2) := by decide +kernel
theorem dL_law_874 : decode cL_law 874 = .ok (.iload 18, 2) := by decide +kernel
theorem dL_law_876 : decode cL_law 876 = .ok (.iload 7, 2) := by decide +kernel
theorem dL_law_878 : decode cL_law 878 = .ok (.if_icmp .ge 38, 3) := by decide +kernel
theorem dL_law_881 : decode cL_law 881 = .ok (.iload 18, 2) := by decide +kernel
theorem dL_law_883 : decode cL_law 883 = .ok (.iload 12, 2) := by decide +kernel
theorem dL_law_885 : decode cL_law 885 = .ok (.if_icmp .eq 25, 3) := by decide +kernel
theorem dL_law_888 : decode cL_law 888 = .ok (.aload_n 1, 1) := by decide +kernel
theorem dL_law_889 : decode cL_law 889 = .ok (.iload 12, 2) := by decide +kernel
theorem dL_law_891 : decode cL_law 891 = .ok (.iload 18, 2) := by decide +kernel
theorem dL_law_893 : decode cL_law 893 = .ok (.iload 13, 2) := by decide +kernel
theorem dL_law_895 : decode cL_law 895 = .ok (.invokevirtual 143, 3) := by decide +kernel
theorem dL_law_898 : decode cL_law 898 = .ok (.iload 14, 2) := by decide +kernel
theorem dL_law_900 : decode cL_law 900 = .ok (.iload 18, 2) := by decide +kernel
theorem dL_law_902 : decode cL_law 902 = .ok (.ishr, 1) := by decide +kernel
theorem dL_law_903 : decode cL_law 903 = .ok (.iconst 1, 1) := by decide +kernel
theorem dL_law_904 : decode cL_law 904 = .ok (.iand, 1) := by decide +kernel
theorem dL_law_905 : decode cL_law 905 = .ok (.if_icmp .eq 5, 3) := by decide +kernel
theorem dL_law_908 : decode cL_law 908 = .ok (.iconst 0, 1) := by decide +kernel
theorem dL_law_909 : decode cL_law 909 = .ok (.ireturn, 1) := by decide +kernel
theorem dL_law_910 : decode cL_law 910 = .ok (.iinc 18 1, 3) := by decide +kernel
theorem dL_law_913 : decode cL_law 913 = .ok (.goto (-39), 3) := by decide +kernel
theorem dL_law_916 : decode cL_law 916 = .ok (.aload_n 1, 1) := by decide +kernel
theorem dL_law_917 : decode cL_law 917 = .ok (.iconst 0, 1) := by decide +kernel
theorem dL_law_918 : decode cL_law 918 = .ok (.invokevirtual 146, 3) := by decide +kernel
theorem dL_law_921 : decode cL_law 921 = .ok (.iconst 1, 1) := by decide +kernel
theorem dL_law_922 : decode cL_law 922 = .ok (.if_icmp .ne 58, 3) := by decide +kernel
theorem dL_law_925 : decode cL_law 925 = .ok (.aload_n 1, 1) := by decide +kernel
theorem dL_law_926 : decode cL_law 926 = .ok (.iload 13, 2) := by decide +kernel
theorem dL_law_928 : decode cL_law 928 = .ok (.invokevirtual 128, 3) := by decide +kernel
theorem dL_law_931 : decode cL_law 931 = .ok (.iconst 1, 1) := by decide +kernel
theorem dL_law_932 : decode cL_law 932 = .ok (.iload 12, 2) := by decide +kernel
theorem dL_law_934 : decode cL_law 934 = .ok (.ishl, 1) := by decide +kernel
theorem dL_law_935 : decode cL_law 935 = .ok (.if_icmp .ne 45, 3) := by decide +kernel
theorem dL_law_938 : decode cL_law 938 = .ok (.aload_n 1, 1) := by decide +kernel
theorem dL_law_939 : decode cL_law 939 = .ok (.iconst 0, 1) := by decide +kernel
theorem dL_law_940 : decode cL_law 940 = .ok (.invokevirtual 116, 3) := by decide +kernel
theorem dL_law_943 : decode cL_law 943 = .ok (.ifCond .ne 37, 3) := by decide +kernel
theorem dL_law_946 : decode cL_law 946 = .ok (.aload_n 1, 1) := by decide +kernel
theorem dL_law_947 : decode cL_law 947 = .ok (.iload 13, 2) := by decide +kernel
theorem dL_law_949 : decode cL_law 949 = .ok (.invokevirtual 128, 3) := by decide +kernel
theorem dL_law_952 : decode cL_law 952 = .ok (.ifCond .ne 28, 3) := by decide +kernel
theorem dL_law_955 : decode cL_law 955 = .ok (.aload_n 1, 1) := by decide +kernel
theorem dL_law_956 : decode cL_law 956 = .ok (.invokevirtual 149, 3) := by decide +kernel
theorem dL_law_959 : decode cL_law 959 = .ok (.lconst 0, 1) := by decide +kernel
theorem dL_law_960 : decode cL_law 960 = .ok (.lcmp, 1) := by decide +kernel
theorem dL_law_961 : decode cL_law 961 = .ok (.ifCond .lt 19, 3) := by decide +kernel
theorem dL_law_964 : decode cL_law 964 = .ok (.aload_n 1, 1) := by decide +kernel
theorem dL_law_965 : decode cL_law 965 = .ok (.invokevirtual 149, 3) := by decide +kernel
theorem dL_law_968 : decode cL_law 968 = .ok (.aload_n 1, 1) := by decide +kernel
theorem dL_law_969 : decode cL_law 969 = .ok (.invokevirtual 153, 3) := by decide +kernel
theorem dL_law_972 : decode cL_law 972 = .ok (.lcmp, 1) := by decide +kernel
theorem dL_law_973 : decode cL_law 973 = .ok (.ifCond .gt 7, 3) := by decide +kernel
theorem dL_law_976 : decode cL_law 976 = .ok (.iconst 1, 1) := by decide +kernel
theorem dL_law_977 : decode cL_law 977 = .ok (.goto 4, 3) := by decide +kernel
theorem dL_law_980 : decode cL_law 980 = .ok (.iconst 0, 1) := by decide +kernel
theorem dL_law_981 : decode cL_law 981 = .ok (.ireturn, 1) := by decide +kernel
abbrev vwCl : List vw_C := [(RX0, TX0, 3), (RX1, TX1, 6), (RX3, TX3, 2), (RX4, TX4, 2), (RX5, TX5, 2), (RX6, TX6, 11), (RX7, TX7, 2), (RX8, TX8, 12)]
end

/-! ===== BEGIN words of one list among another's, by their places ===== -/
theorem goodIn_r {big : List Cond} (ws : List Cond) (ps : List Nat) (hp : ws = ps.filterMap (fun i => big[i]?)) (h : ws.all goodWord = true) : GoodIn big ws := by
  intro w hw
  have h1 := List.all_eq_true.mp h w hw
  rw [hp] at hw
  obtain ⟨i, -, hi⟩ := List.mem_filterMap.mp hw
  have hm : w ∈ big := by first | exact List.mem_of_getElem? hi | exact List.getElem?_mem hi
  exact ⟨hm, good_of_word h1⟩
theorem goodIn_app {big a b : List Cond} (ha : GoodIn big a) (hb : GoodIn big b) : GoodIn big (a ++ b) := fun w h => (List.mem_append.mp h).elim (ha w) (hb w)
theorem goodIn_ca {big a b : List Cond} {c : Cond} (ha : GoodIn big (c :: a)) (hb : GoodIn big b) : GoodIn big (c :: (a ++ b)) := fun w h => (List.mem_cons.mp h).elim (fun e => ha w (List.mem_cons.mpr (Or.inl e))) (fun h => (List.mem_append.mp h).elim (fun h => ha w (List.mem_cons.mpr (Or.inr h))) (hb w))
theorem goodIn_sub {big ws : List Cond} (hm : ∀ w ∈ ws, w ∈ big) (h : ws.all goodWord = true) : GoodIn big ws := fun w hw => ⟨hm w hw, good_of_word (List.all_eq_true.mp h w hw)⟩
/-! ===== END ===== -/

/-! ===== BEGIN printed: names, fields, word lists, decode rows ===== -/
def RX0 : String := "DialogueGames$Board"
def TX0 : u_T := fun k => match k with
  | 0 => ("DialogueGames$Board", "formulas", "LDialogueGames$Formulas;", true)
  | 1 => ("DialogueGames$Board", "moveTypes", "[I", true)
  | 2 => ("DialogueGames$Board", "moveFormulas", "[I", true)
  | 3 => ("DialogueGames$Board", "moveTotal", "I", false)
  | 4 => ("DialogueGames$Board", "manner", "I", false)
  | 5 => ("DialogueGames$Board", "claimed", "J", false)
  | 6 => ("DialogueGames$Board", "open", "J", false)
  | 7 => ("DialogueGames$Board", "nextClaimed", "J", false)
  | _ => ("DialogueGames$Board", "nextOpen", "J", false)
def tyX0 : Nat → FieldType := fun k => match k with
  | 0 => .object "DialogueGames$Formulas"
  | 1 => .array .int
  | 2 => .array .int
  | 3 => .int
  | 4 => .int
  | 5 => .long
  | 6 => .long
  | 7 => .long
  | _ => .long
abbrev wsX00 : List Cond := u_ws RX0 TX0 9
theorem nmX0 : ∀ a, a < 9 → ∀ b, b < 9 → a ≠ b → (TX0 a).2.1 ≠ (TX0 b).2.1 := by decide +kernel
theorem tyX0_ok : ∀ k, k < 9 → parseFieldDescriptor (TX0 k).2.2.1 = some (tyX0 k) := by decide +kernel
abbrev cX0_init : ByteArray := prog_2_method_1_code
def yX0_init : MethodName := ⟨RX0, "<init>", "(LDialogueGames$Formulas;)V"⟩
abbrev cX0_setUp : ByteArray := prog_2_method_2_code
def yX0_setUp : MethodName := ⟨RX0, "setUp", "(JJ)V"⟩
abbrev cX0_addAttacks : ByteArray := prog_2_method_3_code
def yX0_addAttacks : MethodName := ⟨RX0, "addAttacks", "(I)V"⟩
abbrev cX0_addMove : ByteArray := prog_2_method_4_code
def yX0_addMove : MethodName := ⟨RX0, "addMove", "(II)V"⟩
abbrev cX0_canClaim : ByteArray := prog_2_method_5_code
def yX0_canClaim : MethodName := ⟨RX0, "canClaim", "(I)Z"⟩
abbrev cX0_hasMove : ByteArray := prog_2_method_6_code
def yX0_hasMove : MethodName := ⟨RX0, "hasMove", "(I)Z"⟩
abbrev cX0_repliesTo : ByteArray := prog_2_method_7_code
def yX0_repliesTo : MethodName := ⟨RX0, "repliesTo", "(I)I"⟩
abbrev cX0_answer : ByteArray := prog_2_method_8_code
def yX0_answer : MethodName := ⟨RX0, "answer", "(II)V"⟩
abbrev cX0_concede : ByteArray := prog_2_method_9_code
def yX0_concede : MethodName := ⟨RX0, "concede", "(I)V"⟩
abbrev cX0_attack : ByteArray := prog_2_method_10_code
def yX0_attack : MethodName := ⟨RX0, "attack", "(II)V"⟩
abbrev cX0_bitOf : ByteArray := prog_2_method_11_code
def yX0_bitOf : MethodName := ⟨RX0, "bitOf", "(I)J"⟩
def RX1 : String := "DialogueGames$Dialogue"
def TX1 : u_T := fun k => match k with
  | 0 => ("DialogueGames$Dialogue", "board", "LDialogueGames$Board;", true)
  | 1 => ("DialogueGames$Dialogue", "pastClaimed", "[J", true)
  | 2 => ("DialogueGames$Dialogue", "pastOpen", "[J", true)
  | 3 => ("DialogueGames$Dialogue", "played", "I", false)
  | 4 => ("DialogueGames$Dialogue", "begun", "Z", false)
  | _ => ("DialogueGames$Dialogue", "won", "Z", false)
def tyX1 : Nat → FieldType := fun k => match k with
  | 0 => .object "DialogueGames$Board"
  | 1 => .array .long
  | 2 => .array .long
  | 3 => .int
  | 4 => .boolean
  | _ => .boolean
abbrev wsX10 : List Cond := u_ws RX1 TX1 6
theorem nmX1 : ∀ a, a < 6 → ∀ b, b < 6 → a ≠ b → (TX1 a).2.1 ≠ (TX1 b).2.1 := by decide +kernel
theorem tyX1_ok : ∀ k, k < 6 → parseFieldDescriptor (TX1 k).2.2.1 = some (tyX1 k) := by decide +kernel
abbrev cX1_init : ByteArray := prog_3_method_1_code
def yX1_init : MethodName := ⟨RX1, "<init>", "(LDialogueGames$Formulas;)V"⟩
abbrev cX1_isOn : ByteArray := prog_3_method_2_code
def yX1_isOn : MethodName := ⟨RX1, "isOn", "()Z"⟩
abbrev cX1_drop : ByteArray := prog_3_method_3_code
def yX1_drop : MethodName := ⟨RX1, "drop", "()V"⟩
abbrev cX1_open : ByteArray := prog_3_method_4_code
def yX1_open : MethodName := ⟨RX1, "open", "(III)V"⟩
abbrev cX1_advance : ByteArray := prog_3_method_5_code
def yX1_advance : MethodName := ⟨RX1, "advance", "(II)I"⟩
abbrev cX1_stepBack : ByteArray := prog_3_method_6_code
def yX1_stepBack : MethodName := ⟨RX1, "stepBack", "()Z"⟩
def RX2 : String := "DialogueGames$Formulas"
def TX2 : u_T := fun k => match k with
  | 0 => ("DialogueGames$Formulas", "kinds", "[I", true)
  | 1 => ("DialogueGames$Formulas", "firsts", "[I", true)
  | 2 => ("DialogueGames$Formulas", "seconds", "[I", true)
  | 3 => ("DialogueGames$Formulas", "sizes", "[I", true)
  | 4 => ("DialogueGames$Formulas", "tables", "[I", true)
  | 5 => ("DialogueGames$Formulas", "subsets", "[J", true)
  | _ => ("DialogueGames$Formulas", "count", "I", false)
def tyX2 : Nat → FieldType := fun k => match k with
  | 0 => .array .int
  | 1 => .array .int
  | 2 => .array .int
  | 3 => .array .int
  | 4 => .array .int
  | 5 => .array .long
  | _ => .int
abbrev wsX20 : List Cond := u_ws RX2 TX2 7
theorem nmX2 : ∀ a, a < 7 → ∀ b, b < 7 → a ≠ b → (TX2 a).2.1 ≠ (TX2 b).2.1 := by decide +kernel
theorem tyX2_ok : ∀ k, k < 7 → parseFieldDescriptor (TX2 k).2.2.1 = some (tyX2 k) := by decide +kernel
abbrev cX2_init : ByteArray := prog_4_method_1_code
def yX2_init : MethodName := ⟨RX2, "<init>", "()V"⟩
abbrev cX2_atomTable : ByteArray := prog_4_method_2_code
def yX2_atomTable : MethodName := ⟨RX2, "atomTable", "(I)I"⟩
abbrev cX2_has : ByteArray := prog_4_method_3_code
def yX2_has : MethodName := ⟨RX2, "has", "(I)Z"⟩
abbrev cX2_kindOf : ByteArray := prog_4_method_4_code
def yX2_kindOf : MethodName := ⟨RX2, "kindOf", "(I)I"⟩
abbrev cX2_firstOf : ByteArray := prog_4_method_5_code
def yX2_firstOf : MethodName := ⟨RX2, "firstOf", "(I)I"⟩
abbrev cX2_secondOf : ByteArray := prog_4_method_6_code
def yX2_secondOf : MethodName := ⟨RX2, "secondOf", "(I)I"⟩
abbrev cX2_attacksOn : ByteArray := prog_4_method_7_code
def yX2_attacksOn : MethodName := ⟨RX2, "attacksOn", "(I)I"⟩
abbrev cX2_shrinkTo : ByteArray := prog_4_method_8_code
def yX2_shrinkTo : MethodName := ⟨RX2, "shrinkTo", "(I)V"⟩
abbrev cX2_negationOf : ByteArray := prog_4_method_9_code
def yX2_negationOf : MethodName := ⟨RX2, "negationOf", "(I)I"⟩
abbrev cX2_make : ByteArray := prog_4_method_10_code
def yX2_make : MethodName := ⟨RX2, "make", "(III)I"⟩
abbrev cX2_find : ByteArray := prog_4_method_11_code
def yX2_find : MethodName := ⟨RX2, "find", "(III)I"⟩
abbrev cX2_tableOf : ByteArray := prog_4_method_12_code
def yX2_tableOf : MethodName := ⟨RX2, "tableOf", "(III)I"⟩
def RX3 : String := "DialogueGames$Input"
def TX3 : u_T := fun k => match k with
  | 0 => ("DialogueGames$Input", "signs", "[I", true)
  | _ => ("DialogueGames$Input", "length", "I", false)
def tyX3 : Nat → FieldType := fun k => match k with
  | 0 => .array .int
  | _ => .int
abbrev wsX30 : List Cond := u_ws RX3 TX3 2
theorem nmX3 : ∀ a, a < 2 → ∀ b, b < 2 → a ≠ b → (TX3 a).2.1 ≠ (TX3 b).2.1 := by decide +kernel
theorem tyX3_ok : ∀ k, k < 2 → parseFieldDescriptor (TX3 k).2.2.1 = some (tyX3 k) := by decide +kernel
abbrev cX3_init : ByteArray := prog_5_method_1_code
def yX3_init : MethodName := ⟨RX3, "<init>", "()V"⟩
abbrev cX3_add : ByteArray := prog_5_method_2_code
def yX3_add : MethodName := ⟨RX3, "add", "(II)Z"⟩
abbrev cX3_signAt : ByteArray := prog_5_method_3_code
def yX3_signAt : MethodName := ⟨RX3, "signAt", "(I)I"⟩
abbrev cX3_spells : ByteArray := prog_5_method_4_code
def yX3_spells : MethodName := ⟨RX3, "spells", "(Ljava/lang/String;)Z"⟩
def RX4 : String := "DialogueGames$Search"
def TX4 : u_T := fun k => match k with
  | 0 => ("DialogueGames$Search", "formulas", "LDialogueGames$Formulas;", true)
  | 1 => ("DialogueGames$Search", "board", "LDialogueGames$Board;", true)
  | 2 => ("DialogueGames$Search", "claims", "[J", true)
  | 3 => ("DialogueGames$Search", "opens", "[J", true)
  | 4 => ("DialogueGames$Search", "ranks", "[I", true)
  | 5 => ("DialogueGames$Search", "places", "[I", true)
  | 6 => ("DialogueGames$Search", "links", "[I", false)
  | 7 => ("DialogueGames$Search", "linkStarts", "[I", true)
  | 8 => ("DialogueGames$Search", "linkCount", "I", false)
  | 9 => ("DialogueGames$Search", "starts", "I", false)
  | 10 => ("DialogueGames$Search", "total", "I", false)
  | _ => ("DialogueGames$Search", "exceeded", "Z", false)
def tyX4 : Nat → FieldType := fun k => match k with
  | 0 => .object "DialogueGames$Formulas"
  | 1 => .object "DialogueGames$Board"
  | 2 => .array .long
  | 3 => .array .long
  | 4 => .array .int
  | 5 => .array .int
  | 6 => .array .int
  | 7 => .array .int
  | 8 => .int
  | 9 => .int
  | 10 => .int
  | _ => .boolean
abbrev wsX40 : List Cond := u_ws RX4 TX4 12
theorem nmX4 : ∀ a, a < 12 → ∀ b, b < 12 → a ≠ b → (TX4 a).2.1 ≠ (TX4 b).2.1 := by decide +kernel
theorem tyX4_ok : ∀ k, k < 12 → parseFieldDescriptor (TX4 k).2.2.1 = some (tyX4 k) := by decide +kernel
abbrev cX4_init : ByteArray := prog_6_method_1_code
def yX4_init : MethodName := ⟨RX4, "<init>", "(LDialogueGames$Formulas;)V"⟩
abbrev cX4_startFromFormula : ByteArray := prog_6_method_2_code
def yX4_startFromFormula : MethodName := ⟨RX4, "startFromFormula", "(II)V"⟩
abbrev cX4_startFromPosition : ByteArray := prog_6_method_3_code
def yX4_startFromPosition : MethodName := ⟨RX4, "startFromPosition", "(JJI)V"⟩
abbrev cX4_clear : ByteArray := prog_6_method_4_code
def yX4_clear : MethodName := ⟨RX4, "clear", "(I)V"⟩
abbrev cX4_explore : ByteArray := prog_6_method_5_code
def yX4_explore : MethodName := ⟨RX4, "explore", "()Z"⟩
abbrev cX4_linkMove : ByteArray := prog_6_method_6_code
def yX4_linkMove : MethodName := ⟨RX4, "linkMove", "(II)V"⟩
abbrev cX4_addLink : ByteArray := prog_6_method_7_code
def yX4_addLink : MethodName := ⟨RX4, "addLink", "(I)V"⟩
abbrev cX4_numberOf : ByteArray := prog_6_method_8_code
def yX4_numberOf : MethodName := ⟨RX4, "numberOf", "(JJ)I"⟩
abbrev cX4_placeOf : ByteArray := prog_6_method_9_code
def yX4_placeOf : MethodName := ⟨RX4, "placeOf", "(JJ)I"⟩
abbrev cX4_settleRanks : ByteArray := prog_6_method_10_code
def yX4_settleRanks : MethodName := ⟨RX4, "settleRanks", "()V"⟩
abbrev cX4_winsWithin : ByteArray := prog_6_method_11_code
def yX4_winsWithin : MethodName := ⟨RX4, "winsWithin", "(II)Z"⟩
abbrev cX4_areBelow : ByteArray := prog_6_method_12_code
def yX4_areBelow : MethodName := ⟨RX4, "areBelow", "(III)Z"⟩
abbrev cX4_highestStartRank : ByteArray := prog_6_method_13_code
def yX4_highestStartRank : MethodName := ⟨RX4, "highestStartRank", "()I"⟩
abbrev cX4_rankOf : ByteArray := prog_6_method_14_code
def yX4_rankOf : MethodName := ⟨RX4, "rankOf", "(JJ)I"⟩
def RX5 : String := "DialogueGames$Slot"
def TX5 : u_T := fun k => match k with
  | 0 => ("DialogueGames$Slot", "wholes", "[J", true)
  | 1 => ("DialogueGames$Slot", "reals", "[D", true)
  | 2 => ("DialogueGames$Slot", "marks", "[I", true)
  | 3 => ("DialogueGames$Slot", "type", "I", false)
  | _ => ("DialogueGames$Slot", "length", "I", false)
def tyX5 : Nat → FieldType := fun k => match k with
  | 0 => .array .long
  | 1 => .array .double
  | 2 => .array .int
  | 3 => .int
  | _ => .int
abbrev wsX50 : List Cond := u_ws RX5 TX5 5
theorem nmX5 : ∀ a, a < 5 → ∀ b, b < 5 → a ≠ b → (TX5 a).2.1 ≠ (TX5 b).2.1 := by decide +kernel
theorem tyX5_ok : ∀ k, k < 5 → parseFieldDescriptor (TX5 k).2.2.1 = some (tyX5 k) := by decide +kernel
abbrev cX5_init : ByteArray := prog_7_method_1_code
def yX5_init : MethodName := ⟨RX5, "<init>", "()V"⟩
abbrev cX5_isEmpty : ByteArray := prog_7_method_2_code
def yX5_isEmpty : MethodName := ⟨RX5, "isEmpty", "()Z"⟩
abbrev cX5_holdsReals : ByteArray := prog_7_method_3_code
def yX5_holdsReals : MethodName := ⟨RX5, "holdsReals", "()Z"⟩
abbrev cX5_covers : ByteArray := prog_7_method_4_code
def yX5_covers : MethodName := ⟨RX5, "covers", "(II)Z"⟩
abbrev cX5_fillAnew : ByteArray := prog_7_method_5_code
def yX5_fillAnew : MethodName := ⟨RX5, "fillAnew", "(II)V"⟩
abbrev cX5_drop : ByteArray := prog_7_method_6_code
def yX5_drop : MethodName := ⟨RX5, "drop", "()Z"⟩
abbrev cX5_write : ByteArray := prog_7_method_7_code
def yX5_write : MethodName := ⟨RX5, "write", "(IJ)V"⟩
abbrev cX5_read : ByteArray := prog_7_method_8_code
def yX5_read : MethodName := ⟨RX5, "read", "(I)J"⟩
abbrev cX5_divide : ByteArray := prog_7_method_9_code
def yX5_divide : MethodName := ⟨RX5, "divide", "(II)V"⟩
abbrev cX5_keepRemainder : ByteArray := prog_7_method_10_code
def yX5_keepRemainder : MethodName := ⟨RX5, "keepRemainder", "(II)V"⟩
abbrev cX5_remainderOf : ByteArray := prog_7_method_11_code
def yX5_remainderOf : MethodName := ⟨RX5, "remainderOf", "(DJ)D"⟩
abbrev cX5_copyTo : ByteArray := prog_7_method_12_code
def yX5_copyTo : MethodName := ⟨RX5, "copyTo", "(ILDialogueGames$Slot;II)V"⟩
def RX6 : String := "DialogueGames$TextReader"
def TX6 : u_T := fun k => match k with
  | 0 => ("DialogueGames$TextReader", "formulas", "LDialogueGames$Formulas;", true)
  | 1 => ("DialogueGames$TextReader", "operators", "[I", true)
  | 2 => ("DialogueGames$TextReader", "operands", "[I", true)
  | 3 => ("DialogueGames$TextReader", "operatorCount", "I", false)
  | 4 => ("DialogueGames$TextReader", "operandCount", "I", false)
  | _ => ("DialogueGames$TextReader", "full", "Z", false)
def tyX6 : Nat → FieldType := fun k => match k with
  | 0 => .object "DialogueGames$Formulas"
  | 1 => .array .int
  | 2 => .array .int
  | 3 => .int
  | 4 => .int
  | _ => .boolean
abbrev wsX60 : List Cond := u_ws RX6 TX6 6
theorem nmX6 : ∀ a, a < 6 → ∀ b, b < 6 → a ≠ b → (TX6 a).2.1 ≠ (TX6 b).2.1 := by decide +kernel
theorem tyX6_ok : ∀ k, k < 6 → parseFieldDescriptor (TX6 k).2.2.1 = some (tyX6 k) := by decide +kernel
abbrev cX6_init : ByteArray := prog_8_method_1_code
def yX6_init : MethodName := ⟨RX6, "<init>", "(LDialogueGames$Formulas;)V"⟩
abbrev cX6_faultIn : ByteArray := prog_8_method_2_code
def yX6_faultIn : MethodName := ⟨RX6, "faultIn", "(LDialogueGames$Input;)I"⟩
abbrev cX6_build : ByteArray := prog_8_method_3_code
def yX6_build : MethodName := ⟨RX6, "build", "(LDialogueGames$Input;)I"⟩
abbrev cX6_take : ByteArray := prog_8_method_4_code
def yX6_take : MethodName := ⟨RX6, "take", "(I)V"⟩
abbrev cX6_joinUpTo : ByteArray := prog_8_method_5_code
def yX6_joinUpTo : MethodName := ⟨RX6, "joinUpTo", "(I)V"⟩
abbrev cX6_join : ByteArray := prog_8_method_6_code
def yX6_join : MethodName := ⟨RX6, "join", "(I)V"⟩
abbrev cX6_pushOperator : ByteArray := prog_8_method_7_code
def yX6_pushOperator : MethodName := ⟨RX6, "pushOperator", "(I)V"⟩
abbrev cX6_pushOperand : ByteArray := prog_8_method_8_code
def yX6_pushOperand : MethodName := ⟨RX6, "pushOperand", "(I)V"⟩
abbrev cX6_isAtomSign : ByteArray := prog_8_method_9_code
def yX6_isAtomSign : MethodName := ⟨RX6, "isAtomSign", "(I)Z"⟩
abbrev cX6_kindOfOperator : ByteArray := prog_8_method_10_code
def yX6_kindOfOperator : MethodName := ⟨RX6, "kindOfOperator", "(I)I"⟩
def RX7 : String := "DialogueGames$Transformer"
def TX7 : u_T := fun k => match k with
  | 0 => ("DialogueGames$Transformer", "formulas", "LDialogueGames$Formulas;", true)
  | _ => ("DialogueGames$Transformer", "images", "[I", true)
def tyX7 : Nat → FieldType := fun k => match k with
  | 0 => .object "DialogueGames$Formulas"
  | _ => .array .int
abbrev wsX70 : List Cond := u_ws RX7 TX7 2
theorem nmX7 : ∀ a, a < 2 → ∀ b, b < 2 → a ≠ b → (TX7 a).2.1 ≠ (TX7 b).2.1 := by decide +kernel
theorem tyX7_ok : ∀ k, k < 2 → parseFieldDescriptor (TX7 k).2.2.1 = some (tyX7 k) := by decide +kernel
abbrev cX7_init : ByteArray := prog_9_method_1_code
def yX7_init : MethodName := ⟨RX7, "<init>", "(LDialogueGames$Formulas;)V"⟩
abbrev cX7_wordIn : ByteArray := prog_9_method_2_code
def yX7_wordIn : MethodName := ⟨RX7, "wordIn", "(LDialogueGames$Input;)I"⟩
abbrev cX7_applies : ByteArray := prog_9_method_3_code
def yX7_applies : MethodName := ⟨RX7, "applies", "(II)Z"⟩
abbrev cX7_makeBy : ByteArray := prog_9_method_4_code
def yX7_makeBy : MethodName := ⟨RX7, "makeBy", "(II)I"⟩
abbrev cX7_translate : ByteArray := prog_9_method_5_code
def yX7_translate : MethodName := ⟨RX7, "translate", "(II)I"⟩
abbrev cX7_imageOf : ByteArray := prog_9_method_6_code
def yX7_imageOf : MethodName := ⟨RX7, "imageOf", "(II)I"⟩
def RX8 : String := "DialogueGames"
def TX8 : u_T := fun k => match k with
  | 0 => ("DialogueGames", "formulas", "LDialogueGames$Formulas;", true)
  | 1 => ("DialogueGames", "input", "LDialogueGames$Input;", true)
  | 2 => ("DialogueGames", "textReader", "LDialogueGames$TextReader;", true)
  | 3 => ("DialogueGames", "transformer", "LDialogueGames$Transformer;", true)
  | 4 => ("DialogueGames", "dialogue", "LDialogueGames$Dialogue;", true)
  | 5 => ("DialogueGames", "search", "LDialogueGames$Search;", true)
  | _ => ("DialogueGames", "slots", "[LDialogueGames$Slot;", true)
def tyX8 : Nat → FieldType := fun k => match k with
  | 0 => .object "DialogueGames$Formulas"
  | 1 => .object "DialogueGames$Input"
  | 2 => .object "DialogueGames$TextReader"
  | 3 => .object "DialogueGames$Transformer"
  | 4 => .object "DialogueGames$Dialogue"
  | 5 => .object "DialogueGames$Search"
  | _ => .array (.object "DialogueGames$Slot")
abbrev wsX80 : List Cond := u_ws RX8 TX8 7
theorem nmX8 : ∀ a, a < 7 → ∀ b, b < 7 → a ≠ b → (TX8 a).2.1 ≠ (TX8 b).2.1 := by decide +kernel
theorem tyX8_ok : ∀ k, k < 7 → parseFieldDescriptor (TX8 k).2.2.1 = some (tyX8 k) := by decide +kernel
abbrev cX8_init : ByteArray := prog_1_method_1_code
def yX8_init : MethodName := ⟨RX8, "<init>", "()V"⟩
abbrev cX8_reset : ByteArray := prog_1_method_2_code
def yX8_reset : MethodName := ⟨RX8, "reset", "()I"⟩
abbrev cX8_formulaCount : ByteArray := prog_1_method_3_code
def yX8_formulaCount : MethodName := ⟨RX8, "formulaCount", "()I"⟩
abbrev cX8_append : ByteArray := prog_1_method_4_code
def yX8_append : MethodName := ⟨RX8, "append", "(II)I"⟩
abbrev cX8_clearInput : ByteArray := prog_1_method_5_code
def yX8_clearInput : MethodName := ⟨RX8, "clearInput", "()I"⟩
abbrev cX8_parse : ByteArray := prog_1_method_6_code
def yX8_parse : MethodName := ⟨RX8, "parse", "()I"⟩
abbrev cX8_negate : ByteArray := prog_1_method_7_code
def yX8_negate : MethodName := ⟨RX8, "negate", "(I)I"⟩
abbrev cX8_combine : ByteArray := prog_1_method_8_code
def yX8_combine : MethodName := ⟨RX8, "combine", "(III)I"⟩
abbrev cX8_kind : ByteArray := prog_1_method_9_code
def yX8_kind : MethodName := ⟨RX8, "kind", "(I)I"⟩
abbrev cX8_part : ByteArray := prog_1_method_10_code
def yX8_part : MethodName := ⟨RX8, "part", "(II)I"⟩
abbrev cX8_size : ByteArray := prog_1_method_11_code
def yX8_size : MethodName := ⟨RX8, "size", "(I)I"⟩
abbrev cX8_subformulas : ByteArray := prog_1_method_12_code
def yX8_subformulas : MethodName := ⟨RX8, "subformulas", "(I)J"⟩
abbrev cX8_truthTable : ByteArray := prog_1_method_13_code
def yX8_truthTable : MethodName := ⟨RX8, "truthTable", "(I)I"⟩
abbrev cX8_isEquivalent : ByteArray := prog_1_method_14_code
def yX8_isEquivalent : MethodName := ⟨RX8, "isEquivalent", "(II)I"⟩
abbrev cX8_transform : ByteArray := prog_1_method_15_code
def yX8_transform : MethodName := ⟨RX8, "transform", "(I)I"⟩
abbrev cX8_rank : ByteArray := prog_1_method_16_code
def yX8_rank : MethodName := ⟨RX8, "rank", "(II)I"⟩
abbrev cX8_positionCount : ByteArray := prog_1_method_17_code
def yX8_positionCount : MethodName := ⟨RX8, "positionCount", "(II)I"⟩
abbrev cX8_manners : ByteArray := prog_1_method_18_code
def yX8_manners : MethodName := ⟨RX8, "manners", "(I)I"⟩
abbrev cX8_begin : ByteArray := prog_1_method_19_code
def yX8_begin : MethodName := ⟨RX8, "begin", "(III)I"⟩
abbrev cX8_claims : ByteArray := prog_1_method_20_code
def yX8_claims : MethodName := ⟨RX8, "claims", "()J"⟩
abbrev cX8_defences : ByteArray := prog_1_method_21_code
def yX8_defences : MethodName := ⟨RX8, "defences", "()J"⟩
abbrev cX8_moveCount : ByteArray := prog_1_method_22_code
def yX8_moveCount : MethodName := ⟨RX8, "moveCount", "()I"⟩
abbrev cX8_move : ByteArray := prog_1_method_23_code
def yX8_move : MethodName := ⟨RX8, "move", "(II)I"⟩
abbrev cX8_play : ByteArray := prog_1_method_24_code
def yX8_play : MethodName := ⟨RX8, "play", "(II)I"⟩
abbrev cX8_takeBack : ByteArray := prog_1_method_25_code
def yX8_takeBack : MethodName := ⟨RX8, "takeBack", "()I"⟩
abbrev cX8_positionRank : ByteArray := prog_1_method_26_code
def yX8_positionRank : MethodName := ⟨RX8, "positionRank", "()I"⟩
abbrev cX8_bestMove : ByteArray := prog_1_method_27_code
def yX8_bestMove : MethodName := ⟨RX8, "bestMove", "()I"⟩
abbrev cX8_hardestReply : ByteArray := prog_1_method_28_code
def yX8_hardestReply : MethodName := ⟨RX8, "hardestReply", "(I)I"⟩
abbrev cX8_allocate : ByteArray := prog_1_method_29_code
def yX8_allocate : MethodName := ⟨RX8, "allocate", "(III)I"⟩
abbrev cX8_release : ByteArray := prog_1_method_30_code
def yX8_release : MethodName := ⟨RX8, "release", "(I)I"⟩
abbrev cX8_putElement : ByteArray := prog_1_method_31_code
def yX8_putElement : MethodName := ⟨RX8, "putElement", "(IIJ)I"⟩
abbrev cX8_element : ByteArray := prog_1_method_32_code
def yX8_element : MethodName := ⟨RX8, "element", "(II)J"⟩
abbrev cX8_compute : ByteArray := prog_1_method_33_code
def yX8_compute : MethodName := ⟨RX8, "compute", "(IIII)I"⟩
abbrev cX8_copyElements : ByteArray := prog_1_method_34_code
def yX8_copyElements : MethodName := ⟨RX8, "copyElements", "(IIIII)I"⟩
abbrev cX8_replay : ByteArray := prog_1_method_35_code
def yX8_replay : MethodName := ⟨RX8, "replay", "(III)I"⟩
abbrev cX8_playStored : ByteArray := prog_1_method_36_code
def yX8_playStored : MethodName := ⟨RX8, "playStored", "(LDialogueGames$Slot;)I"⟩
abbrev cX8_isManner : ByteArray := prog_1_method_37_code
def yX8_isManner : MethodName := ⟨RX8, "isManner", "(I)Z"⟩
abbrev cX8_slotAt : ByteArray := prog_1_method_38_code
def yX8_slotAt : MethodName := ⟨RX8, "slotAt", "(I)LDialogueGames$Slot;"⟩
abbrev cX8_rankIn : ByteArray := prog_1_method_39_code
def yX8_rankIn : MethodName := ⟨RX8, "rankIn", "(II)I"⟩
abbrev cX8_presentRank : ByteArray := prog_1_method_40_code
def yX8_presentRank : MethodName := ⟨RX8, "presentRank", "()I"⟩
abbrev cX8_rankAfter : ByteArray := prog_1_method_41_code
def yX8_rankAfter : MethodName := ⟨RX8, "rankAfter", "(II)I"⟩
abbrev cX8_longestAfter : ByteArray := prog_1_method_42_code
def yX8_longestAfter : MethodName := ⟨RX8, "longestAfter", "(I)I"⟩
def RX9 : String := "DialogueGamesModel"
def TX9 : u_T := fun k => match k with
  | 0 => ("DialogueGamesModel", "formulas", "I", false)
  | 1 => ("DialogueGamesModel", "kinds", "[I", true)
  | 2 => ("DialogueGamesModel", "first", "[I", true)
  | 3 => ("DialogueGamesModel", "second", "[I", true)
  | 4 => ("DialogueGamesModel", "isFull", "Z", false)
  | 5 => ("DialogueGamesModel", "input", "[I", true)
  | 6 => ("DialogueGamesModel", "typed", "I", false)
  | 7 => ("DialogueGamesModel", "at", "I", false)
  | 8 => ("DialogueGamesModel", "end", "I", false)
  | 9 => ("DialogueGamesModel", "fault", "I", false)
  | 10 => ("DialogueGamesModel", "isMaking", "Z", false)
  | 11 => ("DialogueGamesModel", "sizes", "[I", true)
  | 12 => ("DialogueGamesModel", "tables", "[I", true)
  | 13 => ("DialogueGamesModel", "unders", "[J", true)
  | 14 => ("DialogueGamesModel", "translated", "[I", true)
  | 15 => ("DialogueGamesModel", "claimed", "J", false)
  | 16 => ("DialogueGamesModel", "open", "J", false)
  | 17 => ("DialogueGamesModel", "manner", "I", false)
  | 18 => ("DialogueGamesModel", "moveType", "I", false)
  | 19 => ("DialogueGamesModel", "moveFormula", "I", false)
  | 20 => ("DialogueGamesModel", "claims", "[J", true)
  | 21 => ("DialogueGamesModel", "opens", "[J", true)
  | 22 => ("DialogueGamesModel", "ranks", "[I", true)
  | 23 => ("DialogueGamesModel", "positions", "I", false)
  | 24 => ("DialogueGamesModel", "isBegun", "Z", false)
  | 25 => ("DialogueGamesModel", "isOver", "Z", false)
  | 26 => ("DialogueGamesModel", "played", "I", false)
  | 27 => ("DialogueGamesModel", "stoodClaims", "[J", true)
  | 28 => ("DialogueGamesModel", "stoodOpens", "[J", true)
  | 29 => ("DialogueGamesModel", "types", "[I", true)
  | 30 => ("DialogueGamesModel", "lengths", "[I", true)
  | 31 => ("DialogueGamesModel", "wholes", "[J", true)
  | 32 => ("DialogueGamesModel", "reals", "[D", true)
  | 33 => ("DialogueGamesModel", "movedWholes", "[J", true)
  | _ => ("DialogueGamesModel", "movedReals", "[D", true)
def tyX9 : Nat → FieldType := fun k => match k with
  | 0 => .int
  | 1 => .array .int
  | 2 => .array .int
  | 3 => .array .int
  | 4 => .boolean
  | 5 => .array .int
  | 6 => .int
  | 7 => .int
  | 8 => .int
  | 9 => .int
  | 10 => .boolean
  | 11 => .array .int
  | 12 => .array .int
  | 13 => .array .long
  | 14 => .array .int
  | 15 => .long
  | 16 => .long
  | 17 => .int
  | 18 => .int
  | 19 => .int
  | 20 => .array .long
  | 21 => .array .long
  | 22 => .array .int
  | 23 => .int
  | 24 => .boolean
  | 25 => .boolean
  | 26 => .int
  | 27 => .array .long
  | 28 => .array .long
  | 29 => .array .int
  | 30 => .array .int
  | 31 => .array .long
  | 32 => .array .double
  | 33 => .array .long
  | _ => .array .double
abbrev wsX90 : List Cond := u_ws RX9 TX9 35
theorem nmX9 : ∀ a, a < 35 → ∀ b, b < 35 → a ≠ b → (TX9 a).2.1 ≠ (TX9 b).2.1 := by decide +kernel
theorem tyX9_ok : ∀ k, k < 35 → parseFieldDescriptor (TX9 k).2.2.1 = some (tyX9 k) := by decide +kernel
abbrev cX9_init : ByteArray := prog_11_method_1_code
def yX9_init : MethodName := ⟨RX9, "<init>", "()V"⟩
abbrev cX9_isIn : ByteArray := prog_11_method_2_code
def yX9_isIn : MethodName := ⟨RX9, "isIn", "(III)Z"⟩
abbrev cX9_isFormula : ByteArray := prog_11_method_3_code
def yX9_isFormula : MethodName := ⟨RX9, "isFormula", "(I)Z"⟩
abbrev cX9_make : ByteArray := prog_11_method_4_code
def yX9_make : MethodName := ⟨RX9, "make", "(III)I"⟩
abbrev cX9_settled : ByteArray := prog_11_method_5_code
def yX9_settled : MethodName := ⟨RX9, "settled", "(II)I"⟩
abbrev cX9_reset : ByteArray := prog_11_method_6_code
def yX9_reset : MethodName := ⟨RX9, "reset", "()I"⟩
abbrev cX9_formulaCount : ByteArray := prog_11_method_7_code
def yX9_formulaCount : MethodName := ⟨RX9, "formulaCount", "()I"⟩
abbrev cX9_append : ByteArray := prog_11_method_8_code
def yX9_append : MethodName := ⟨RX9, "append", "(II)I"⟩
abbrev cX9_clearInput : ByteArray := prog_11_method_9_code
def yX9_clearInput : MethodName := ⟨RX9, "clearInput", "()I"⟩
abbrev cX9_goes : ByteArray := prog_11_method_10_code
def yX9_goes : MethodName := ⟨RX9, "goes", "(C)Z"⟩
abbrev cX9_made : ByteArray := prog_11_method_11_code
def yX9_made : MethodName := ⟨RX9, "made", "(III)I"⟩
abbrev cX9_readImplication : ByteArray := prog_11_method_12_code
def yX9_readImplication : MethodName := ⟨RX9, "readImplication", "()I"⟩
abbrev cX9_readDisjunction : ByteArray := prog_11_method_13_code
def yX9_readDisjunction : MethodName := ⟨RX9, "readDisjunction", "()I"⟩
abbrev cX9_readConjunction : ByteArray := prog_11_method_14_code
def yX9_readConjunction : MethodName := ⟨RX9, "readConjunction", "()I"⟩
abbrev cX9_readSimple : ByteArray := prog_11_method_15_code
def yX9_readSimple : MethodName := ⟨RX9, "readSimple", "()I"⟩
abbrev cX9_readAll : ByteArray := prog_11_method_16_code
def yX9_readAll : MethodName := ⟨RX9, "readAll", "(Z)I"⟩
abbrev cX9_parse : ByteArray := prog_11_method_17_code
def yX9_parse : MethodName := ⟨RX9, "parse", "()I"⟩
abbrev cX9_negate : ByteArray := prog_11_method_18_code
def yX9_negate : MethodName := ⟨RX9, "negate", "(I)I"⟩
abbrev cX9_combine : ByteArray := prog_11_method_19_code
def yX9_combine : MethodName := ⟨RX9, "combine", "(III)I"⟩
abbrev cX9_kind : ByteArray := prog_11_method_20_code
def yX9_kind : MethodName := ⟨RX9, "kind", "(I)I"⟩
abbrev cX9_part : ByteArray := prog_11_method_21_code
def yX9_part : MethodName := ⟨RX9, "part", "(II)I"⟩
abbrev cX9_size : ByteArray := prog_11_method_22_code
def yX9_size : MethodName := ⟨RX9, "size", "(I)I"⟩
abbrev cX9_subformulas : ByteArray := prog_11_method_23_code
def yX9_subformulas : MethodName := ⟨RX9, "subformulas", "(I)J"⟩
abbrev cX9_tableOf : ByteArray := prog_11_method_24_code
def yX9_tableOf : MethodName := ⟨RX9, "tableOf", "(I)I"⟩
abbrev cX9_truthTable : ByteArray := prog_11_method_25_code
def yX9_truthTable : MethodName := ⟨RX9, "truthTable", "(I)I"⟩
abbrev cX9_isEquivalent : ByteArray := prog_11_method_26_code
def yX9_isEquivalent : MethodName := ⟨RX9, "isEquivalent", "(II)I"⟩
abbrev cX9_letterAt : ByteArray := prog_11_method_27_code
def yX9_letterAt : MethodName := ⟨RX9, "letterAt", "(II)I"⟩
abbrev cX9_readWord : ByteArray := prog_11_method_28_code
def yX9_readWord : MethodName := ⟨RX9, "readWord", "(I)I"⟩
abbrev cX9_not : ByteArray := prog_11_method_29_code
def yX9_not : MethodName := ⟨RX9, "not", "(I)I"⟩
abbrev cX9_translate : ByteArray := prog_11_method_30_code
def yX9_translate : MethodName := ⟨RX9, "translate", "(I)I"⟩
abbrev cX9_translation : ByteArray := prog_11_method_31_code
def yX9_translation : MethodName := ⟨RX9, "translation", "(I)I"⟩
abbrev cX9_transformed : ByteArray := prog_11_method_32_code
def yX9_transformed : MethodName := ⟨RX9, "transformed", "(II)I"⟩
abbrev cX9_transform : ByteArray := prog_11_method_33_code
def yX9_transform : MethodName := ⟨RX9, "transform", "(I)I"⟩
abbrev cX9_attacksOn : ByteArray := prog_11_method_34_code
def yX9_attacksOn : MethodName := ⟨RX9, "attacksOn", "(I)I"⟩
abbrev cX9_attack : ByteArray := prog_11_method_35_code
def yX9_attack : MethodName := ⟨RX9, "attack", "(II)V"⟩
abbrev cX9_mayClaim : ByteArray := prog_11_method_36_code
def yX9_mayClaim : MethodName := ⟨RX9, "mayClaim", "(I)Z"⟩
abbrev cX9_findMove : ByteArray := prog_11_method_37_code
def yX9_findMove : MethodName := ⟨RX9, "findMove", "(I)I"⟩
abbrev cX9_countMoves : ByteArray := prog_11_method_38_code
def yX9_countMoves : MethodName := ⟨RX9, "countMoves", "()I"⟩
abbrev cX9_isMove : ByteArray := prog_11_method_39_code
def yX9_isMove : MethodName := ⟨RX9, "isMove", "(I)Z"⟩
abbrev cX9_countReplies : ByteArray := prog_11_method_40_code
def yX9_countReplies : MethodName := ⟨RX9, "countReplies", "()I"⟩
abbrev cX9_reply : ByteArray := prog_11_method_41_code
def yX9_reply : MethodName := ⟨RX9, "reply", "(I)V"⟩
abbrev cX9_placeOf : ByteArray := prog_11_method_42_code
def yX9_placeOf : MethodName := ⟨RX9, "placeOf", "(JJ)I"⟩
abbrev cX9_meet : ByteArray := prog_11_method_43_code
def yX9_meet : MethodName := ⟨RX9, "meet", "()V"⟩
abbrev cX9_stand : ByteArray := prog_11_method_44_code
def yX9_stand : MethodName := ⟨RX9, "stand", "(I)V"⟩
abbrev cX9_meetAll : ByteArray := prog_11_method_45_code
def yX9_meetAll : MethodName := ⟨RX9, "meetAll", "()Z"⟩
abbrev cX9_rankBy : ByteArray := prog_11_method_46_code
def yX9_rankBy : MethodName := ⟨RX9, "rankBy", "(II)I"⟩
abbrev cX9_rankAll : ByteArray := prog_11_method_47_code
def yX9_rankAll : MethodName := ⟨RX9, "rankAll", "()V"⟩
abbrev cX9_meetAfter : ByteArray := prog_11_method_48_code
def yX9_meetAfter : MethodName := ⟨RX9, "meetAfter", "(I)Z"⟩
abbrev cX9_rankOf : ByteArray := prog_11_method_49_code
def yX9_rankOf : MethodName := ⟨RX9, "rankOf", "(II)I"⟩
abbrev cX9_isManner : ByteArray := prog_11_method_50_code
def yX9_isManner : MethodName := ⟨RX9, "isManner", "(I)Z"⟩
abbrev cX9_rank : ByteArray := prog_11_method_51_code
def yX9_rank : MethodName := ⟨RX9, "rank", "(II)I"⟩
abbrev cX9_positionCount : ByteArray := prog_11_method_52_code
def yX9_positionCount : MethodName := ⟨RX9, "positionCount", "(II)I"⟩
abbrev cX9_manners : ByteArray := prog_11_method_53_code
def yX9_manners : MethodName := ⟨RX9, "manners", "(I)I"⟩
abbrev cX9_isPlaying : ByteArray := prog_11_method_54_code
def yX9_isPlaying : MethodName := ⟨RX9, "isPlaying", "()Z"⟩
abbrev cX9_now : ByteArray := prog_11_method_55_code
def yX9_now : MethodName := ⟨RX9, "now", "()V"⟩
abbrev cX9_start : ByteArray := prog_11_method_56_code
def yX9_start : MethodName := ⟨RX9, "start", "(III)V"⟩
abbrev cX9_begin : ByteArray := prog_11_method_57_code
def yX9_begin : MethodName := ⟨RX9, "begin", "(III)I"⟩
abbrev cX9_claims : ByteArray := prog_11_method_58_code
def yX9_claims : MethodName := ⟨RX9, "claims", "()J"⟩
abbrev cX9_defences : ByteArray := prog_11_method_59_code
def yX9_defences : MethodName := ⟨RX9, "defences", "()J"⟩
abbrev cX9_moveCount : ByteArray := prog_11_method_60_code
def yX9_moveCount : MethodName := ⟨RX9, "moveCount", "()I"⟩
abbrev cX9_move : ByteArray := prog_11_method_61_code
def yX9_move : MethodName := ⟨RX9, "move", "(II)I"⟩
abbrev cX9_playOne : ByteArray := prog_11_method_62_code
def yX9_playOne : MethodName := ⟨RX9, "playOne", "(II)I"⟩
abbrev cX9_play : ByteArray := prog_11_method_63_code
def yX9_play : MethodName := ⟨RX9, "play", "(II)I"⟩
abbrev cX9_takeBack : ByteArray := prog_11_method_64_code
def yX9_takeBack : MethodName := ⟨RX9, "takeBack", "()I"⟩
abbrev cX9_rankNow : ByteArray := prog_11_method_65_code
def yX9_rankNow : MethodName := ⟨RX9, "rankNow", "()Z"⟩
abbrev cX9_positionRank : ByteArray := prog_11_method_66_code
def yX9_positionRank : MethodName := ⟨RX9, "positionRank", "()I"⟩
abbrev cX9_bestMove : ByteArray := prog_11_method_67_code
def yX9_bestMove : MethodName := ⟨RX9, "bestMove", "()I"⟩
abbrev cX9_hardestReply : ByteArray := prog_11_method_68_code
def yX9_hardestReply : MethodName := ⟨RX9, "hardestReply", "(I)I"⟩
abbrev cX9_isSlot : ByteArray := prog_11_method_69_code
def yX9_isSlot : MethodName := ⟨RX9, "isSlot", "(I)Z"⟩
abbrev cX9_allocate : ByteArray := prog_11_method_70_code
def yX9_allocate : MethodName := ⟨RX9, "allocate", "(III)I"⟩
abbrev cX9_release : ByteArray := prog_11_method_71_code
def yX9_release : MethodName := ⟨RX9, "release", "(I)I"⟩
abbrev cX9_putElement : ByteArray := prog_11_method_72_code
def yX9_putElement : MethodName := ⟨RX9, "putElement", "(IIJ)I"⟩
abbrev cX9_element : ByteArray := prog_11_method_73_code
def yX9_element : MethodName := ⟨RX9, "element", "(II)J"⟩
abbrev cX9_compute : ByteArray := prog_11_method_74_code
def yX9_compute : MethodName := ⟨RX9, "compute", "(IIII)I"⟩
abbrev cX9_copyElements : ByteArray := prog_11_method_75_code
def yX9_copyElements : MethodName := ⟨RX9, "copyElements", "(IIIII)I"⟩
abbrev cX9_replay : ByteArray := prog_11_method_76_code
def yX9_replay : MethodName := ⟨RX9, "replay", "(III)I"⟩
def RJx145de : String := "java/io/Serializable"
def TJx145de : u_T := fun k => match k with
  | _ => ("", "", "", false)
def tyJx145de : Nat → FieldType := fun k => match k with
  | _ => .int
abbrev wsJx145de0 : List Cond := u_ws RJx145de TJx145de 0
theorem nmJx145de : ∀ a, a < 0 → ∀ b, b < 0 → a ≠ b → (TJx145de a).2.1 ≠ (TJx145de b).2.1 := by decide +kernel
theorem tyJx145de_ok : ∀ k, k < 0 → parseFieldDescriptor (TJx145de k).2.2.1 = some (tyJx145de k) := by decide +kernel
def RJx9f9b0 : String := "java/lang/CharSequence"
def TJx9f9b0 : u_T := fun k => match k with
  | _ => ("", "", "", false)
def tyJx9f9b0 : Nat → FieldType := fun k => match k with
  | _ => .int
abbrev wsJx9f9b00 : List Cond := u_ws RJx9f9b0 TJx9f9b0 0
theorem nmJx9f9b0 : ∀ a, a < 0 → ∀ b, b < 0 → a ≠ b → (TJx9f9b0 a).2.1 ≠ (TJx9f9b0 b).2.1 := by decide +kernel
theorem tyJx9f9b0_ok : ∀ k, k < 0 → parseFieldDescriptor (TJx9f9b0 k).2.2.1 = some (tyJx9f9b0 k) := by decide +kernel
def RJx8e188 : String := "java/lang/Cloneable"
def TJx8e188 : u_T := fun k => match k with
  | _ => ("", "", "", false)
def tyJx8e188 : Nat → FieldType := fun k => match k with
  | _ => .int
abbrev wsJx8e1880 : List Cond := u_ws RJx8e188 TJx8e188 0
theorem nmJx8e188 : ∀ a, a < 0 → ∀ b, b < 0 → a ≠ b → (TJx8e188 a).2.1 ≠ (TJx8e188 b).2.1 := by decide +kernel
theorem tyJx8e188_ok : ∀ k, k < 0 → parseFieldDescriptor (TJx8e188 k).2.2.1 = some (tyJx8e188 k) := by decide +kernel
def RJxb160c : String := "java/lang/Comparable"
def TJxb160c : u_T := fun k => match k with
  | _ => ("", "", "", false)
def tyJxb160c : Nat → FieldType := fun k => match k with
  | _ => .int
abbrev wsJxb160c0 : List Cond := u_ws RJxb160c TJxb160c 0
theorem nmJxb160c : ∀ a, a < 0 → ∀ b, b < 0 → a ≠ b → (TJxb160c a).2.1 ≠ (TJxb160c b).2.1 := by decide +kernel
theorem tyJxb160c_ok : ∀ k, k < 0 → parseFieldDescriptor (TJxb160c k).2.2.1 = some (tyJxb160c k) := by decide +kernel
def RJ9 : String := "java/lang/Math"
def TJ9 : u_T := fun k => match k with
  | _ => ("", "", "", false)
def tyJ9 : Nat → FieldType := fun k => match k with
  | _ => .int
abbrev wsJ90 : List Cond := u_ws RJ9 TJ9 0
theorem nmJ9 : ∀ a, a < 0 → ∀ b, b < 0 → a ≠ b → (TJ9 a).2.1 ≠ (TJ9 b).2.1 := by decide +kernel
theorem tyJ9_ok : ∀ k, k < 0 → parseFieldDescriptor (TJ9 k).2.2.1 = some (tyJ9 k) := by decide +kernel
abbrev cJ9_max_7cf53 : ByteArray := prog_13_method_65_code
def yJ9_max_7cf53 : MethodName := ⟨RJ9, "max", "(II)I"⟩
abbrev cJ9_min_7cf53 : ByteArray := prog_13_method_69_code
def yJ9_min_7cf53 : MethodName := ⟨RJ9, "min", "(II)I"⟩
def RJ0 : String := "java/lang/String"
def TJ0 : u_T := fun k => match k with
  | _ => ("", "", "", false)
def tyJ0 : Nat → FieldType := fun k => match k with
  | _ => .int
abbrev wsJ00 : List Cond := u_ws RJ0 TJ0 0
theorem nmJ0 : ∀ a, a < 0 → ∀ b, b < 0 → a ≠ b → (TJ0 a).2.1 ≠ (TJ0 b).2.1 := by decide +kernel
theorem tyJ0_ok : ∀ k, k < 0 → parseFieldDescriptor (TJ0 k).2.2.1 = some (tyJ0 k) := by decide +kernel
abbrev cJ0_length_8abf5 : ByteArray := prog_14_method_54_code
def yJ0_length_8abf5 : MethodName := ⟨RJ0, "length", "()I"⟩
abbrev cJ0_charAt_5068e : ByteArray := prog_14_method_56_code
def yJ0_charAt_5068e : MethodName := ⟨RJ0, "charAt", "(I)C"⟩
abbrev cJ0_coder_7d493 : ByteArray := prog_14_method_152_code
def yJ0_coder_7d493 : MethodName := ⟨RJ0, "coder", "()B"⟩
abbrev cJ0_isLatin1_aae02 : ByteArray := prog_14_method_154_code
def yJ0_isLatin1_aae02 : MethodName := ⟨RJ0, "isLatin1", "()Z"⟩
abbrev cJ0_checkIndex_df160 : ByteArray := prog_14_method_155_code
def yJ0_checkIndex_df160 : MethodName := ⟨RJ0, "checkIndex", "(II)V"⟩
def RJ1 : String := "java/lang/StringLatin1"
def TJ1 : u_T := fun k => match k with
  | _ => ("", "", "", false)
def tyJ1 : Nat → FieldType := fun k => match k with
  | _ => .int
abbrev wsJ10 : List Cond := u_ws RJ1 TJ1 0
theorem nmJ1 : ∀ a, a < 0 → ∀ b, b < 0 → a ≠ b → (TJ1 a).2.1 ≠ (TJ1 b).2.1 := by decide +kernel
theorem tyJ1_ok : ∀ k, k < 0 → parseFieldDescriptor (TJ1 k).2.2.1 = some (tyJ1 k) := by decide +kernel
abbrev cJ1_charAt_3b067 : ByteArray := prog_15_method_2_code
def yJ1_charAt_3b067 : MethodName := ⟨RJ1, "charAt", "([BI)C"⟩
def RJ2 : String := "java/lang/StringUTF16"
def TJ2 : u_T := fun k => match k with
  | _ => ("", "", "", false)
def tyJ2 : Nat → FieldType := fun k => match k with
  | _ => .int
abbrev wsJ20 : List Cond := u_ws RJ2 TJ2 0
theorem nmJ2 : ∀ a, a < 0 → ∀ b, b < 0 → a ≠ b → (TJ2 a).2.1 ≠ (TJ2 b).2.1 := by decide +kernel
theorem tyJ2_ok : ∀ k, k < 0 → parseFieldDescriptor (TJ2 k).2.2.1 = some (tyJ2 k) := by decide +kernel
abbrev cJ2_getChar_3b067 : ByteArray := prog_16_method_5_code
def yJ2_getChar_3b067 : MethodName := ⟨RJ2, "getChar", "([BI)C"⟩
abbrev cJ2_length_9d52b : ByteArray := prog_16_method_6_code
def yJ2_length_9d52b : MethodName := ⟨RJ2, "length", "([B)I"⟩
abbrev cJ2_charAt_3b067 : ByteArray := prog_16_method_83_code
def yJ2_charAt_3b067 : MethodName := ⟨RJ2, "charAt", "([BI)C"⟩
abbrev cJ2_checkIndex_2214a : ByteArray := prog_16_method_91_code
def yJ2_checkIndex_2214a : MethodName := ⟨RJ2, "checkIndex", "(I[B)V"⟩
def RJ10 : String := "java/lang/System"
def TJ10 : u_T := fun k => match k with
  | _ => ("", "", "", false)
def tyJ10 : Nat → FieldType := fun k => match k with
  | _ => .int
abbrev wsJ100 : List Cond := u_ws RJ10 TJ10 0
theorem nmJ10 : ∀ a, a < 0 → ∀ b, b < 0 → a ≠ b → (TJ10 a).2.1 ≠ (TJ10 b).2.1 := by decide +kernel
theorem tyJ10_ok : ∀ k, k < 0 → parseFieldDescriptor (TJ10 k).2.2.1 = some (tyJ10 k) := by decide +kernel
def RJxfd54e : String := "java/lang/constant/Constable"
def TJxfd54e : u_T := fun k => match k with
  | _ => ("", "", "", false)
def tyJxfd54e : Nat → FieldType := fun k => match k with
  | _ => .int
abbrev wsJxfd54e0 : List Cond := u_ws RJxfd54e TJxfd54e 0
theorem nmJxfd54e : ∀ a, a < 0 → ∀ b, b < 0 → a ≠ b → (TJxfd54e a).2.1 ≠ (TJxfd54e b).2.1 := by decide +kernel
theorem tyJxfd54e_ok : ∀ k, k < 0 → parseFieldDescriptor (TJxfd54e k).2.2.1 = some (tyJxfd54e k) := by decide +kernel
def RJx3cf43 : String := "java/lang/constant/ConstantDesc"
def TJx3cf43 : u_T := fun k => match k with
  | _ => ("", "", "", false)
def tyJx3cf43 : Nat → FieldType := fun k => match k with
  | _ => .int
abbrev wsJx3cf430 : List Cond := u_ws RJx3cf43 TJx3cf43 0
theorem nmJx3cf43 : ∀ a, a < 0 → ∀ b, b < 0 → a ≠ b → (TJx3cf43 a).2.1 ≠ (TJx3cf43 b).2.1 := by decide +kernel
theorem tyJx3cf43_ok : ∀ k, k < 0 → parseFieldDescriptor (TJx3cf43 k).2.2.1 = some (tyJx3cf43 k) := by decide +kernel
def RJ7 : String := "java/util/Arrays"
def TJ7 : u_T := fun k => match k with
  | _ => ("", "", "", false)
def tyJ7 : Nat → FieldType := fun k => match k with
  | _ => .int
abbrev wsJ70 : List Cond := u_ws RJ7 TJ7 0
theorem nmJ7 : ∀ a, a < 0 → ∀ b, b < 0 → a ≠ b → (TJ7 a).2.1 ≠ (TJ7 b).2.1 := by decide +kernel
theorem tyJ7_ok : ∀ k, k < 0 → parseFieldDescriptor (TJ7 k).2.2.1 = some (tyJ7 k) := by decide +kernel
abbrev cJ7_fill_d0a16 : ByteArray := prog_18_method_101_code
def yJ7_fill_d0a16 : MethodName := ⟨RJ7, "fill", "([JJ)V"⟩
abbrev cJ7_fill_53178 : ByteArray := prog_18_method_103_code
def yJ7_fill_53178 : MethodName := ⟨RJ7, "fill", "([II)V"⟩
abbrev cJ7_fill_7f8df : ByteArray := prog_18_method_113_code
def yJ7_fill_7f8df : MethodName := ⟨RJ7, "fill", "([DD)V"⟩
abbrev cJ7_copyOf_59c91 : ByteArray := prog_18_method_123_code
def yJ7_copyOf_59c91 : MethodName := ⟨RJ7, "copyOf", "([II)[I"⟩
def RJ3 : String := "jdk/internal/util/Preconditions"
def TJ3 : u_T := fun k => match k with
  | _ => ("", "", "", false)
def tyJ3 : Nat → FieldType := fun k => match k with
  | _ => .int
abbrev wsJ30 : List Cond := u_ws RJ3 TJ3 0
theorem nmJ3 : ∀ a, a < 0 → ∀ b, b < 0 → a ≠ b → (TJ3 a).2.1 ≠ (TJ3 b).2.1 := by decide +kernel
theorem tyJ3_ok : ∀ k, k < 0 → parseFieldDescriptor (TJ3 k).2.2.1 = some (tyJ3 k) := by decide +kernel
abbrev cJ3_checkIndex_8e157 : ByteArray := prog_19_method_11_code
def yJ3_checkIndex_8e157 : MethodName := ⟨RJ3, "checkIndex", "(IILjava/util/function/BiFunction;)I"⟩
def RL : String := "DialogueGamesLaw"
abbrev cL_law : ByteArray := code
def yL_law : MethodName := ⟨RL, "law", "([I)Z"⟩
abbrev vwCl : List vw_C := [(RX0, TX0, 9), (RX1, TX1, 6), (RX2, TX2, 7), (RX3, TX3, 2), (RX4, TX4, 12), (RX5, TX5, 5), (RX6, TX6, 6), (RX7, TX7, 2), (RX8, TX8, 7), (RX9, TX9, 35)]
/-! ===== END names ===== -/

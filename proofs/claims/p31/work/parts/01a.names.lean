/-! printed names (claim/NAMES.whole.lean.txt), without the word lists of single methods -/
theorem goodIn_r {big : List Cond} (ws : List Cond) (ps : List Nat) (hp : ws = ps.filterMap (fun i => big[i]?)) (h : ws.all goodWord = true) : GoodIn big ws := by
  intro w hw
  have h1 := List.all_eq_true.mp h w hw
  rw [hp] at hw
  obtain ⟨i, -, hi⟩ := List.mem_filterMap.mp hw
  have hm : w ∈ big := by first | exact List.mem_of_getElem? hi | exact List.getElem?_mem hi
  exact ⟨hm, good_of_word h1⟩
theorem goodIn_app {big a b : List Cond} (ha : GoodIn big a) (hb : GoodIn big b) : GoodIn big (a ++ b) := fun w h => (List.mem_append.mp h).elim (ha w) (hb w)
theorem goodIn_ca {big a b : List Cond} {c : Cond} (ha : GoodIn big (c :: a)) (hb : GoodIn big b) : GoodIn big (c :: (a ++ b)) := fun w h => (List.mem_cons.mp h).elim (fun e => ha w (List.mem_cons.mpr (Or.inl e))) (fun h => (List.mem_append.mp h).elim (fun h => ha w (List.mem_cons.mpr (Or.inr h))) (hb w))
theorem goodIn_sub {big ws : List Cond} (hm : ∀ w ∈ ws, w ∈ big) (h : ws.all goodWord = true) : GoodIn big ws := fun w hw => ⟨hm w hw, good_of_word (List.all_eq_true.mp h w hw)⟩
def RX0 : String := "ProverbCollection$Crossings"
def TX0 : u_T := fun k => match k with
  | 0 => ("ProverbCollection$Crossings", "front", "LProverbCollection$Sequence;", true)
  | 1 => ("ProverbCollection$Crossings", "back", "LProverbCollection$Sequence;", true)
  | 2 => ("ProverbCollection$Crossings", "order", "[I", true)
  | _ => ("ProverbCollection$Crossings", "apart", "[I", true)
def tyX0 : Nat → FieldType := fun k => match k with
  | 0 => .object "ProverbCollection$Sequence"
  | 1 => .object "ProverbCollection$Sequence"
  | 2 => .array .int
  | _ => .array .int
abbrev wsX00 : List Cond := u_ws RX0 TX0 4
theorem nmX0 : ∀ a, a < 4 → ∀ b, b < 4 → a ≠ b → (TX0 a).2.1 ≠ (TX0 b).2.1 := by decide +kernel
theorem tyX0_ok : ∀ k, k < 4 → parseFieldDescriptor (TX0 k).2.2.1 = some (tyX0 k) := by decide +kernel
abbrev cX0_init : ByteArray := prog_2_method_1_code
def yX0_init : MethodName := ⟨RX0, "<init>", "()V"⟩
def RX1 : String := "ProverbCollection$Edits"
def TX1 : u_T := fun k => match k with
  | 0 => ("ProverbCollection$Edits", "first", "LProverbCollection$Sequence;", true)
  | 1 => ("ProverbCollection$Edits", "second", "LProverbCollection$Sequence;", true)
  | 2 => ("ProverbCollection$Edits", "table", "[[I", true)
  | 3 => ("ProverbCollection$Edits", "list", "[I", true)
  | _ => ("ProverbCollection$Edits", "listed", "I", false)
def tyX1 : Nat → FieldType := fun k => match k with
  | 0 => .object "ProverbCollection$Sequence"
  | 1 => .object "ProverbCollection$Sequence"
  | 2 => .array (.array .int)
  | 3 => .array .int
  | _ => .int
abbrev wsX10 : List Cond := u_ws RX1 TX1 5
theorem nmX1 : ∀ a, a < 5 → ∀ b, b < 5 → a ≠ b → (TX1 a).2.1 ≠ (TX1 b).2.1 := by decide +kernel
theorem tyX1_ok : ∀ k, k < 5 → parseFieldDescriptor (TX1 k).2.2.1 = some (tyX1 k) := by decide +kernel
abbrev cX1_init : ByteArray := prog_3_method_1_code
def yX1_init : MethodName := ⟨RX1, "<init>", "()V"⟩
abbrev cX1_between : ByteArray := prog_3_method_2_code
def yX1_between : MethodName := ⟨RX1, "between", "(LProverbCollection$State;II)I"⟩
abbrev cX1_measure : ByteArray := prog_3_method_3_code
def yX1_measure : MethodName := ⟨RX1, "measure", "([I)I"⟩
abbrev cX1_by : ByteArray := prog_3_method_4_code
def yX1_by : MethodName := ⟨RX1, "by", "(III[I)I"⟩
abbrev cX1_replacing : ByteArray := prog_3_method_5_code
def yX1_replacing : MethodName := ⟨RX1, "replacing", "(II[I)I"⟩
abbrev cX1_swaps : ByteArray := prog_3_method_6_code
def yX1_swaps : MethodName := ⟨RX1, "swaps", "(II)Z"⟩
abbrev cX1_trace : ByteArray := prog_3_method_7_code
def yX1_trace : MethodName := ⟨RX1, "trace", "([I)V"⟩
abbrev cX1_lastStep : ByteArray := prog_3_method_8_code
def yX1_lastStep : MethodName := ⟨RX1, "lastStep", "(II[I)I"⟩
abbrev cX1_fromBeginning : ByteArray := prog_3_method_9_code
def yX1_fromBeginning : MethodName := ⟨RX1, "fromBeginning", "(I)I"⟩
def RX2 : String := "ProverbCollection$Groups"
def TX2 : u_T := fun k => match k with
  | 0 => ("ProverbCollection$Groups", "order", "[I", true)
  | 1 => ("ProverbCollection$Groups", "memberOf", "[I", true)
  | 2 => ("ProverbCollection$Groups", "centres", "[I", true)
  | _ => ("ProverbCollection$Groups", "count", "I", false)
def tyX2 : Nat → FieldType := fun k => match k with
  | 0 => .array .int
  | 1 => .array .int
  | 2 => .array .int
  | _ => .int
abbrev wsX20 : List Cond := u_ws RX2 TX2 4
theorem nmX2 : ∀ a, a < 4 → ∀ b, b < 4 → a ≠ b → (TX2 a).2.1 ≠ (TX2 b).2.1 := by decide +kernel
theorem tyX2_ok : ∀ k, k < 4 → parseFieldDescriptor (TX2 k).2.2.1 = some (tyX2 k) := by decide +kernel
abbrev cX2_init : ByteArray := prog_4_method_1_code
def yX2_init : MethodName := ⟨RX2, "<init>", "()V"⟩
abbrev cX2_form : ByteArray := prog_4_method_2_code
def yX2_form : MethodName := ⟨RX2, "form", "(LProverbCollection$State;LProverbCollection$Edits;)V"⟩
abbrev cX2_centre : ByteArray := prog_4_method_3_code
def yX2_centre : MethodName := ⟨RX2, "centre", "(I)I"⟩
abbrev cX2_members : ByteArray := prog_4_method_4_code
def yX2_members : MethodName := ⟨RX2, "members", "(LProverbCollection$State;I)I"⟩
abbrev cX2_regions : ByteArray := prog_4_method_5_code
def yX2_regions : MethodName := ⟨RX2, "regions", "(LProverbCollection$State;I)I"⟩
abbrev cX2_radius : ByteArray := prog_4_method_6_code
def yX2_radius : MethodName := ⟨RX2, "radius", "(LProverbCollection$State;LProverbCollection$Edits;I)I"⟩
def RX3 : String := "ProverbCollection$History"
def TX3 : u_T := fun k => match k with
  | 0 => ("ProverbCollection$History", "ring", "[LProverbCollection$State;", true)
  | 1 => ("ProverbCollection$History", "next", "I", false)
  | _ => ("ProverbCollection$History", "count", "I", false)
def tyX3 : Nat → FieldType := fun k => match k with
  | 0 => .array (.object "ProverbCollection$State")
  | 1 => .int
  | _ => .int
abbrev wsX30 : List Cond := u_ws RX3 TX3 3
theorem nmX3 : ∀ a, a < 3 → ∀ b, b < 3 → a ≠ b → (TX3 a).2.1 ≠ (TX3 b).2.1 := by decide +kernel
theorem tyX3_ok : ∀ k, k < 3 → parseFieldDescriptor (TX3 k).2.2.1 = some (tyX3 k) := by decide +kernel
abbrev cX3_init : ByteArray := prog_5_method_1_code
def yX3_init : MethodName := ⟨RX3, "<init>", "()V"⟩
abbrev cX3_keep : ByteArray := prog_5_method_2_code
def yX3_keep : MethodName := ⟨RX3, "keep", "(LProverbCollection$State;)V"⟩
abbrev cX3_restore : ByteArray := prog_5_method_3_code
def yX3_restore : MethodName := ⟨RX3, "restore", "(LProverbCollection$State;)V"⟩
def RX4 : String := "ProverbCollection$Matcher"
def TX4 : u_T := fun k => match k with
  | 0 => ("ProverbCollection$Matcher", "pattern", "LProverbCollection$Sequence;", true)
  | 1 => ("ProverbCollection$Matcher", "saying", "LProverbCollection$Sequence;", true)
  | 2 => ("ProverbCollection$Matcher", "slotWords", "[I", true)
  | 3 => ("ProverbCollection$Matcher", "firstWord", "[I", true)
  | _ => ("ProverbCollection$Matcher", "found", "I", false)
def tyX4 : Nat → FieldType := fun k => match k with
  | 0 => .object "ProverbCollection$Sequence"
  | 1 => .object "ProverbCollection$Sequence"
  | 2 => .array .int
  | 3 => .array .int
  | _ => .int
abbrev wsX40 : List Cond := u_ws RX4 TX4 5
theorem nmX4 : ∀ a, a < 5 → ∀ b, b < 5 → a ≠ b → (TX4 a).2.1 ≠ (TX4 b).2.1 := by decide +kernel
theorem tyX4_ok : ∀ k, k < 5 → parseFieldDescriptor (TX4 k).2.2.1 = some (tyX4 k) := by decide +kernel
abbrev cX4_init : ByteArray := prog_6_method_1_code
def yX4_init : MethodName := ⟨RX4, "<init>", "()V"⟩
def RX5 : String := "ProverbCollection$Sequence"
def TX5 : u_T := fun k => match k with
  | 0 => ("ProverbCollection$Sequence", "tokens", "[I", true)
  | _ => ("ProverbCollection$Sequence", "length", "I", false)
def tyX5 : Nat → FieldType := fun k => match k with
  | 0 => .array .int
  | _ => .int
abbrev wsX50 : List Cond := u_ws RX5 TX5 2
theorem nmX5 : ∀ a, a < 2 → ∀ b, b < 2 → a ≠ b → (TX5 a).2.1 ≠ (TX5 b).2.1 := by decide +kernel
theorem tyX5_ok : ∀ k, k < 2 → parseFieldDescriptor (TX5 k).2.2.1 = some (tyX5 k) := by decide +kernel
abbrev cX5_init : ByteArray := prog_7_method_1_code
def yX5_init : MethodName := ⟨RX5, "<init>", "()V"⟩
abbrev cX5_add : ByteArray := prog_7_method_2_code
def yX5_add : MethodName := ⟨RX5, "add", "(I)V"⟩
abbrev cX5_at : ByteArray := prog_7_method_4_code
def yX5_at : MethodName := ⟨RX5, "at", "(I)I"⟩
abbrev cX5_wordCount : ByteArray := prog_7_method_5_code
def yX5_wordCount : MethodName := ⟨RX5, "wordCount", "()I"⟩
def RX6 : String := "ProverbCollection$Shelf"
def TX6 : u_T := fun k => match k with
  | 0 => ("ProverbCollection$Shelf", "most", "I", true)
  | 1 => ("ProverbCollection$Shelf", "tokens", "[I", true)
  | 2 => ("ProverbCollection$Shelf", "lengths", "[I", true)
  | _ => ("ProverbCollection$Shelf", "count", "I", false)
def tyX6 : Nat → FieldType := fun k => match k with
  | 0 => .int
  | 1 => .array .int
  | 2 => .array .int
  | _ => .int
abbrev wsX60 : List Cond := u_ws RX6 TX6 4
theorem nmX6 : ∀ a, a < 4 → ∀ b, b < 4 → a ≠ b → (TX6 a).2.1 ≠ (TX6 b).2.1 := by decide +kernel
theorem tyX6_ok : ∀ k, k < 4 → parseFieldDescriptor (TX6 k).2.2.1 = some (tyX6 k) := by decide +kernel
abbrev cX6_init : ByteArray := prog_8_method_1_code
def yX6_init : MethodName := ⟨RX6, "<init>", "(I)V"⟩
abbrev cX6_isFull : ByteArray := prog_8_method_2_code
def yX6_isFull : MethodName := ⟨RX6, "isFull", "()Z"⟩
abbrev cX6_has : ByteArray := prog_8_method_3_code
def yX6_has : MethodName := ⟨RX6, "has", "(I)Z"⟩
abbrev cX6_size : ByteArray := prog_8_method_4_code
def yX6_size : MethodName := ⟨RX6, "size", "(I)I"⟩
abbrev cX6_token : ByteArray := prog_8_method_5_code
def yX6_token : MethodName := ⟨RX6, "token", "(II)I"⟩
abbrev cX6_add : ByteArray := prog_8_method_6_code
def yX6_add : MethodName := ⟨RX6, "add", "(LProverbCollection$Sequence;)I"⟩
abbrev cX6_drop : ByteArray := prog_8_method_7_code
def yX6_drop : MethodName := ⟨RX6, "drop", "(I)V"⟩
abbrev cX6_load : ByteArray := prog_8_method_8_code
def yX6_load : MethodName := ⟨RX6, "load", "(ILProverbCollection$Sequence;)V"⟩
abbrev cX6_copyFrom : ByteArray := prog_8_method_9_code
def yX6_copyFrom : MethodName := ⟨RX6, "copyFrom", "(LProverbCollection$Shelf;)V"⟩
def RX7 : String := "ProverbCollection$State"
def TX7 : u_T := fun k => match k with
  | 0 => ("ProverbCollection$State", "sayings", "LProverbCollection$Shelf;", true)
  | 1 => ("ProverbCollection$State", "years", "[I", true)
  | 2 => ("ProverbCollection$State", "regions", "[I", true)
  | 3 => ("ProverbCollection$State", "patterns", "LProverbCollection$Shelf;", true)
  | 4 => ("ProverbCollection$State", "costs", "[I", true)
  | _ => ("ProverbCollection$State", "limit", "I", false)
def tyX7 : Nat → FieldType := fun k => match k with
  | 0 => .object "ProverbCollection$Shelf"
  | 1 => .array .int
  | 2 => .array .int
  | 3 => .object "ProverbCollection$Shelf"
  | 4 => .array .int
  | _ => .int
abbrev wsX70 : List Cond := u_ws RX7 TX7 6
theorem nmX7 : ∀ a, a < 6 → ∀ b, b < 6 → a ≠ b → (TX7 a).2.1 ≠ (TX7 b).2.1 := by decide +kernel
theorem tyX7_ok : ∀ k, k < 6 → parseFieldDescriptor (TX7 k).2.2.1 = some (tyX7 k) := by decide +kernel
abbrev cX7_init : ByteArray := prog_9_method_1_code
def yX7_init : MethodName := ⟨RX7, "<init>", "()V"⟩
abbrev cX7_copyFrom : ByteArray := prog_9_method_2_code
def yX7_copyFrom : MethodName := ⟨RX7, "copyFrom", "(LProverbCollection$State;)V"⟩
abbrev cX7_takeSaying : ByteArray := prog_9_method_3_code
def yX7_takeSaying : MethodName := ⟨RX7, "takeSaying", "(LProverbCollection$Sequence;II)I"⟩
abbrev cX7_dropSaying : ByteArray := prog_9_method_4_code
def yX7_dropSaying : MethodName := ⟨RX7, "dropSaying", "(I)V"⟩
abbrev cX7_place : ByteArray := prog_9_method_5_code
def yX7_place : MethodName := ⟨RX7, "place", "(I)I"⟩
abbrev cX7_isOlder : ByteArray := prog_9_method_6_code
def yX7_isOlder : MethodName := ⟨RX7, "isOlder", "(II)Z"⟩
abbrev cX7_sortByAge : ByteArray := prog_9_method_7_code
def yX7_sortByAge : MethodName := ⟨RX7, "sortByAge", "([I)V"⟩
def RX8 : String := "ProverbCollection"
def TX8 : u_T := fun k => match k with
  | 0 => ("ProverbCollection", "buffer", "LProverbCollection$Sequence;", true)
  | 1 => ("ProverbCollection", "now", "LProverbCollection$State;", true)
  | 2 => ("ProverbCollection", "history", "LProverbCollection$History;", true)
  | 3 => ("ProverbCollection", "edits", "LProverbCollection$Edits;", true)
  | 4 => ("ProverbCollection", "matcher", "LProverbCollection$Matcher;", true)
  | 5 => ("ProverbCollection", "groups", "LProverbCollection$Groups;", true)
  | 6 => ("ProverbCollection", "crossings", "LProverbCollection$Crossings;", true)
  | _ => ("ProverbCollection", "ageOrder", "[I", true)
def tyX8 : Nat → FieldType := fun k => match k with
  | 0 => .object "ProverbCollection$Sequence"
  | 1 => .object "ProverbCollection$State"
  | 2 => .object "ProverbCollection$History"
  | 3 => .object "ProverbCollection$Edits"
  | 4 => .object "ProverbCollection$Matcher"
  | 5 => .object "ProverbCollection$Groups"
  | 6 => .object "ProverbCollection$Crossings"
  | _ => .array .int
abbrev wsX80 : List Cond := u_ws RX8 TX8 8
theorem nmX8 : ∀ a, a < 8 → ∀ b, b < 8 → a ≠ b → (TX8 a).2.1 ≠ (TX8 b).2.1 := by decide +kernel
theorem tyX8_ok : ∀ k, k < 8 → parseFieldDescriptor (TX8 k).2.2.1 = some (tyX8 k) := by decide +kernel
abbrev cX8_init : ByteArray := prog_1_method_1_code
def yX8_init : MethodName := ⟨RX8, "<init>", "()V"⟩
abbrev cX8_append : ByteArray := prog_1_method_2_code
def yX8_append : MethodName := ⟨RX8, "append", "(I)I"⟩
abbrev cX8_clear : ByteArray := prog_1_method_3_code
def yX8_clear : MethodName := ⟨RX8, "clear", "()I"⟩
abbrev cX8_addSaying : ByteArray := prog_1_method_4_code
def yX8_addSaying : MethodName := ⟨RX8, "addSaying", "(II)I"⟩
abbrev cX8_removeSaying : ByteArray := prog_1_method_5_code
def yX8_removeSaying : MethodName := ⟨RX8, "removeSaying", "(I)I"⟩
abbrev cX8_sayingCount : ByteArray := prog_1_method_6_code
def yX8_sayingCount : MethodName := ⟨RX8, "sayingCount", "()I"⟩
abbrev cX8_lengthOf : ByteArray := prog_1_method_7_code
def yX8_lengthOf : MethodName := ⟨RX8, "lengthOf", "(I)I"⟩
abbrev cX8_wordAt : ByteArray := prog_1_method_8_code
def yX8_wordAt : MethodName := ⟨RX8, "wordAt", "(II)I"⟩
abbrev cX8_byAge : ByteArray := prog_1_method_9_code
def yX8_byAge : MethodName := ⟨RX8, "byAge", "(I)I"⟩
abbrev cX8_setCost : ByteArray := prog_1_method_10_code
def yX8_setCost : MethodName := ⟨RX8, "setCost", "(II)I"⟩
abbrev cX8_distance : ByteArray := prog_1_method_11_code
def yX8_distance : MethodName := ⟨RX8, "distance", "(II)I"⟩
abbrev cX8_similarityBits : ByteArray := prog_1_method_12_code
def yX8_similarityBits : MethodName := ⟨RX8, "similarityBits", "(II)I"⟩
abbrev cX8_editCount : ByteArray := prog_1_method_13_code
def yX8_editCount : MethodName := ⟨RX8, "editCount", "(II)I"⟩
abbrev cX8_editAt : ByteArray := prog_1_method_14_code
def yX8_editAt : MethodName := ⟨RX8, "editAt", "(III)I"⟩
abbrev cX8_nearest : ByteArray := prog_1_method_15_code
def yX8_nearest : MethodName := ⟨RX8, "nearest", "(I)I"⟩
abbrev cX8_setLimit : ByteArray := prog_1_method_22_code
def yX8_setLimit : MethodName := ⟨RX8, "setLimit", "(I)I"⟩
abbrev cX8_groupCount : ByteArray := prog_1_method_23_code
def yX8_groupCount : MethodName := ⟨RX8, "groupCount", "()I"⟩
abbrev cX8_groupOf : ByteArray := prog_1_method_24_code
def yX8_groupOf : MethodName := ⟨RX8, "groupOf", "(I)I"⟩
abbrev cX8_centreOf : ByteArray := prog_1_method_25_code
def yX8_centreOf : MethodName := ⟨RX8, "centreOf", "(I)I"⟩
abbrev cX8_groupInfo : ByteArray := prog_1_method_26_code
def yX8_groupInfo : MethodName := ⟨RX8, "groupInfo", "(II)I"⟩
abbrev cX8_undo : ByteArray := prog_1_method_29_code
def yX8_undo : MethodName := ⟨RX8, "undo", "()I"⟩
abbrev cX8_hasBoth : ByteArray := prog_1_method_30_code
def yX8_hasBoth : MethodName := ⟨RX8, "hasBoth", "(II)Z"⟩
abbrev cX8_bitsOf : ByteArray := prog_1_method_31_code
def yX8_bitsOf : MethodName := ⟨RX8, "bitsOf", "(F)I"⟩
abbrev cX8_copyAll : ByteArray := prog_1_method_32_code
def yX8_copyAll : MethodName := ⟨RX8, "copyAll", "([I[I)V"⟩
abbrev cX8_closeUp : ByteArray := prog_1_method_33_code
def yX8_closeUp : MethodName := ⟨RX8, "closeUp", "([III)V"⟩
def RX9 : String := "ProverbCollectionModel"
def TX9 : u_T := fun k => match k with
  | _ => ("", "", "", false)
def tyX9 : Nat → FieldType := fun k => match k with
  | _ => .int
abbrev wsX90 : List Cond := u_ws RX9 TX9 0
theorem nmX9 : ∀ a, a < 0 → ∀ b, b < 0 → a ≠ b → (TX9 a).2.1 ≠ (TX9 b).2.1 := by decide +kernel
theorem tyX9_ok : ∀ k, k < 0 → parseFieldDescriptor (TX9 k).2.2.1 = some (tyX9 k) := by decide +kernel
def RJ6 : String := "java/lang/Integer"
def TJ6 : u_T := fun k => match k with
  | _ => ("", "", "", false)
def tyJ6 : Nat → FieldType := fun k => match k with
  | _ => .int
theorem nmJ6 : ∀ a, a < 0 → ∀ b, b < 0 → a ≠ b → (TJ6 a).2.1 ≠ (TJ6 b).2.1 := by decide +kernel
theorem tyJ6_ok : ∀ k, k < 0 → parseFieldDescriptor (TJ6 k).2.2.1 = some (tyJ6 k) := by decide +kernel
abbrev cJ6_bitCount_0f7a4 : ByteArray := prog_12_method_49_code
def yJ6_bitCount_0f7a4 : MethodName := ⟨RJ6, "bitCount", "(I)I"⟩
def RJ9 : String := "java/lang/Math"
def TJ9 : u_T := fun k => match k with
  | _ => ("", "", "", false)
def tyJ9 : Nat → FieldType := fun k => match k with
  | _ => .int
theorem nmJ9 : ∀ a, a < 0 → ∀ b, b < 0 → a ≠ b → (TJ9 a).2.1 ≠ (TJ9 b).2.1 := by decide +kernel
theorem tyJ9_ok : ∀ k, k < 0 → parseFieldDescriptor (TJ9 k).2.2.1 = some (tyJ9 k) := by decide +kernel
abbrev cJ9_max_7cf53 : ByteArray := prog_13_method_65_code
def yJ9_max_7cf53 : MethodName := ⟨RJ9, "max", "(II)I"⟩
abbrev cJ9_min_7cf53 : ByteArray := prog_13_method_69_code
def yJ9_min_7cf53 : MethodName := ⟨RJ9, "min", "(II)I"⟩
def RJ10 : String := "java/lang/System"
def TJ10 : u_T := fun k => match k with
  | _ => ("", "", "", false)
def tyJ10 : Nat → FieldType := fun k => match k with
  | _ => .int
theorem nmJ10 : ∀ a, a < 0 → ∀ b, b < 0 → a ≠ b → (TJ10 a).2.1 ≠ (TJ10 b).2.1 := by decide +kernel
theorem tyJ10_ok : ∀ k, k < 0 → parseFieldDescriptor (TJ10 k).2.2.1 = some (tyJ10 k) := by decide +kernel
def RL : String := "ProverbCollectionLaw"
abbrev cL_cell : ByteArray := method_2_code
def yL_cell : MethodName := ⟨RL, "cell", "([II)I"⟩
abbrev cL_adds : ByteArray := method_3_code
def yL_adds : MethodName := ⟨RL, "adds", "(LProverbCollection;II)Z"⟩
abbrev cL_exchange : ByteArray := method_4_code
def yL_exchange : MethodName := ⟨RL, "exchange", "([III)I"⟩
abbrev cL_isEdited : ByteArray := method_5_code
def yL_isEdited : MethodName := ⟨RL, "isEdited", "(LProverbCollection;[III)Z"⟩
abbrev cL_isWhole : ByteArray := method_6_code
def yL_isWhole : MethodName := ⟨RL, "isWhole", "(LProverbCollection;[I)Z"⟩
abbrev cL_areGroups : ByteArray := method_7_code
def yL_areGroups : MethodName := ⟨RL, "areGroups", "(LProverbCollection;I)Z"⟩
abbrev cL_law : ByteArray := code
def yL_law : MethodName := ⟨RL, "law", "([I)Z"⟩
def wsL_cell : List Cond := .code yL_cell cL_cell 2 (some .int) :: ([.constant RL 7 (15485599), .constant RL 8 (2147483647)])
def wsL_adds_r1 : List Cond := [Cond.methodLink RL 9 yX8_clear, Cond.instanceMethod yX8_clear, Cond.selects RX8 yX8_clear yX8_clear, Cond.initialized RX8, Cond.code yX8_clear cX8_clear 2 (some .int), Cond.fieldLink RX8 10 "ProverbCollection" "buffer" "LProverbCollection$Sequence;", Cond.methodLink RL 15 yX8_append, Cond.instanceMethod yX8_append, Cond.selects RX8 yX8_append yX8_append, Cond.code yX8_append cX8_append 2 (some .int), Cond.instanceMethod yX5_add, Cond.initialized RX5, Cond.selects RX5 yX5_add yX5_add, Cond.code yX5_add cX5_add 2 none, Cond.fieldLink RX5 15 "ProverbCollection$Sequence" "length" "I", Cond.fieldLink RX5 9 "ProverbCollection$Sequence" "tokens" "[I", Cond.methodLink RL 19 yX8_sayingCount, Cond.instanceMethod yX8_sayingCount, Cond.selects RX8 yX8_sayingCount yX8_sayingCount, Cond.code yX8_sayingCount cX8_sayingCount 1 (some .int), Cond.fieldLink RX8 19 "ProverbCollection" "now" "LProverbCollection$State;", Cond.methodLink RL 22 yX8_addSaying, Cond.instanceMethod yX8_addSaying, Cond.selects RX8 yX8_addSaying yX8_addSaying]
def wsL_adds_r2 : List Cond := [Cond.code yX8_addSaying cX8_addSaying 4 (some .int), Cond.fieldLink RX8 26 "ProverbCollection" "history" "LProverbCollection$History;", Cond.instanceMethod yX5_wordCount, Cond.selects RX5 yX5_wordCount yX5_wordCount, Cond.code yX5_wordCount cX5_wordCount 3 (some .int), Cond.instanceMethod yX6_isFull, Cond.initialized RX6, Cond.selects RX6 yX6_isFull yX6_isFull, Cond.code yX6_isFull cX6_isFull 1 (some .boolean), Cond.fieldLink RX6 22 "ProverbCollection$Shelf" "count" "I", Cond.fieldLink RX6 9 "ProverbCollection$Shelf" "most" "I", Cond.instanceMethod yX3_keep, Cond.initialized RX3, Cond.selects RX3 yX3_keep yX3_keep, Cond.code yX3_keep cX3_keep 2 none, Cond.fieldLink RX3 18 "ProverbCollection$History" "next" "I", Cond.fieldLink RX3 11 "ProverbCollection$History" "ring" "[LProverbCollection$State;", Cond.fieldLink RX3 26 "ProverbCollection$History" "count" "I", Cond.methodLink RX3 29 Lib.Math.min.name, Cond.static Lib.Math.min.name, Cond.initialized "java/lang/Math", Cond.code Lib.Math.min.name Lib.Math.min.code 2 (some .int), Cond.instanceMethod yX7_copyFrom, Cond.initialized RX7]
def wsL_adds_r3 : List Cond := [Cond.selects RX7 yX7_copyFrom yX7_copyFrom, Cond.code yX7_copyFrom cX7_copyFrom 2 none, Cond.fieldLink RX7 14 "ProverbCollection$State" "sayings" "LProverbCollection$Shelf;", Cond.fieldLink RX7 20 "ProverbCollection$State" "years" "[I", Cond.fieldLink RX7 24 "ProverbCollection$State" "regions" "[I", Cond.fieldLink RX7 27 "ProverbCollection$State" "patterns" "LProverbCollection$Shelf;", Cond.fieldLink RX7 30 "ProverbCollection$State" "costs" "[I", Cond.fieldLink RX7 33 "ProverbCollection$State" "limit" "I", Cond.instanceMethod yX6_copyFrom, Cond.selects RX6 yX6_copyFrom yX6_copyFrom, Cond.code yX6_copyFrom cX6_copyFrom 2 none, Cond.fieldLink RX6 15 "ProverbCollection$Shelf" "tokens" "[I", Cond.fieldLink RX6 19 "ProverbCollection$Shelf" "lengths" "[I", Cond.static yX8_copyAll, Cond.code yX8_copyAll cX8_copyAll 2 none, Cond.methodLink RX8 200 Lib.Math.min.name, Cond.methodLink RX8 203 arraycopyName, Cond.native arraycopyName, Cond.static arraycopyName, Cond.initialized "java/lang/System", Cond.instanceMethod yX7_takeSaying, Cond.selects RX7 yX7_takeSaying yX7_takeSaying, Cond.code yX7_takeSaying cX7_takeSaying 5 (some .int), Cond.instanceMethod yX6_add]
def wsL_adds_r4 : List Cond := [Cond.selects RX6 yX6_add yX6_add, Cond.code yX6_add cX6_add 4 (some .int), Cond.instanceMethod yX5_at, Cond.selects RX5 yX5_at yX5_at, Cond.code yX5_at cX5_at 2 (some .int), Cond.instanceMethod yX6_has, Cond.selects RX6 yX6_has yX6_has, Cond.code yX6_has cX6_has 2 (some .boolean), Cond.methodLink RL 26 yX8_lengthOf, Cond.instanceMethod yX8_lengthOf, Cond.selects RX8 yX8_lengthOf yX8_lengthOf, Cond.code yX8_lengthOf cX8_lengthOf 2 (some .int), Cond.instanceMethod yX6_size, Cond.selects RX6 yX6_size yX6_size, Cond.code yX6_size cX6_size 2 (some .int), Cond.methodLink RX6 25 yX6_has]
def wsL_adds : List Cond := .code yL_adds cL_adds 6 (some .boolean) :: ((wsL_adds_r1 ++ (wsL_adds_r2 ++ (wsL_adds_r3 ++ wsL_adds_r4))) ++ wsX80 ++ wsX50 ++ wsX70 ++ wsX60 ++ wsX30)
def wsL_exchange : List Cond := .code yL_exchange cL_exchange 3 (some .int) :: ([])
def wsL_isEdited_r1 : List Cond := [Cond.methodLink RL 29 yX8_editCount, Cond.instanceMethod yX8_editCount, Cond.selects RX8 yX8_editCount yX8_editCount, Cond.initialized RX8, Cond.code yX8_editCount cX8_editCount 3 (some .int), Cond.fieldLink RX8 33 "ProverbCollection" "edits" "LProverbCollection$Edits;", Cond.fieldLink RX8 19 "ProverbCollection" "now" "LProverbCollection$State;", Cond.methodLink RX8 117 yX8_hasBoth, Cond.instanceMethod yX8_hasBoth, Cond.selects RX8 yX8_hasBoth yX8_hasBoth, Cond.code yX8_hasBoth cX8_hasBoth 3 (some .boolean), Cond.instanceMethod yX6_has, Cond.initialized RX6, Cond.selects RX6 yX6_has yX6_has, Cond.code yX6_has cX6_has 2 (some .boolean), Cond.fieldLink RX6 22 "ProverbCollection$Shelf" "count" "I", Cond.instanceMethod yX1_between, Cond.initialized RX1, Cond.selects RX1 yX1_between yX1_between, Cond.code yX1_between cX1_between 4 (some .int), Cond.fieldLink RX1 12 "ProverbCollection$Edits" "first" "LProverbCollection$Sequence;", Cond.fieldLink RX1 18 "ProverbCollection$Edits" "second" "LProverbCollection$Sequence;", Cond.instanceMethod yX6_load, Cond.selects RX6 yX6_load yX6_load]
def wsL_isEdited_r2 : List Cond := [Cond.code yX6_load cX6_load 4 none, Cond.methodLink RX6 42 yX6_size, Cond.instanceMethod yX6_size, Cond.selects RX6 yX6_size yX6_size, Cond.code yX6_size cX6_size 2 (some .int), Cond.fieldLink RX6 19 "ProverbCollection$Shelf" "lengths" "[I", Cond.methodLink RX6 25 yX6_has, Cond.methodLink RX6 45 yX6_token, Cond.instanceMethod yX6_token, Cond.selects RX6 yX6_token yX6_token, Cond.code yX6_token cX6_token 3 (some .int), Cond.fieldLink RX6 15 "ProverbCollection$Shelf" "tokens" "[I", Cond.instanceMethod yX5_add, Cond.initialized RX5, Cond.selects RX5 yX5_add yX5_add, Cond.code yX5_add cX5_add 2 none, Cond.fieldLink RX5 15 "ProverbCollection$Sequence" "length" "I", Cond.fieldLink RX5 9 "ProverbCollection$Sequence" "tokens" "[I", Cond.methodLink RX1 45 yX1_measure, Cond.instanceMethod yX1_measure, Cond.selects RX1 yX1_measure yX1_measure, Cond.code yX1_measure cX1_measure 6 (some .int), Cond.constant RX1 53 (1000000), Cond.methodLink RX1 58 Lib.Math.min.name]
def wsL_isEdited_r3 : List Cond := [Cond.static Lib.Math.min.name, Cond.initialized "java/lang/Math", Cond.code Lib.Math.min.name Lib.Math.min.code 2 (some .int), Cond.fieldLink RX1 23 "ProverbCollection$Edits" "table" "[[I", Cond.methodLink RX1 54 yX1_by, Cond.instanceMethod yX1_by, Cond.selects RX1 yX1_by yX1_by, Cond.code yX1_by cX1_by 5 (some .int), Cond.methodLink RX1 64 yX1_replacing, Cond.instanceMethod yX1_replacing, Cond.selects RX1 yX1_replacing yX1_replacing, Cond.code yX1_replacing cX1_replacing 7 (some .int), Cond.instanceMethod yX5_at, Cond.selects RX5 yX5_at yX5_at, Cond.code yX5_at cX5_at 2 (some .int), Cond.methodLink RX1 68 yX1_swaps, Cond.instanceMethod yX1_swaps, Cond.selects RX1 yX1_swaps yX1_swaps, Cond.code yX1_swaps cX1_swaps 3 (some .boolean), Cond.instanceMethod yX1_trace, Cond.selects RX1 yX1_trace yX1_trace, Cond.code yX1_trace cX1_trace 7 none, Cond.fieldLink RX1 76 "ProverbCollection$Edits" "listed" "I", Cond.fieldLink RX1 26 "ProverbCollection$Edits" "list" "[I"]
def wsL_isEdited_r4 : List Cond := [Cond.methodLink RX1 79 yX1_lastStep, Cond.instanceMethod yX1_lastStep, Cond.selects RX1 yX1_lastStep yX1_lastStep, Cond.code yX1_lastStep cX1_lastStep 6 (some .int), Cond.methodLink RL 32 yX8_editAt, Cond.instanceMethod yX8_editAt, Cond.selects RX8 yX8_editAt yX8_editAt, Cond.code yX8_editAt cX8_editAt 4 (some .int), Cond.instanceMethod yX1_fromBeginning, Cond.selects RX1 yX1_fromBeginning yX1_fromBeginning, Cond.code yX1_fromBeginning cX1_fromBeginning 2 (some .int), Cond.methodLink RL 26 yX8_lengthOf, Cond.instanceMethod yX8_lengthOf, Cond.selects RX8 yX8_lengthOf yX8_lengthOf, Cond.code yX8_lengthOf cX8_lengthOf 2 (some .int), Cond.methodLink RL 36 yX8_wordAt, Cond.instanceMethod yX8_wordAt, Cond.selects RX8 yX8_wordAt yX8_wordAt, Cond.code yX8_wordAt cX8_wordAt 3 (some .int), Cond.methodLink RL 39 yL_exchange, Cond.static yL_exchange, Cond.initialized RL, Cond.code yL_exchange cL_exchange 3 (some .int), Cond.methodLink RL 45 yX8_distance]
def wsL_isEdited_r5 : List Cond := [Cond.instanceMethod yX8_distance, Cond.selects RX8 yX8_distance yX8_distance, Cond.code yX8_distance cX8_distance 3 (some .int)]
def wsL_isEdited : List Cond := .code yL_isEdited cL_isEdited 14 (some .boolean) :: ((wsL_isEdited_r1 ++ (wsL_isEdited_r2 ++ (wsL_isEdited_r3 ++ (wsL_isEdited_r4 ++ wsL_isEdited_r5)))) ++ wsX80 ++ wsX70 ++ wsX10 ++ wsX60 ++ wsX50)
def wsL_areGroups_r1 : List Cond := [Cond.methodLink RL 65 yX8_setLimit, Cond.instanceMethod yX8_setLimit, Cond.selects RX8 yX8_setLimit yX8_setLimit, Cond.initialized RX8, Cond.code yX8_setLimit cX8_setLimit 3 (some .int), Cond.fieldLink RX8 26 "ProverbCollection" "history" "LProverbCollection$History;", Cond.fieldLink RX8 19 "ProverbCollection" "now" "LProverbCollection$State;", Cond.instanceMethod yX3_keep, Cond.initialized RX3, Cond.selects RX3 yX3_keep yX3_keep, Cond.code yX3_keep cX3_keep 2 none, Cond.fieldLink RX3 18 "ProverbCollection$History" "next" "I", Cond.fieldLink RX3 11 "ProverbCollection$History" "ring" "[LProverbCollection$State;", Cond.fieldLink RX3 26 "ProverbCollection$History" "count" "I", Cond.methodLink RX3 29 Lib.Math.min.name, Cond.static Lib.Math.min.name, Cond.initialized "java/lang/Math", Cond.code Lib.Math.min.name Lib.Math.min.code 2 (some .int), Cond.instanceMethod yX7_copyFrom, Cond.initialized RX7, Cond.selects RX7 yX7_copyFrom yX7_copyFrom, Cond.code yX7_copyFrom cX7_copyFrom 2 none, Cond.fieldLink RX7 14 "ProverbCollection$State" "sayings" "LProverbCollection$Shelf;", Cond.fieldLink RX7 20 "ProverbCollection$State" "years" "[I"]
def wsL_areGroups_r2 : List Cond := [Cond.fieldLink RX7 24 "ProverbCollection$State" "regions" "[I", Cond.fieldLink RX7 27 "ProverbCollection$State" "patterns" "LProverbCollection$Shelf;", Cond.fieldLink RX7 30 "ProverbCollection$State" "costs" "[I", Cond.fieldLink RX7 33 "ProverbCollection$State" "limit" "I", Cond.instanceMethod yX6_copyFrom, Cond.initialized RX6, Cond.selects RX6 yX6_copyFrom yX6_copyFrom, Cond.code yX6_copyFrom cX6_copyFrom 2 none, Cond.fieldLink RX6 15 "ProverbCollection$Shelf" "tokens" "[I", Cond.fieldLink RX6 19 "ProverbCollection$Shelf" "lengths" "[I", Cond.fieldLink RX6 22 "ProverbCollection$Shelf" "count" "I", Cond.static yX8_copyAll, Cond.code yX8_copyAll cX8_copyAll 2 none, Cond.methodLink RX8 200 Lib.Math.min.name, Cond.methodLink RX8 203 arraycopyName, Cond.native arraycopyName, Cond.static arraycopyName, Cond.initialized "java/lang/System", Cond.methodLink RL 68 yX8_undo, Cond.instanceMethod yX8_undo, Cond.selects RX8 yX8_undo yX8_undo, Cond.code yX8_undo cX8_undo 1 (some .int), Cond.instanceMethod yX3_restore, Cond.selects RX3 yX3_restore yX3_restore]
def wsL_areGroups_r3 : List Cond := [Cond.code yX3_restore cX3_restore 2 none, Cond.methodLink RL 71 yX8_groupCount, Cond.instanceMethod yX8_groupCount, Cond.selects RX8 yX8_groupCount yX8_groupCount, Cond.code yX8_groupCount cX8_groupCount 1 (some .int), Cond.fieldLink RX8 47 "ProverbCollection" "groups" "LProverbCollection$Groups;", Cond.fieldLink RX8 33 "ProverbCollection" "edits" "LProverbCollection$Edits;", Cond.instanceMethod yX2_form, Cond.initialized RX2, Cond.selects RX2 yX2_form yX2_form, Cond.code yX2_form cX2_form 7 none, Cond.fieldLink RX2 21 "ProverbCollection$Groups" "count" "I", Cond.fieldLink RX2 15 "ProverbCollection$Groups" "memberOf" "[I", Cond.fieldLink RX2 9 "ProverbCollection$Groups" "order" "[I", Cond.fieldLink RX2 18 "ProverbCollection$Groups" "centres" "[I", Cond.instanceMethod yX7_sortByAge, Cond.selects RX7 yX7_sortByAge yX7_sortByAge, Cond.code yX7_sortByAge cX7_sortByAge 4 none, Cond.methodLink RX7 67 yX7_place, Cond.instanceMethod yX7_place, Cond.selects RX7 yX7_place yX7_place, Cond.code yX7_place cX7_place 4 (some .int), Cond.methodLink RX7 63 yX7_isOlder, Cond.instanceMethod yX7_isOlder]
def wsL_areGroups_r4 : List Cond := [Cond.selects RX7 yX7_isOlder yX7_isOlder, Cond.code yX7_isOlder cX7_isOlder 3 (some .boolean), Cond.instanceMethod yX6_has, Cond.selects RX6 yX6_has yX6_has, Cond.code yX6_has cX6_has 2 (some .boolean), Cond.instanceMethod yX1_between, Cond.initialized RX1, Cond.selects RX1 yX1_between yX1_between, Cond.code yX1_between cX1_between 4 (some .int), Cond.fieldLink RX1 12 "ProverbCollection$Edits" "first" "LProverbCollection$Sequence;", Cond.fieldLink RX1 18 "ProverbCollection$Edits" "second" "LProverbCollection$Sequence;", Cond.instanceMethod yX6_load, Cond.selects RX6 yX6_load yX6_load, Cond.code yX6_load cX6_load 4 none, Cond.methodLink RX6 42 yX6_size, Cond.instanceMethod yX6_size, Cond.selects RX6 yX6_size yX6_size, Cond.code yX6_size cX6_size 2 (some .int), Cond.methodLink RX6 25 yX6_has, Cond.methodLink RX6 45 yX6_token, Cond.instanceMethod yX6_token, Cond.selects RX6 yX6_token yX6_token, Cond.code yX6_token cX6_token 3 (some .int), Cond.instanceMethod yX5_add]
def wsL_areGroups_r5 : List Cond := [Cond.initialized RX5, Cond.selects RX5 yX5_add yX5_add, Cond.code yX5_add cX5_add 2 none, Cond.fieldLink RX5 15 "ProverbCollection$Sequence" "length" "I", Cond.fieldLink RX5 9 "ProverbCollection$Sequence" "tokens" "[I", Cond.methodLink RX1 45 yX1_measure, Cond.instanceMethod yX1_measure, Cond.selects RX1 yX1_measure yX1_measure, Cond.code yX1_measure cX1_measure 6 (some .int), Cond.constant RX1 53 (1000000), Cond.methodLink RX1 58 Lib.Math.min.name, Cond.fieldLink RX1 23 "ProverbCollection$Edits" "table" "[[I", Cond.methodLink RX1 54 yX1_by, Cond.instanceMethod yX1_by, Cond.selects RX1 yX1_by yX1_by, Cond.code yX1_by cX1_by 5 (some .int), Cond.methodLink RX1 64 yX1_replacing, Cond.instanceMethod yX1_replacing, Cond.selects RX1 yX1_replacing yX1_replacing, Cond.code yX1_replacing cX1_replacing 7 (some .int), Cond.instanceMethod yX5_at, Cond.selects RX5 yX5_at yX5_at, Cond.code yX5_at cX5_at 2 (some .int), Cond.methodLink RX1 68 yX1_swaps]
def wsL_areGroups_r6 : List Cond := [Cond.instanceMethod yX1_swaps, Cond.selects RX1 yX1_swaps yX1_swaps, Cond.code yX1_swaps cX1_swaps 3 (some .boolean), Cond.methodLink RL 74 yX8_centreOf, Cond.instanceMethod yX8_centreOf, Cond.selects RX8 yX8_centreOf yX8_centreOf, Cond.code yX8_centreOf cX8_centreOf 2 (some .int), Cond.instanceMethod yX2_centre, Cond.selects RX2 yX2_centre yX2_centre, Cond.code yX2_centre cX2_centre 2 (some .int), Cond.methodLink RL 77 yX8_groupInfo, Cond.instanceMethod yX8_groupInfo, Cond.selects RX8 yX8_groupInfo yX8_groupInfo, Cond.code yX8_groupInfo cX8_groupInfo 3 (some .int), Cond.instanceMethod yX2_members, Cond.selects RX2 yX2_members yX2_members, Cond.code yX2_members cX2_members 5 (some .int), Cond.instanceMethod yX2_regions, Cond.selects RX2 yX2_regions yX2_regions, Cond.code yX2_regions cX2_regions 5 (some .int), Cond.methodLink RX2 54 yJ6_bitCount_0f7a4, Cond.static yJ6_bitCount_0f7a4, Cond.initialized RJ6, Cond.code yJ6_bitCount_0f7a4 cJ6_bitCount_0f7a4 1 (some .int)]
def wsL_areGroups_r7 : List Cond := [Cond.constant RJ6 265 (1431655765), Cond.constant RJ6 266 (858993459), Cond.constant RJ6 267 (252645135), Cond.instanceMethod yX2_radius, Cond.selects RX2 yX2_radius yX2_radius, Cond.code yX2_radius cX2_radius 6 (some .int), Cond.methodLink RX2 63 Lib.Math.max.name, Cond.static Lib.Math.max.name, Cond.code Lib.Math.max.name Lib.Math.max.code 2 (some .int), Cond.methodLink RX2 60 yX2_centre, Cond.methodLink RL 80 yX8_groupOf, Cond.instanceMethod yX8_groupOf, Cond.selects RX8 yX8_groupOf yX8_groupOf, Cond.code yX8_groupOf cX8_groupOf 2 (some .int), Cond.methodLink RL 45 yX8_distance, Cond.instanceMethod yX8_distance, Cond.selects RX8 yX8_distance yX8_distance, Cond.code yX8_distance cX8_distance 3 (some .int), Cond.methodLink RX8 117 yX8_hasBoth, Cond.instanceMethod yX8_hasBoth, Cond.selects RX8 yX8_hasBoth yX8_hasBoth, Cond.code yX8_hasBoth cX8_hasBoth 3 (some .boolean)]
def wsL_areGroups : List Cond := .code yL_areGroups cL_areGroups 9 (some .boolean) :: ((wsL_areGroups_r1 ++ (wsL_areGroups_r2 ++ (wsL_areGroups_r3 ++ (wsL_areGroups_r4 ++ (wsL_areGroups_r5 ++ (wsL_areGroups_r6 ++ wsL_areGroups_r7)))))) ++ wsX80 ++ wsX70 ++ wsX30 ++ wsX60 ++ wsX20 ++ wsX10 ++ wsX50)
def wsL_isWhole_r1 : List Cond := [Cond.methodLink RL 19 yX8_sayingCount, Cond.instanceMethod yX8_sayingCount, Cond.selects RX8 yX8_sayingCount yX8_sayingCount, Cond.initialized RX8, Cond.code yX8_sayingCount cX8_sayingCount 1 (some .int), Cond.fieldLink RX8 19 "ProverbCollection" "now" "LProverbCollection$State;", Cond.methodLink RL 48 yX8_byAge, Cond.instanceMethod yX8_byAge, Cond.selects RX8 yX8_byAge yX8_byAge, Cond.code yX8_byAge cX8_byAge 2 (some .int), Cond.fieldLink RX8 58 "ProverbCollection" "ageOrder" "[I", Cond.instanceMethod yX7_sortByAge, Cond.initialized RX7, Cond.selects RX7 yX7_sortByAge yX7_sortByAge, Cond.code yX7_sortByAge cX7_sortByAge 4 none, Cond.fieldLink RX7 14 "ProverbCollection$State" "sayings" "LProverbCollection$Shelf;", Cond.methodLink RX7 67 yX7_place, Cond.instanceMethod yX7_place, Cond.selects RX7 yX7_place yX7_place, Cond.code yX7_place cX7_place 4 (some .int), Cond.methodLink RX7 63 yX7_isOlder, Cond.instanceMethod yX7_isOlder, Cond.selects RX7 yX7_isOlder yX7_isOlder, Cond.code yX7_isOlder cX7_isOlder 3 (some .boolean)]
def wsL_isWhole_r2 : List Cond := [Cond.fieldLink RX7 20 "ProverbCollection$State" "years" "[I", Cond.instanceMethod yX6_has, Cond.initialized RX6, Cond.selects RX6 yX6_has yX6_has, Cond.code yX6_has cX6_has 2 (some .boolean), Cond.fieldLink RX6 22 "ProverbCollection$Shelf" "count" "I", Cond.methodLink RL 45 yX8_distance, Cond.instanceMethod yX8_distance, Cond.selects RX8 yX8_distance yX8_distance, Cond.code yX8_distance cX8_distance 3 (some .int), Cond.fieldLink RX8 33 "ProverbCollection" "edits" "LProverbCollection$Edits;", Cond.methodLink RX8 117 yX8_hasBoth, Cond.instanceMethod yX8_hasBoth, Cond.selects RX8 yX8_hasBoth yX8_hasBoth, Cond.code yX8_hasBoth cX8_hasBoth 3 (some .boolean), Cond.instanceMethod yX1_between, Cond.initialized RX1, Cond.selects RX1 yX1_between yX1_between, Cond.code yX1_between cX1_between 4 (some .int), Cond.fieldLink RX1 12 "ProverbCollection$Edits" "first" "LProverbCollection$Sequence;", Cond.fieldLink RX1 18 "ProverbCollection$Edits" "second" "LProverbCollection$Sequence;", Cond.instanceMethod yX6_load, Cond.selects RX6 yX6_load yX6_load, Cond.code yX6_load cX6_load 4 none]
def wsL_isWhole_r3 : List Cond := [Cond.methodLink RX6 42 yX6_size, Cond.instanceMethod yX6_size, Cond.selects RX6 yX6_size yX6_size, Cond.code yX6_size cX6_size 2 (some .int), Cond.fieldLink RX6 19 "ProverbCollection$Shelf" "lengths" "[I", Cond.methodLink RX6 25 yX6_has, Cond.methodLink RX6 45 yX6_token, Cond.instanceMethod yX6_token, Cond.selects RX6 yX6_token yX6_token, Cond.code yX6_token cX6_token 3 (some .int), Cond.fieldLink RX6 15 "ProverbCollection$Shelf" "tokens" "[I", Cond.instanceMethod yX5_add, Cond.initialized RX5, Cond.selects RX5 yX5_add yX5_add, Cond.code yX5_add cX5_add 2 none, Cond.fieldLink RX5 15 "ProverbCollection$Sequence" "length" "I", Cond.fieldLink RX5 9 "ProverbCollection$Sequence" "tokens" "[I", Cond.methodLink RX1 45 yX1_measure, Cond.instanceMethod yX1_measure, Cond.selects RX1 yX1_measure yX1_measure, Cond.code yX1_measure cX1_measure 6 (some .int), Cond.constant RX1 53 (1000000), Cond.methodLink RX1 58 Lib.Math.min.name, Cond.static Lib.Math.min.name]
def wsL_isWhole_r4 : List Cond := [Cond.initialized "java/lang/Math", Cond.code Lib.Math.min.name Lib.Math.min.code 2 (some .int), Cond.fieldLink RX1 23 "ProverbCollection$Edits" "table" "[[I", Cond.methodLink RX1 54 yX1_by, Cond.instanceMethod yX1_by, Cond.selects RX1 yX1_by yX1_by, Cond.code yX1_by cX1_by 5 (some .int), Cond.methodLink RX1 64 yX1_replacing, Cond.instanceMethod yX1_replacing, Cond.selects RX1 yX1_replacing yX1_replacing, Cond.code yX1_replacing cX1_replacing 7 (some .int), Cond.instanceMethod yX5_at, Cond.selects RX5 yX5_at yX5_at, Cond.code yX5_at cX5_at 2 (some .int), Cond.methodLink RX1 68 yX1_swaps, Cond.instanceMethod yX1_swaps, Cond.selects RX1 yX1_swaps yX1_swaps, Cond.code yX1_swaps cX1_swaps 3 (some .boolean), Cond.methodLink RL 26 yX8_lengthOf, Cond.instanceMethod yX8_lengthOf, Cond.selects RX8 yX8_lengthOf yX8_lengthOf, Cond.code yX8_lengthOf cX8_lengthOf 2 (some .int), Cond.methodLink RL 29 yX8_editCount, Cond.instanceMethod yX8_editCount]
def wsL_isWhole_r5 : List Cond := [Cond.selects RX8 yX8_editCount yX8_editCount, Cond.code yX8_editCount cX8_editCount 3 (some .int), Cond.instanceMethod yX1_trace, Cond.selects RX1 yX1_trace yX1_trace, Cond.code yX1_trace cX1_trace 7 none, Cond.fieldLink RX1 76 "ProverbCollection$Edits" "listed" "I", Cond.fieldLink RX1 26 "ProverbCollection$Edits" "list" "[I", Cond.methodLink RX1 79 yX1_lastStep, Cond.instanceMethod yX1_lastStep, Cond.selects RX1 yX1_lastStep yX1_lastStep, Cond.code yX1_lastStep cX1_lastStep 6 (some .int), Cond.methodLink RL 51 yL_isEdited, Cond.static yL_isEdited, Cond.initialized RL, Cond.code yL_isEdited cL_isEdited 14 (some .boolean), Cond.methodLink RL 32 yX8_editAt, Cond.instanceMethod yX8_editAt, Cond.selects RX8 yX8_editAt yX8_editAt, Cond.code yX8_editAt cX8_editAt 4 (some .int), Cond.instanceMethod yX1_fromBeginning, Cond.selects RX1 yX1_fromBeginning yX1_fromBeginning, Cond.code yX1_fromBeginning cX1_fromBeginning 2 (some .int), Cond.methodLink RL 36 yX8_wordAt, Cond.instanceMethod yX8_wordAt]
def wsL_isWhole_r6 : List Cond := [Cond.selects RX8 yX8_wordAt yX8_wordAt, Cond.code yX8_wordAt cX8_wordAt 3 (some .int), Cond.methodLink RL 39 yL_exchange, Cond.static yL_exchange, Cond.code yL_exchange cL_exchange 3 (some .int), Cond.methodLink RL 55 yX8_similarityBits, Cond.instanceMethod yX8_similarityBits, Cond.selects RX8 yX8_similarityBits yX8_similarityBits, Cond.code yX8_similarityBits cX8_similarityBits 6 (some .int), Cond.methodLink RX8 125 Lib.Math.max.name, Cond.static Lib.Math.max.name, Cond.code Lib.Math.max.name Lib.Math.max.code 2 (some .int), Cond.methodLink RX8 130 yX8_bitsOf, Cond.static yX8_bitsOf, Cond.code yX8_bitsOf cX8_bitsOf 3 (some .int), Cond.constantFloat RX8 199 (1258291200), Cond.methodLink RL 58 yX8_nearest, Cond.instanceMethod yX8_nearest, Cond.selects RX8 yX8_nearest yX8_nearest, Cond.code yX8_nearest cX8_nearest 7 (some .int), Cond.constant RX8 143 (1000000), Cond.methodLink RL 61 yL_areGroups, Cond.static yL_areGroups, Cond.code yL_areGroups cL_areGroups 9 (some .boolean)]
def wsL_isWhole_r7 : List Cond := [Cond.methodLink RL 65 yX8_setLimit, Cond.instanceMethod yX8_setLimit, Cond.selects RX8 yX8_setLimit yX8_setLimit, Cond.code yX8_setLimit cX8_setLimit 3 (some .int), Cond.fieldLink RX8 26 "ProverbCollection" "history" "LProverbCollection$History;", Cond.instanceMethod yX3_keep, Cond.initialized RX3, Cond.selects RX3 yX3_keep yX3_keep, Cond.code yX3_keep cX3_keep 2 none, Cond.fieldLink RX3 18 "ProverbCollection$History" "next" "I", Cond.fieldLink RX3 11 "ProverbCollection$History" "ring" "[LProverbCollection$State;", Cond.fieldLink RX3 26 "ProverbCollection$History" "count" "I", Cond.methodLink RX3 29 Lib.Math.min.name, Cond.instanceMethod yX7_copyFrom, Cond.selects RX7 yX7_copyFrom yX7_copyFrom, Cond.code yX7_copyFrom cX7_copyFrom 2 none, Cond.fieldLink RX7 24 "ProverbCollection$State" "regions" "[I", Cond.fieldLink RX7 27 "ProverbCollection$State" "patterns" "LProverbCollection$Shelf;", Cond.fieldLink RX7 30 "ProverbCollection$State" "costs" "[I", Cond.fieldLink RX7 33 "ProverbCollection$State" "limit" "I", Cond.instanceMethod yX6_copyFrom, Cond.selects RX6 yX6_copyFrom yX6_copyFrom, Cond.code yX6_copyFrom cX6_copyFrom 2 none, Cond.static yX8_copyAll]
def wsL_isWhole_r8 : List Cond := [Cond.code yX8_copyAll cX8_copyAll 2 none, Cond.methodLink RX8 200 Lib.Math.min.name, Cond.methodLink RX8 203 arraycopyName, Cond.native arraycopyName, Cond.static arraycopyName, Cond.initialized "java/lang/System", Cond.methodLink RL 68 yX8_undo, Cond.instanceMethod yX8_undo, Cond.selects RX8 yX8_undo yX8_undo, Cond.code yX8_undo cX8_undo 1 (some .int), Cond.instanceMethod yX3_restore, Cond.selects RX3 yX3_restore yX3_restore, Cond.code yX3_restore cX3_restore 2 none, Cond.methodLink RL 71 yX8_groupCount, Cond.instanceMethod yX8_groupCount, Cond.selects RX8 yX8_groupCount yX8_groupCount, Cond.code yX8_groupCount cX8_groupCount 1 (some .int), Cond.fieldLink RX8 47 "ProverbCollection" "groups" "LProverbCollection$Groups;", Cond.instanceMethod yX2_form, Cond.initialized RX2, Cond.selects RX2 yX2_form yX2_form, Cond.code yX2_form cX2_form 7 none, Cond.fieldLink RX2 21 "ProverbCollection$Groups" "count" "I", Cond.fieldLink RX2 15 "ProverbCollection$Groups" "memberOf" "[I"]
def wsL_isWhole_r9 : List Cond := [Cond.fieldLink RX2 9 "ProverbCollection$Groups" "order" "[I", Cond.fieldLink RX2 18 "ProverbCollection$Groups" "centres" "[I", Cond.methodLink RL 74 yX8_centreOf, Cond.instanceMethod yX8_centreOf, Cond.selects RX8 yX8_centreOf yX8_centreOf, Cond.code yX8_centreOf cX8_centreOf 2 (some .int), Cond.instanceMethod yX2_centre, Cond.selects RX2 yX2_centre yX2_centre, Cond.code yX2_centre cX2_centre 2 (some .int), Cond.methodLink RL 77 yX8_groupInfo, Cond.instanceMethod yX8_groupInfo, Cond.selects RX8 yX8_groupInfo yX8_groupInfo, Cond.code yX8_groupInfo cX8_groupInfo 3 (some .int), Cond.instanceMethod yX2_members, Cond.selects RX2 yX2_members yX2_members, Cond.code yX2_members cX2_members 5 (some .int), Cond.instanceMethod yX2_regions, Cond.selects RX2 yX2_regions yX2_regions, Cond.code yX2_regions cX2_regions 5 (some .int), Cond.methodLink RX2 54 yJ6_bitCount_0f7a4, Cond.static yJ6_bitCount_0f7a4, Cond.initialized RJ6, Cond.code yJ6_bitCount_0f7a4 cJ6_bitCount_0f7a4 1 (some .int), Cond.constant RJ6 265 (1431655765)]
def wsL_isWhole_r10 : List Cond := [Cond.constant RJ6 266 (858993459), Cond.constant RJ6 267 (252645135), Cond.instanceMethod yX2_radius, Cond.selects RX2 yX2_radius yX2_radius, Cond.code yX2_radius cX2_radius 6 (some .int), Cond.methodLink RX2 63 Lib.Math.max.name, Cond.methodLink RX2 60 yX2_centre, Cond.methodLink RL 80 yX8_groupOf, Cond.instanceMethod yX8_groupOf, Cond.selects RX8 yX8_groupOf yX8_groupOf, Cond.code yX8_groupOf cX8_groupOf 2 (some .int)]
def wsL_isWhole : List Cond := .code yL_isWhole cL_isWhole 10 (some .boolean) :: ((wsL_isWhole_r1 ++ (wsL_isWhole_r2 ++ (wsL_isWhole_r3 ++ (wsL_isWhole_r4 ++ (wsL_isWhole_r5 ++ (wsL_isWhole_r6 ++ (wsL_isWhole_r7 ++ (wsL_isWhole_r8 ++ (wsL_isWhole_r9 ++ wsL_isWhole_r10))))))))) ++ wsX80 ++ wsX70 ++ wsX60 ++ wsX10 ++ wsX50 ++ wsX30 ++ wsX20)
def wsL_law_r1 : List Cond := [Cond.arrayClass .int, Cond.classLink RL 10 RX8, Cond.instantiable RX8 8, Cond.initialized RX8, Cond.methodLink RL 83 yX8_init, Cond.instanceMethod yX8_init, Cond.code yX8_init cX8_init 1 none, Cond.methodLink RX8 1 objectInit, Cond.instanceMethod objectInit, Cond.code objectInit ⟨#[0xb1]⟩ 1 none, Cond.classLink RX8 7 RX5, Cond.instantiable RX5 2, Cond.initialized RX5, Cond.fieldLink RX8 10 "ProverbCollection" "buffer" "LProverbCollection$Sequence;", Cond.classLink RX8 16 RX7, Cond.instantiable RX7 6, Cond.initialized RX7, Cond.fieldLink RX8 19 "ProverbCollection" "now" "LProverbCollection$State;", Cond.classLink RX8 23 RX3, Cond.instantiable RX3 3, Cond.initialized RX3, Cond.fieldLink RX8 26 "ProverbCollection" "history" "LProverbCollection$History;", Cond.classLink RX8 30 RX1, Cond.instantiable RX1 5]
def wsL_law_r2 : List Cond := [Cond.initialized RX1, Cond.fieldLink RX8 33 "ProverbCollection" "edits" "LProverbCollection$Edits;", Cond.classLink RX8 37 RX4, Cond.instantiable RX4 5, Cond.initialized RX4, Cond.fieldLink RX8 40 "ProverbCollection" "matcher" "LProverbCollection$Matcher;", Cond.classLink RX8 44 RX2, Cond.instantiable RX2 4, Cond.initialized RX2, Cond.fieldLink RX8 47 "ProverbCollection" "groups" "LProverbCollection$Groups;", Cond.classLink RX8 51 RX0, Cond.instantiable RX0 4, Cond.initialized RX0, Cond.fieldLink RX8 54 "ProverbCollection" "crossings" "LProverbCollection$Crossings;", Cond.fieldLink RX8 58 "ProverbCollection" "ageOrder" "[I", Cond.instanceMethod yX5_init, Cond.code yX5_init cX5_init 1 none, Cond.methodLink RX5 3 objectInit, Cond.fieldLink RX5 9 "ProverbCollection$Sequence" "tokens" "[I", Cond.instanceMethod yX7_init, Cond.code yX7_init cX7_init 1 none, Cond.methodLink RX7 3 objectInit, Cond.classLink RX7 9 RX6, Cond.instantiable RX6 4]
def wsL_law_r3 : List Cond := [Cond.initialized RX6, Cond.fieldLink RX7 14 "ProverbCollection$State" "sayings" "LProverbCollection$Shelf;", Cond.fieldLink RX7 20 "ProverbCollection$State" "years" "[I", Cond.fieldLink RX7 24 "ProverbCollection$State" "regions" "[I", Cond.fieldLink RX7 27 "ProverbCollection$State" "patterns" "LProverbCollection$Shelf;", Cond.fieldLink RX7 30 "ProverbCollection$State" "costs" "[I", Cond.fieldLink RX7 33 "ProverbCollection$State" "limit" "I", Cond.instanceMethod yX6_init, Cond.code yX6_init cX6_init 2 none, Cond.methodLink RX6 3 objectInit, Cond.fieldLink RX6 9 "ProverbCollection$Shelf" "most" "I", Cond.fieldLink RX6 15 "ProverbCollection$Shelf" "tokens" "[I", Cond.fieldLink RX6 19 "ProverbCollection$Shelf" "lengths" "[I", Cond.instanceMethod yX3_init, Cond.code yX3_init cX3_init 2 none, Cond.methodLink RX3 3 objectInit, Cond.classLink RX3 9 RX7, Cond.fieldLink RX3 11 "ProverbCollection$History" "ring" "[LProverbCollection$State;", Cond.instanceMethod yX1_init, Cond.code yX1_init cX1_init 1 none, Cond.methodLink RX1 3 objectInit, Cond.classLink RX1 9 RX5, Cond.fieldLink RX1 12 "ProverbCollection$Edits" "first" "LProverbCollection$Sequence;", Cond.fieldLink RX1 18 "ProverbCollection$Edits" "second" "LProverbCollection$Sequence;"]
def wsL_law_r4 : List Cond := [Cond.classLink RX1 21 "[[I", Cond.fieldLink RX1 23 "ProverbCollection$Edits" "table" "[[I", Cond.fieldLink RX1 26 "ProverbCollection$Edits" "list" "[I", Cond.instanceMethod yX4_init, Cond.code yX4_init cX4_init 1 none, Cond.methodLink RX4 3 objectInit, Cond.classLink RX4 9 RX5, Cond.fieldLink RX4 12 "ProverbCollection$Matcher" "pattern" "LProverbCollection$Sequence;", Cond.fieldLink RX4 18 "ProverbCollection$Matcher" "saying" "LProverbCollection$Sequence;", Cond.fieldLink RX4 21 "ProverbCollection$Matcher" "slotWords" "[I", Cond.fieldLink RX4 25 "ProverbCollection$Matcher" "firstWord" "[I", Cond.instanceMethod yX2_init, Cond.code yX2_init cX2_init 1 none, Cond.methodLink RX2 3 objectInit, Cond.fieldLink RX2 9 "ProverbCollection$Groups" "order" "[I", Cond.fieldLink RX2 15 "ProverbCollection$Groups" "memberOf" "[I", Cond.fieldLink RX2 18 "ProverbCollection$Groups" "centres" "[I", Cond.instanceMethod yX0_init, Cond.code yX0_init cX0_init 1 none, Cond.methodLink RX0 3 objectInit, Cond.classLink RX0 9 RX5, Cond.fieldLink RX0 12 "ProverbCollection$Crossings" "front" "LProverbCollection$Sequence;", Cond.fieldLink RX0 18 "ProverbCollection$Crossings" "back" "LProverbCollection$Sequence;", Cond.fieldLink RX0 21 "ProverbCollection$Crossings" "order" "[I"]
def wsL_law_r5 : List Cond := [Cond.fieldLink RX0 25 "ProverbCollection$Crossings" "apart" "[I", Cond.methodLink RL 68 yX8_undo, Cond.instanceMethod yX8_undo, Cond.selects RX8 yX8_undo yX8_undo, Cond.code yX8_undo cX8_undo 1 (some .int), Cond.instanceMethod yX3_restore, Cond.selects RX3 yX3_restore yX3_restore, Cond.code yX3_restore cX3_restore 2 none, Cond.fieldLink RX3 18 "ProverbCollection$History" "next" "I", Cond.fieldLink RX3 26 "ProverbCollection$History" "count" "I", Cond.instanceMethod yX7_copyFrom, Cond.selects RX7 yX7_copyFrom yX7_copyFrom, Cond.code yX7_copyFrom cX7_copyFrom 2 none, Cond.instanceMethod yX6_copyFrom, Cond.selects RX6 yX6_copyFrom yX6_copyFrom, Cond.code yX6_copyFrom cX6_copyFrom 2 none, Cond.fieldLink RX6 22 "ProverbCollection$Shelf" "count" "I", Cond.static yX8_copyAll, Cond.code yX8_copyAll cX8_copyAll 2 none, Cond.methodLink RX8 200 Lib.Math.min.name, Cond.static Lib.Math.min.name, Cond.initialized "java/lang/Math", Cond.code Lib.Math.min.name Lib.Math.min.code 2 (some .int), Cond.methodLink RX8 203 arraycopyName]
def wsL_law_r6 : List Cond := [Cond.native arraycopyName, Cond.static arraycopyName, Cond.initialized "java/lang/System", Cond.methodLink RL 19 yX8_sayingCount, Cond.instanceMethod yX8_sayingCount, Cond.selects RX8 yX8_sayingCount yX8_sayingCount, Cond.code yX8_sayingCount cX8_sayingCount 1 (some .int), Cond.methodLink RL 71 yX8_groupCount, Cond.instanceMethod yX8_groupCount, Cond.selects RX8 yX8_groupCount yX8_groupCount, Cond.code yX8_groupCount cX8_groupCount 1 (some .int), Cond.instanceMethod yX2_form, Cond.selects RX2 yX2_form yX2_form, Cond.code yX2_form cX2_form 7 none, Cond.fieldLink RX2 21 "ProverbCollection$Groups" "count" "I", Cond.instanceMethod yX7_sortByAge, Cond.selects RX7 yX7_sortByAge yX7_sortByAge, Cond.code yX7_sortByAge cX7_sortByAge 4 none, Cond.methodLink RX7 67 yX7_place, Cond.instanceMethod yX7_place, Cond.selects RX7 yX7_place yX7_place, Cond.code yX7_place cX7_place 4 (some .int), Cond.methodLink RX7 63 yX7_isOlder, Cond.instanceMethod yX7_isOlder]
def wsL_law_r7 : List Cond := [Cond.selects RX7 yX7_isOlder yX7_isOlder, Cond.code yX7_isOlder cX7_isOlder 3 (some .boolean), Cond.instanceMethod yX6_has, Cond.selects RX6 yX6_has yX6_has, Cond.code yX6_has cX6_has 2 (some .boolean), Cond.instanceMethod yX1_between, Cond.selects RX1 yX1_between yX1_between, Cond.code yX1_between cX1_between 4 (some .int), Cond.instanceMethod yX6_load, Cond.selects RX6 yX6_load yX6_load, Cond.code yX6_load cX6_load 4 none, Cond.methodLink RX6 42 yX6_size, Cond.instanceMethod yX6_size, Cond.selects RX6 yX6_size yX6_size, Cond.code yX6_size cX6_size 2 (some .int), Cond.methodLink RX6 25 yX6_has, Cond.methodLink RX6 45 yX6_token, Cond.instanceMethod yX6_token, Cond.selects RX6 yX6_token yX6_token, Cond.code yX6_token cX6_token 3 (some .int), Cond.instanceMethod yX5_add, Cond.selects RX5 yX5_add yX5_add, Cond.code yX5_add cX5_add 2 none, Cond.fieldLink RX5 15 "ProverbCollection$Sequence" "length" "I"]
def wsL_law_r8 : List Cond := [Cond.methodLink RX1 45 yX1_measure, Cond.instanceMethod yX1_measure, Cond.selects RX1 yX1_measure yX1_measure, Cond.code yX1_measure cX1_measure 6 (some .int), Cond.constant RX1 53 (1000000), Cond.methodLink RX1 58 Lib.Math.min.name, Cond.methodLink RX1 54 yX1_by, Cond.instanceMethod yX1_by, Cond.selects RX1 yX1_by yX1_by, Cond.code yX1_by cX1_by 5 (some .int), Cond.methodLink RX1 64 yX1_replacing, Cond.instanceMethod yX1_replacing, Cond.selects RX1 yX1_replacing yX1_replacing, Cond.code yX1_replacing cX1_replacing 7 (some .int), Cond.instanceMethod yX5_at, Cond.selects RX5 yX5_at yX5_at, Cond.code yX5_at cX5_at 2 (some .int), Cond.methodLink RX1 68 yX1_swaps, Cond.instanceMethod yX1_swaps, Cond.selects RX1 yX1_swaps yX1_swaps, Cond.code yX1_swaps cX1_swaps 3 (some .boolean), Cond.methodLink RL 48 yX8_byAge, Cond.instanceMethod yX8_byAge, Cond.selects RX8 yX8_byAge yX8_byAge]
def wsL_law_r9 : List Cond := [Cond.code yX8_byAge cX8_byAge 2 (some .int), Cond.methodLink RL 84 yL_cell, Cond.static yL_cell, Cond.initialized RL, Cond.code yL_cell cL_cell 2 (some .int), Cond.constant RL 7 (15485599), Cond.constant RL 8 (2147483647), Cond.methodLink RL 88 yL_adds, Cond.static yL_adds, Cond.code yL_adds cL_adds 6 (some .boolean), Cond.methodLink RL 9 yX8_clear, Cond.instanceMethod yX8_clear, Cond.selects RX8 yX8_clear yX8_clear, Cond.code yX8_clear cX8_clear 2 (some .int), Cond.methodLink RL 15 yX8_append, Cond.instanceMethod yX8_append, Cond.selects RX8 yX8_append yX8_append, Cond.code yX8_append cX8_append 2 (some .int), Cond.methodLink RL 22 yX8_addSaying, Cond.instanceMethod yX8_addSaying, Cond.selects RX8 yX8_addSaying yX8_addSaying, Cond.code yX8_addSaying cX8_addSaying 4 (some .int), Cond.instanceMethod yX5_wordCount, Cond.selects RX5 yX5_wordCount yX5_wordCount]
def wsL_law_r10 : List Cond := [Cond.code yX5_wordCount cX5_wordCount 3 (some .int), Cond.instanceMethod yX6_isFull, Cond.selects RX6 yX6_isFull yX6_isFull, Cond.code yX6_isFull cX6_isFull 1 (some .boolean), Cond.instanceMethod yX3_keep, Cond.selects RX3 yX3_keep yX3_keep, Cond.code yX3_keep cX3_keep 2 none, Cond.methodLink RX3 29 Lib.Math.min.name, Cond.instanceMethod yX7_takeSaying, Cond.selects RX7 yX7_takeSaying yX7_takeSaying, Cond.code yX7_takeSaying cX7_takeSaying 5 (some .int), Cond.instanceMethod yX6_add, Cond.selects RX6 yX6_add yX6_add, Cond.code yX6_add cX6_add 4 (some .int), Cond.methodLink RL 26 yX8_lengthOf, Cond.instanceMethod yX8_lengthOf, Cond.selects RX8 yX8_lengthOf yX8_lengthOf, Cond.code yX8_lengthOf cX8_lengthOf 2 (some .int), Cond.methodLink RL 92 yX8_setCost, Cond.instanceMethod yX8_setCost, Cond.selects RX8 yX8_setCost yX8_setCost, Cond.code yX8_setCost cX8_setCost 4 (some .int), Cond.methodLink RL 65 yX8_setLimit, Cond.instanceMethod yX8_setLimit]
def wsL_law_r11 : List Cond := [Cond.selects RX8 yX8_setLimit yX8_setLimit, Cond.code yX8_setLimit cX8_setLimit 3 (some .int), Cond.methodLink RL 95 yX8_removeSaying, Cond.instanceMethod yX8_removeSaying, Cond.selects RX8 yX8_removeSaying yX8_removeSaying, Cond.code yX8_removeSaying cX8_removeSaying 2 (some .int), Cond.instanceMethod yX7_dropSaying, Cond.selects RX7 yX7_dropSaying yX7_dropSaying, Cond.code yX7_dropSaying cX7_dropSaying 2 none, Cond.instanceMethod yX6_drop, Cond.selects RX6 yX6_drop yX6_drop, Cond.code yX6_drop cX6_drop 2 none, Cond.static yX8_closeUp, Cond.code yX8_closeUp cX8_closeUp 4 none, Cond.methodLink RL 98 yL_isWhole, Cond.static yL_isWhole, Cond.code yL_isWhole cL_isWhole 10 (some .boolean), Cond.methodLink RL 45 yX8_distance, Cond.instanceMethod yX8_distance, Cond.selects RX8 yX8_distance yX8_distance, Cond.code yX8_distance cX8_distance 3 (some .int), Cond.methodLink RX8 117 yX8_hasBoth, Cond.instanceMethod yX8_hasBoth, Cond.selects RX8 yX8_hasBoth yX8_hasBoth]
def wsL_law_r12 : List Cond := [Cond.code yX8_hasBoth cX8_hasBoth 3 (some .boolean), Cond.methodLink RL 29 yX8_editCount, Cond.instanceMethod yX8_editCount, Cond.selects RX8 yX8_editCount yX8_editCount, Cond.code yX8_editCount cX8_editCount 3 (some .int), Cond.instanceMethod yX1_trace, Cond.selects RX1 yX1_trace yX1_trace, Cond.code yX1_trace cX1_trace 7 none, Cond.fieldLink RX1 76 "ProverbCollection$Edits" "listed" "I", Cond.methodLink RX1 79 yX1_lastStep, Cond.instanceMethod yX1_lastStep, Cond.selects RX1 yX1_lastStep yX1_lastStep, Cond.code yX1_lastStep cX1_lastStep 6 (some .int), Cond.methodLink RL 51 yL_isEdited, Cond.static yL_isEdited, Cond.code yL_isEdited cL_isEdited 14 (some .boolean), Cond.methodLink RL 32 yX8_editAt, Cond.instanceMethod yX8_editAt, Cond.selects RX8 yX8_editAt yX8_editAt, Cond.code yX8_editAt cX8_editAt 4 (some .int), Cond.instanceMethod yX1_fromBeginning, Cond.selects RX1 yX1_fromBeginning yX1_fromBeginning, Cond.code yX1_fromBeginning cX1_fromBeginning 2 (some .int), Cond.methodLink RL 36 yX8_wordAt]
def wsL_law_r13 : List Cond := [Cond.instanceMethod yX8_wordAt, Cond.selects RX8 yX8_wordAt yX8_wordAt, Cond.code yX8_wordAt cX8_wordAt 3 (some .int), Cond.methodLink RL 39 yL_exchange, Cond.static yL_exchange, Cond.code yL_exchange cL_exchange 3 (some .int), Cond.methodLink RL 55 yX8_similarityBits, Cond.instanceMethod yX8_similarityBits, Cond.selects RX8 yX8_similarityBits yX8_similarityBits, Cond.code yX8_similarityBits cX8_similarityBits 6 (some .int), Cond.methodLink RX8 125 Lib.Math.max.name, Cond.static Lib.Math.max.name, Cond.code Lib.Math.max.name Lib.Math.max.code 2 (some .int), Cond.methodLink RX8 130 yX8_bitsOf, Cond.static yX8_bitsOf, Cond.code yX8_bitsOf cX8_bitsOf 3 (some .int), Cond.constantFloat RX8 199 (1258291200), Cond.methodLink RL 58 yX8_nearest, Cond.instanceMethod yX8_nearest, Cond.selects RX8 yX8_nearest yX8_nearest, Cond.code yX8_nearest cX8_nearest 7 (some .int), Cond.constant RX8 143 (1000000), Cond.methodLink RL 61 yL_areGroups, Cond.static yL_areGroups]
def wsL_law_r14 : List Cond := [Cond.code yL_areGroups cL_areGroups 9 (some .boolean), Cond.methodLink RL 74 yX8_centreOf, Cond.instanceMethod yX8_centreOf, Cond.selects RX8 yX8_centreOf yX8_centreOf, Cond.code yX8_centreOf cX8_centreOf 2 (some .int), Cond.instanceMethod yX2_centre, Cond.selects RX2 yX2_centre yX2_centre, Cond.code yX2_centre cX2_centre 2 (some .int), Cond.methodLink RL 77 yX8_groupInfo, Cond.instanceMethod yX8_groupInfo, Cond.selects RX8 yX8_groupInfo yX8_groupInfo, Cond.code yX8_groupInfo cX8_groupInfo 3 (some .int), Cond.instanceMethod yX2_members, Cond.selects RX2 yX2_members yX2_members, Cond.code yX2_members cX2_members 5 (some .int), Cond.instanceMethod yX2_regions, Cond.selects RX2 yX2_regions yX2_regions, Cond.code yX2_regions cX2_regions 5 (some .int), Cond.methodLink RX2 54 yJ6_bitCount_0f7a4, Cond.static yJ6_bitCount_0f7a4, Cond.initialized RJ6, Cond.code yJ6_bitCount_0f7a4 cJ6_bitCount_0f7a4 1 (some .int), Cond.constant RJ6 265 (1431655765), Cond.constant RJ6 266 (858993459)]
def wsL_law_r15 : List Cond := [Cond.constant RJ6 267 (252645135), Cond.instanceMethod yX2_radius, Cond.selects RX2 yX2_radius yX2_radius, Cond.code yX2_radius cX2_radius 6 (some .int), Cond.methodLink RX2 63 Lib.Math.max.name, Cond.methodLink RX2 60 yX2_centre, Cond.methodLink RL 80 yX8_groupOf, Cond.instanceMethod yX8_groupOf, Cond.selects RX8 yX8_groupOf yX8_groupOf, Cond.code yX8_groupOf cX8_groupOf 2 (some .int)]
def wsL_law : List Cond := (wsL_law_r1 ++ (wsL_law_r2 ++ (wsL_law_r3 ++ (wsL_law_r4 ++ (wsL_law_r5 ++ (wsL_law_r6 ++ (wsL_law_r7 ++ (wsL_law_r8 ++ (wsL_law_r9 ++ (wsL_law_r10 ++ (wsL_law_r11 ++ (wsL_law_r12 ++ (wsL_law_r13 ++ (wsL_law_r14 ++ wsL_law_r15)))))))))))))) ++ wsX80 ++ wsX50 ++ wsX70 ++ wsX30 ++ wsX10 ++ wsX40 ++ wsX20 ++ wsX00 ++ wsX60 ++ ([] : List Cond)
theorem inlX0 : ∀ w ∈ wsX00, w ∈ wsL_law := fun _ h => List.mem_append_left _ (List.mem_append_left _ (List.mem_append_right _ h))
theorem inlX1 : ∀ w ∈ wsX10, w ∈ wsL_law := fun _ h => List.mem_append_left _ (List.mem_append_left _ (List.mem_append_left _ (List.mem_append_left _ (List.mem_append_left _ (List.mem_append_right _ h)))))
theorem inlX2 : ∀ w ∈ wsX20, w ∈ wsL_law := fun _ h => List.mem_append_left _ (List.mem_append_left _ (List.mem_append_left _ (List.mem_append_right _ h)))
theorem inlX3 : ∀ w ∈ wsX30, w ∈ wsL_law := fun _ h => List.mem_append_left _ (List.mem_append_left _ (List.mem_append_left _ (List.mem_append_left _ (List.mem_append_left _ (List.mem_append_left _ (List.mem_append_right _ h))))))
theorem inlX4 : ∀ w ∈ wsX40, w ∈ wsL_law := fun _ h => List.mem_append_left _ (List.mem_append_left _ (List.mem_append_left _ (List.mem_append_left _ (List.mem_append_right _ h))))
theorem inlX5 : ∀ w ∈ wsX50, w ∈ wsL_law := fun _ h => List.mem_append_left _ (List.mem_append_left _ (List.mem_append_left _ (List.mem_append_left _ (List.mem_append_left _ (List.mem_append_left _ (List.mem_append_left _ (List.mem_append_left _ (List.mem_append_right _ h))))))))
theorem inlX6 : ∀ w ∈ wsX60, w ∈ wsL_law := fun _ h => List.mem_append_left _ (List.mem_append_right _ h)
theorem inlX7 : ∀ w ∈ wsX70, w ∈ wsL_law := fun _ h => List.mem_append_left _ (List.mem_append_left _ (List.mem_append_left _ (List.mem_append_left _ (List.mem_append_left _ (List.mem_append_left _ (List.mem_append_left _ (List.mem_append_right _ h)))))))
theorem inlX8 : ∀ w ∈ wsX80, w ∈ wsL_law := fun _ h => List.mem_append_left _ (List.mem_append_left _ (List.mem_append_left _ (List.mem_append_left _ (List.mem_append_left _ (List.mem_append_left _ (List.mem_append_left _ (List.mem_append_left _ (List.mem_append_left _ (List.mem_append_right _ h)))))))))
abbrev vwCl : List vw_C := [(RX0, TX0, 4), (RX1, TX1, 5), (RX2, TX2, 4), (RX3, TX3, 3), (RX4, TX4, 5), (RX5, TX5, 2), (RX6, TX6, 4), (RX7, TX7, 6), (RX8, TX8, 8)]

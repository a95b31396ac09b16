/-! printed names (claim/NAMES.whole.lean.txt), without the word lists of single methods -/
theorem goodIn_r {big : List Cond} (ws : List Cond) (ps : List Nat) (hp : ws = ps.filterMap (fun i => big[i]?)) (h : ws.all goodWord = true) : GoodIn big ws := by
  intro w hw
  have h1 := List.all_eq_true.mp h w hw
  rw [hp] at hw
  obtain ⟨i, -, hi⟩ := List.mem_filterMap.mp hw
  have hm : w ∈ big := by first | exact List.mem_of_getElem? hi | exact List.getElem?_mem hi
  exact ⟨hm, good_of_word h1⟩
theorem goodIn_app {big a b : List Cond} (ha : GoodIn big a) (hb : GoodIn big b) : GoodIn big (a ++ b) := fun w h => (List.mem_append.mp h).elim (ha w) (hb w)
theorem goodIn_ca {big a b : List Cond} {c : Cond} (ha : GoodIn big (c :: a)) (hb : GoodIn big b) : GoodIn big (c :: (a ++ b)) := fun w h => (List.mem_cons.mp h).elim (fun e => ha w (List.mem_cons.mpr (Or.inl e))) (fun h => (List.mem_append.mp h).elim (fun h => ha w (List.mem_cons.mpr (Or.inr h))) (hb w))
theorem goodIn_sub {big ws : List Cond} (hm : ∀ w ∈ ws, w ∈ big) (h : ws.all goodWord = true) : GoodIn big ws := fun w hw => ⟨hm w hw, good_of_word (List.all_eq_true.mp h w hw)⟩
def RX0 : String := "ProverbCollection$Crossings"
def TX0 : u_T := fun k => match k with
  | 0 => ("ProverbCollection$Crossings", "front", "LProverbCollection$Sequence;", true)
  | 1 => ("ProverbCollection$Crossings", "back", "LProverbCollection$Sequence;", true)
  | 2 => ("ProverbCollection$Crossings", "order", "[I", true)
  | _ => ("ProverbCollection$Crossings", "apart", "[I", true)
def tyX0 : Nat → FieldType := fun k => match k with
  | 0 => .object "ProverbCollection$Sequence"
  | 1 => .object "ProverbCollection$Sequence"
  | 2 => .array .int
  | _ => .array .int
abbrev wsX00 : List Cond := u_ws RX0 TX0 4
theorem nmX0 : ∀ a, a < 4 → ∀ b, b < 4 → a ≠ b → (TX0 a).2.1 ≠ (TX0 b).2.1 := by decide +kernel
theorem tyX0_ok : ∀ k, k < 4 → parseFieldDescriptor (TX0 k).2.2.1 = some (tyX0 k) := by decide +kernel
abbrev cX0_init : ByteArray := prog_2_method_1_code
def yX0_init : MethodName := ⟨RX0, "<init>", "()V"⟩
abbrev cX0_cost : ByteArray := prog_2_method_2_code
def yX0_cost : MethodName := ⟨RX0, "cost", "(LProverbCollection$State;LProverbCollection$Edits;III)I"⟩
abbrev cX0_bestPair : ByteArray := prog_2_method_3_code
def yX0_bestPair : MethodName := ⟨RX0, "bestPair", "(LProverbCollection$State;LProverbCollection$Edits;II)I"⟩
def RX1 : String := "ProverbCollection$Edits"
def TX1 : u_T := fun k => match k with
  | 0 => ("ProverbCollection$Edits", "first", "LProverbCollection$Sequence;", true)
  | 1 => ("ProverbCollection$Edits", "second", "LProverbCollection$Sequence;", true)
  | 2 => ("ProverbCollection$Edits", "table", "[[I", true)
  | 3 => ("ProverbCollection$Edits", "list", "[I", true)
  | _ => ("ProverbCollection$Edits", "listed", "I", false)
def tyX1 : Nat → FieldType := fun k => match k with
  | 0 => .object "ProverbCollection$Sequence"
  | 1 => .object "ProverbCollection$Sequence"
  | 2 => .array (.array .int)
  | 3 => .array .int
  | _ => .int
abbrev wsX10 : List Cond := u_ws RX1 TX1 5
theorem nmX1 : ∀ a, a < 5 → ∀ b, b < 5 → a ≠ b → (TX1 a).2.1 ≠ (TX1 b).2.1 := by decide +kernel
theorem tyX1_ok : ∀ k, k < 5 → parseFieldDescriptor (TX1 k).2.2.1 = some (tyX1 k) := by decide +kernel
abbrev cX1_init : ByteArray := prog_3_method_1_code
def yX1_init : MethodName := ⟨RX1, "<init>", "()V"⟩
abbrev cX1_between : ByteArray := prog_3_method_2_code
def yX1_between : MethodName := ⟨RX1, "between", "(LProverbCollection$State;II)I"⟩
abbrev cX1_measure : ByteArray := prog_3_method_3_code
def yX1_measure : MethodName := ⟨RX1, "measure", "([I)I"⟩
abbrev cX1_by : ByteArray := prog_3_method_4_code
def yX1_by : MethodName := ⟨RX1, "by", "(III[I)I"⟩
abbrev cX1_replacing : ByteArray := prog_3_method_5_code
def yX1_replacing : MethodName := ⟨RX1, "replacing", "(II[I)I"⟩
abbrev cX1_swaps : ByteArray := prog_3_method_6_code
def yX1_swaps : MethodName := ⟨RX1, "swaps", "(II)Z"⟩
abbrev cX1_trace : ByteArray := prog_3_method_7_code
def yX1_trace : MethodName := ⟨RX1, "trace", "([I)V"⟩
abbrev cX1_lastStep : ByteArray := prog_3_method_8_code
def yX1_lastStep : MethodName := ⟨RX1, "lastStep", "(II[I)I"⟩
abbrev cX1_fromBeginning : ByteArray := prog_3_method_9_code
def yX1_fromBeginning : MethodName := ⟨RX1, "fromBeginning", "(I)I"⟩
def RX2 : String := "ProverbCollection$Groups"
def TX2 : u_T := fun k => match k with
  | 0 => ("ProverbCollection$Groups", "order", "[I", true)
  | 1 => ("ProverbCollection$Groups", "memberOf", "[I", true)
  | 2 => ("ProverbCollection$Groups", "centres", "[I", true)
  | _ => ("ProverbCollection$Groups", "count", "I", false)
def tyX2 : Nat → FieldType := fun k => match k with
  | 0 => .array .int
  | 1 => .array .int
  | 2 => .array .int
  | _ => .int
abbrev wsX20 : List Cond := u_ws RX2 TX2 4
theorem nmX2 : ∀ a, a < 4 → ∀ b, b < 4 → a ≠ b → (TX2 a).2.1 ≠ (TX2 b).2.1 := by decide +kernel
theorem tyX2_ok : ∀ k, k < 4 → parseFieldDescriptor (TX2 k).2.2.1 = some (tyX2 k) := by decide +kernel
abbrev cX2_init : ByteArray := prog_4_method_1_code
def yX2_init : MethodName := ⟨RX2, "<init>", "()V"⟩
abbrev cX2_form : ByteArray := prog_4_method_2_code
def yX2_form : MethodName := ⟨RX2, "form", "(LProverbCollection$State;LProverbCollection$Edits;)V"⟩
abbrev cX2_centre : ByteArray := prog_4_method_3_code
def yX2_centre : MethodName := ⟨RX2, "centre", "(I)I"⟩
abbrev cX2_members : ByteArray := prog_4_method_4_code
def yX2_members : MethodName := ⟨RX2, "members", "(LProverbCollection$State;I)I"⟩
abbrev cX2_regions : ByteArray := prog_4_method_5_code
def yX2_regions : MethodName := ⟨RX2, "regions", "(LProverbCollection$State;I)I"⟩
abbrev cX2_radius : ByteArray := prog_4_method_6_code
def yX2_radius : MethodName := ⟨RX2, "radius", "(LProverbCollection$State;LProverbCollection$Edits;I)I"⟩
def RX3 : String := "ProverbCollection$History"
def TX3 : u_T := fun k => match k with
  | 0 => ("ProverbCollection$History", "ring", "[LProverbCollection$State;", true)
  | 1 => ("ProverbCollection$History", "next", "I", false)
  | _ => ("ProverbCollection$History", "count", "I", false)
def tyX3 : Nat → FieldType := fun k => match k with
  | 0 => .array (.object "ProverbCollection$State")
  | 1 => .int
  | _ => .int
abbrev wsX30 : List Cond := u_ws RX3 TX3 3
theorem nmX3 : ∀ a, a < 3 → ∀ b, b < 3 → a ≠ b → (TX3 a).2.1 ≠ (TX3 b).2.1 := by decide +kernel
theorem tyX3_ok : ∀ k, k < 3 → parseFieldDescriptor (TX3 k).2.2.1 = some (tyX3 k) := by decide +kernel
abbrev cX3_init : ByteArray := prog_5_method_1_code
def yX3_init : MethodName := ⟨RX3, "<init>", "()V"⟩
abbrev cX3_keep : ByteArray := prog_5_method_2_code
def yX3_keep : MethodName := ⟨RX3, "keep", "(LProverbCollection$State;)V"⟩
abbrev cX3_restore : ByteArray := prog_5_method_3_code
def yX3_restore : MethodName := ⟨RX3, "restore", "(LProverbCollection$State;)V"⟩
def RX4 : String := "ProverbCollection$Matcher"
def TX4 : u_T := fun k => match k with
  | 0 => ("ProverbCollection$Matcher", "pattern", "LProverbCollection$Sequence;", true)
  | 1 => ("ProverbCollection$Matcher", "saying", "LProverbCollection$Sequence;", true)
  | 2 => ("ProverbCollection$Matcher", "slotWords", "[I", true)
  | 3 => ("ProverbCollection$Matcher", "firstWord", "[I", true)
  | _ => ("ProverbCollection$Matcher", "found", "I", false)
def tyX4 : Nat → FieldType := fun k => match k with
  | 0 => .object "ProverbCollection$Sequence"
  | 1 => .object "ProverbCollection$Sequence"
  | 2 => .array .int
  | 3 => .array .int
  | _ => .int
abbrev wsX40 : List Cond := u_ws RX4 TX4 5
theorem nmX4 : ∀ a, a < 5 → ∀ b, b < 5 → a ≠ b → (TX4 a).2.1 ≠ (TX4 b).2.1 := by decide +kernel
theorem tyX4_ok : ∀ k, k < 5 → parseFieldDescriptor (TX4 k).2.2.1 = some (tyX4 k) := by decide +kernel
abbrev cX4_init : ByteArray := prog_6_method_1_code
def yX4_init : MethodName := ⟨RX4, "<init>", "()V"⟩
abbrev cX4_match : ByteArray := prog_6_method_2_code
def yX4_match : MethodName := ⟨RX4, "match", "(LProverbCollection$State;II)I"⟩
abbrev cX4_fit : ByteArray := prog_6_method_3_code
def yX4_fit : MethodName := ⟨RX4, "fit", "()I"⟩
abbrev cX4_fill : ByteArray := prog_6_method_4_code
def yX4_fill : MethodName := ⟨RX4, "fill", "(II)V"⟩
abbrev cX4_fillOne : ByteArray := prog_6_method_5_code
def yX4_fillOne : MethodName := ⟨RX4, "fillOne", "(II)V"⟩
abbrev cX4_noteFilling : ByteArray := prog_6_method_6_code
def yX4_noteFilling : MethodName := ⟨RX4, "noteFilling", "(I)V"⟩
def RX5 : String := "ProverbCollection$Sequence"
def TX5 : u_T := fun k => match k with
  | 0 => ("ProverbCollection$Sequence", "tokens", "[I", true)
  | _ => ("ProverbCollection$Sequence", "length", "I", false)
def tyX5 : Nat → FieldType := fun k => match k with
  | 0 => .array .int
  | _ => .int
abbrev wsX50 : List Cond := u_ws RX5 TX5 2
theorem nmX5 : ∀ a, a < 2 → ∀ b, b < 2 → a ≠ b → (TX5 a).2.1 ≠ (TX5 b).2.1 := by decide +kernel
theorem tyX5_ok : ∀ k, k < 2 → parseFieldDescriptor (TX5 k).2.2.1 = some (tyX5 k) := by decide +kernel
abbrev cX5_init : ByteArray := prog_7_method_1_code
def yX5_init : MethodName := ⟨RX5, "<init>", "()V"⟩
abbrev cX5_add : ByteArray := prog_7_method_2_code
def yX5_add : MethodName := ⟨RX5, "add", "(I)V"⟩
abbrev cX5_addPart : ByteArray := prog_7_method_3_code
def yX5_addPart : MethodName := ⟨RX5, "addPart", "(LProverbCollection$Sequence;II)V"⟩
abbrev cX5_at : ByteArray := prog_7_method_4_code
def yX5_at : MethodName := ⟨RX5, "at", "(I)I"⟩
abbrev cX5_wordCount : ByteArray := prog_7_method_5_code
def yX5_wordCount : MethodName := ⟨RX5, "wordCount", "()I"⟩
abbrev cX5_gapCount : ByteArray := prog_7_method_6_code
def yX5_gapCount : MethodName := ⟨RX5, "gapCount", "()I"⟩
def RX6 : String := "ProverbCollection$Shelf"
def TX6 : u_T := fun k => match k with
  | 0 => ("ProverbCollection$Shelf", "most", "I", true)
  | 1 => ("ProverbCollection$Shelf", "tokens", "[I", true)
  | 2 => ("ProverbCollection$Shelf", "lengths", "[I", true)
  | _ => ("ProverbCollection$Shelf", "count", "I", false)
def tyX6 : Nat → FieldType := fun k => match k with
  | 0 => .int
  | 1 => .array .int
  | 2 => .array .int
  | _ => .int
abbrev wsX60 : List Cond := u_ws RX6 TX6 4
theorem nmX6 : ∀ a, a < 4 → ∀ b, b < 4 → a ≠ b → (TX6 a).2.1 ≠ (TX6 b).2.1 := by decide +kernel
theorem tyX6_ok : ∀ k, k < 4 → parseFieldDescriptor (TX6 k).2.2.1 = some (tyX6 k) := by decide +kernel
abbrev cX6_init : ByteArray := prog_8_method_1_code
def yX6_init : MethodName := ⟨RX6, "<init>", "(I)V"⟩
abbrev cX6_isFull : ByteArray := prog_8_method_2_code
def yX6_isFull : MethodName := ⟨RX6, "isFull", "()Z"⟩
abbrev cX6_has : ByteArray := prog_8_method_3_code
def yX6_has : MethodName := ⟨RX6, "has", "(I)Z"⟩
abbrev cX6_size : ByteArray := prog_8_method_4_code
def yX6_size : MethodName := ⟨RX6, "size", "(I)I"⟩
abbrev cX6_token : ByteArray := prog_8_method_5_code
def yX6_token : MethodName := ⟨RX6, "token", "(II)I"⟩
abbrev cX6_add : ByteArray := prog_8_method_6_code
def yX6_add : MethodName := ⟨RX6, "add", "(LProverbCollection$Sequence;)I"⟩
abbrev cX6_drop : ByteArray := prog_8_method_7_code
def yX6_drop : MethodName := ⟨RX6, "drop", "(I)V"⟩
abbrev cX6_load : ByteArray := prog_8_method_8_code
def yX6_load : MethodName := ⟨RX6, "load", "(ILProverbCollection$Sequence;)V"⟩
abbrev cX6_copyFrom : ByteArray := prog_8_method_9_code
def yX6_copyFrom : MethodName := ⟨RX6, "copyFrom", "(LProverbCollection$Shelf;)V"⟩
def RX7 : String := "ProverbCollection$State"
def TX7 : u_T := fun k => match k with
  | 0 => ("ProverbCollection$State", "sayings", "LProverbCollection$Shelf;", true)
  | 1 => ("ProverbCollection$State", "years", "[I", true)
  | 2 => ("ProverbCollection$State", "regions", "[I", true)
  | 3 => ("ProverbCollection$State", "patterns", "LProverbCollection$Shelf;", true)
  | 4 => ("ProverbCollection$State", "costs", "[I", true)
  | _ => ("ProverbCollection$State", "limit", "I", false)
def tyX7 : Nat → FieldType := fun k => match k with
  | 0 => .object "ProverbCollection$Shelf"
  | 1 => .array .int
  | 2 => .array .int
  | 3 => .object "ProverbCollection$Shelf"
  | 4 => .array .int
  | _ => .int
abbrev wsX70 : List Cond := u_ws RX7 TX7 6
theorem nmX7 : ∀ a, a < 6 → ∀ b, b < 6 → a ≠ b → (TX7 a).2.1 ≠ (TX7 b).2.1 := by decide +kernel
theorem tyX7_ok : ∀ k, k < 6 → parseFieldDescriptor (TX7 k).2.2.1 = some (tyX7 k) := by decide +kernel
abbrev cX7_init : ByteArray := prog_9_method_1_code
def yX7_init : MethodName := ⟨RX7, "<init>", "()V"⟩
abbrev cX7_copyFrom : ByteArray := prog_9_method_2_code
def yX7_copyFrom : MethodName := ⟨RX7, "copyFrom", "(LProverbCollection$State;)V"⟩
abbrev cX7_takeSaying : ByteArray := prog_9_method_3_code
def yX7_takeSaying : MethodName := ⟨RX7, "takeSaying", "(LProverbCollection$Sequence;II)I"⟩
abbrev cX7_dropSaying : ByteArray := prog_9_method_4_code
def yX7_dropSaying : MethodName := ⟨RX7, "dropSaying", "(I)V"⟩
abbrev cX7_place : ByteArray := prog_9_method_5_code
def yX7_place : MethodName := ⟨RX7, "place", "(I)I"⟩
abbrev cX7_isOlder : ByteArray := prog_9_method_6_code
def yX7_isOlder : MethodName := ⟨RX7, "isOlder", "(II)Z"⟩
abbrev cX7_sortByAge : ByteArray := prog_9_method_7_code
def yX7_sortByAge : MethodName := ⟨RX7, "sortByAge", "([I)V"⟩
def RX8 : String := "ProverbCollection"
def TX8 : u_T := fun k => match k with
  | 0 => ("ProverbCollection", "buffer", "LProverbCollection$Sequence;", true)
  | 1 => ("ProverbCollection", "now", "LProverbCollection$State;", true)
  | 2 => ("ProverbCollection", "history", "LProverbCollection$History;", true)
  | 3 => ("ProverbCollection", "edits", "LProverbCollection$Edits;", true)
  | 4 => ("ProverbCollection", "matcher", "LProverbCollection$Matcher;", true)
  | 5 => ("ProverbCollection", "groups", "LProverbCollection$Groups;", true)
  | 6 => ("ProverbCollection", "crossings", "LProverbCollection$Crossings;", true)
  | _ => ("ProverbCollection", "ageOrder", "[I", true)
def tyX8 : Nat → FieldType := fun k => match k with
  | 0 => .object "ProverbCollection$Sequence"
  | 1 => .object "ProverbCollection$State"
  | 2 => .object "ProverbCollection$History"
  | 3 => .object "ProverbCollection$Edits"
  | 4 => .object "ProverbCollection$Matcher"
  | 5 => .object "ProverbCollection$Groups"
  | 6 => .object "ProverbCollection$Crossings"
  | _ => .array .int
abbrev wsX80 : List Cond := u_ws RX8 TX8 8
theorem nmX8 : ∀ a, a < 8 → ∀ b, b < 8 → a ≠ b → (TX8 a).2.1 ≠ (TX8 b).2.1 := by decide +kernel
theorem tyX8_ok : ∀ k, k < 8 → parseFieldDescriptor (TX8 k).2.2.1 = some (tyX8 k) := by decide +kernel
abbrev cX8_init : ByteArray := prog_1_method_1_code
def yX8_init : MethodName := ⟨RX8, "<init>", "()V"⟩
abbrev cX8_append : ByteArray := prog_1_method_2_code
def yX8_append : MethodName := ⟨RX8, "append", "(I)I"⟩
abbrev cX8_clear : ByteArray := prog_1_method_3_code
def yX8_clear : MethodName := ⟨RX8, "clear", "()I"⟩
abbrev cX8_addSaying : ByteArray := prog_1_method_4_code
def yX8_addSaying : MethodName := ⟨RX8, "addSaying", "(II)I"⟩
abbrev cX8_removeSaying : ByteArray := prog_1_method_5_code
def yX8_removeSaying : MethodName := ⟨RX8, "removeSaying", "(I)I"⟩
abbrev cX8_sayingCount : ByteArray := prog_1_method_6_code
def yX8_sayingCount : MethodName := ⟨RX8, "sayingCount", "()I"⟩
abbrev cX8_lengthOf : ByteArray := prog_1_method_7_code
def yX8_lengthOf : MethodName := ⟨RX8, "lengthOf", "(I)I"⟩
abbrev cX8_wordAt : ByteArray := prog_1_method_8_code
def yX8_wordAt : MethodName := ⟨RX8, "wordAt", "(II)I"⟩
abbrev cX8_byAge : ByteArray := prog_1_method_9_code
def yX8_byAge : MethodName := ⟨RX8, "byAge", "(I)I"⟩
abbrev cX8_setCost : ByteArray := prog_1_method_10_code
def yX8_setCost : MethodName := ⟨RX8, "setCost", "(II)I"⟩
abbrev cX8_distance : ByteArray := prog_1_method_11_code
def yX8_distance : MethodName := ⟨RX8, "distance", "(II)I"⟩
abbrev cX8_similarityBits : ByteArray := prog_1_method_12_code
def yX8_similarityBits : MethodName := ⟨RX8, "similarityBits", "(II)I"⟩
abbrev cX8_editCount : ByteArray := prog_1_method_13_code
def yX8_editCount : MethodName := ⟨RX8, "editCount", "(II)I"⟩
abbrev cX8_editAt : ByteArray := prog_1_method_14_code
def yX8_editAt : MethodName := ⟨RX8, "editAt", "(III)I"⟩
abbrev cX8_nearest : ByteArray := prog_1_method_15_code
def yX8_nearest : MethodName := ⟨RX8, "nearest", "(I)I"⟩
abbrev cX8_addPattern : ByteArray := prog_1_method_16_code
def yX8_addPattern : MethodName := ⟨RX8, "addPattern", "()I"⟩
abbrev cX8_removePattern : ByteArray := prog_1_method_17_code
def yX8_removePattern : MethodName := ⟨RX8, "removePattern", "(I)I"⟩
abbrev cX8_fillings : ByteArray := prog_1_method_18_code
def yX8_fillings : MethodName := ⟨RX8, "fillings", "(II)I"⟩
abbrev cX8_slotWord : ByteArray := prog_1_method_19_code
def yX8_slotWord : MethodName := ⟨RX8, "slotWord", "(III)I"⟩
abbrev cX8_matchedSayings : ByteArray := prog_1_method_20_code
def yX8_matchedSayings : MethodName := ⟨RX8, "matchedSayings", "(I)I"⟩
abbrev cX8_bestPattern : ByteArray := prog_1_method_21_code
def yX8_bestPattern : MethodName := ⟨RX8, "bestPattern", "(I)I"⟩
abbrev cX8_setLimit : ByteArray := prog_1_method_22_code
def yX8_setLimit : MethodName := ⟨RX8, "setLimit", "(I)I"⟩
abbrev cX8_groupCount : ByteArray := prog_1_method_23_code
def yX8_groupCount : MethodName := ⟨RX8, "groupCount", "()I"⟩
abbrev cX8_groupOf : ByteArray := prog_1_method_24_code
def yX8_groupOf : MethodName := ⟨RX8, "groupOf", "(I)I"⟩
abbrev cX8_centreOf : ByteArray := prog_1_method_25_code
def yX8_centreOf : MethodName := ⟨RX8, "centreOf", "(I)I"⟩
abbrev cX8_groupInfo : ByteArray := prog_1_method_26_code
def yX8_groupInfo : MethodName := ⟨RX8, "groupInfo", "(II)I"⟩
abbrev cX8_crossingCost : ByteArray := prog_1_method_27_code
def yX8_crossingCost : MethodName := ⟨RX8, "crossingCost", "(III)I"⟩
abbrev cX8_crossing : ByteArray := prog_1_method_28_code
def yX8_crossing : MethodName := ⟨RX8, "crossing", "(II)I"⟩
abbrev cX8_undo : ByteArray := prog_1_method_29_code
def yX8_undo : MethodName := ⟨RX8, "undo", "()I"⟩
abbrev cX8_hasBoth : ByteArray := prog_1_method_30_code
def yX8_hasBoth : MethodName := ⟨RX8, "hasBoth", "(II)Z"⟩
abbrev cX8_bitsOf : ByteArray := prog_1_method_31_code
def yX8_bitsOf : MethodName := ⟨RX8, "bitsOf", "(F)I"⟩
abbrev cX8_copyAll : ByteArray := prog_1_method_32_code
def yX8_copyAll : MethodName := ⟨RX8, "copyAll", "([I[I)V"⟩
abbrev cX8_closeUp : ByteArray := prog_1_method_33_code
def yX8_closeUp : MethodName := ⟨RX8, "closeUp", "([III)V"⟩
def RX9 : String := "ProverbCollectionModel"
def TX9 : u_T := fun k => match k with
  | 0 => ("ProverbCollectionModel", "now", "[I", true)
  | 1 => ("ProverbCollectionModel", "before", "[I", true)
  | 2 => ("ProverbCollectionModel", "undoMany", "I", false)
  | 3 => ("ProverbCollectionModel", "tokens", "I", false)
  | 4 => ("ProverbCollectionModel", "buffer", "[I", true)
  | 5 => ("ProverbCollectionModel", "one", "[I", true)
  | 6 => ("ProverbCollectionModel", "other", "[I", true)
  | 7 => ("ProverbCollectionModel", "oneLong", "I", false)
  | 8 => ("ProverbCollectionModel", "otherLong", "I", false)
  | 9 => ("ProverbCollectionModel", "far", "[I", true)
  | 10 => ("ProverbCollectionModel", "edits", "I", false)
  | 11 => ("ProverbCollectionModel", "edit", "[I", true)
  | 12 => ("ProverbCollectionModel", "gap", "[I", true)
  | 13 => ("ProverbCollectionModel", "slot", "[I", true)
  | 14 => ("ProverbCollectionModel", "firstSlot", "[I", true)
  | 15 => ("ProverbCollectionModel", "groups", "I", false)
  | 16 => ("ProverbCollectionModel", "group", "[I", true)
  | _ => ("ProverbCollectionModel", "centre", "[I", true)
def tyX9 : Nat → FieldType := fun k => match k with
  | 0 => .array .int
  | 1 => .array .int
  | 2 => .int
  | 3 => .int
  | 4 => .array .int
  | 5 => .array .int
  | 6 => .array .int
  | 7 => .int
  | 8 => .int
  | 9 => .array .int
  | 10 => .int
  | 11 => .array .int
  | 12 => .array .int
  | 13 => .array .int
  | 14 => .array .int
  | 15 => .int
  | 16 => .array .int
  | _ => .array .int
abbrev wsX90 : List Cond := u_ws RX9 TX9 18
theorem nmX9 : ∀ a, a < 18 → ∀ b, b < 18 → a ≠ b → (TX9 a).2.1 ≠ (TX9 b).2.1 := by decide +kernel
theorem tyX9_ok : ∀ k, k < 18 → parseFieldDescriptor (TX9 k).2.2.1 = some (tyX9 k) := by decide +kernel
abbrev cX9_init : ByteArray := prog_11_method_1_code
def yX9_init : MethodName := ⟨RX9, "<init>", "()V"⟩
abbrev cX9_in : ByteArray := prog_11_method_2_code
def yX9_in : MethodName := ⟨RX9, "in", "(JJJ)Z"⟩
abbrev cX9_keeps : ByteArray := prog_11_method_3_code
def yX9_keeps : MethodName := ⟨RX9, "keeps", "()V"⟩
abbrev cX9_undo : ByteArray := prog_11_method_4_code
def yX9_undo : MethodName := ⟨RX9, "undo", "()I"⟩
abbrev cX9_isSaying : ByteArray := prog_11_method_5_code
def yX9_isSaying : MethodName := ⟨RX9, "isSaying", "(I)Z"⟩
abbrev cX9_isPattern : ByteArray := prog_11_method_6_code
def yX9_isPattern : MethodName := ⟨RX9, "isPattern", "(I)Z"⟩
abbrev cX9_append : ByteArray := prog_11_method_7_code
def yX9_append : MethodName := ⟨RX9, "append", "(I)I"⟩
abbrev cX9_clear : ByteArray := prog_11_method_8_code
def yX9_clear : MethodName := ⟨RX9, "clear", "()I"⟩
abbrev cX9_addSaying : ByteArray := prog_11_method_9_code
def yX9_addSaying : MethodName := ⟨RX9, "addSaying", "(II)I"⟩
abbrev cX9_removeSaying : ByteArray := prog_11_method_10_code
def yX9_removeSaying : MethodName := ⟨RX9, "removeSaying", "(I)I"⟩
abbrev cX9_sayingCount : ByteArray := prog_11_method_11_code
def yX9_sayingCount : MethodName := ⟨RX9, "sayingCount", "()I"⟩
abbrev cX9_lengthOf : ByteArray := prog_11_method_12_code
def yX9_lengthOf : MethodName := ⟨RX9, "lengthOf", "(I)I"⟩
abbrev cX9_wordAt : ByteArray := prog_11_method_13_code
def yX9_wordAt : MethodName := ⟨RX9, "wordAt", "(II)I"⟩
abbrev cX9_isOlder : ByteArray := prog_11_method_14_code
def yX9_isOlder : MethodName := ⟨RX9, "isOlder", "(II)Z"⟩
abbrev cX9_atAge : ByteArray := prog_11_method_15_code
def yX9_atAge : MethodName := ⟨RX9, "atAge", "(I)I"⟩
abbrev cX9_byAge : ByteArray := prog_11_method_16_code
def yX9_byAge : MethodName := ⟨RX9, "byAge", "(I)I"⟩
abbrev cX9_takesOne : ByteArray := prog_11_method_17_code
def yX9_takesOne : MethodName := ⟨RX9, "takesOne", "(I)V"⟩
abbrev cX9_takesOther : ByteArray := prog_11_method_18_code
def yX9_takesOther : MethodName := ⟨RX9, "takesOther", "(I)V"⟩
abbrev cX9_exchange : ByteArray := prog_11_method_19_code
def yX9_exchange : MethodName := ⟨RX9, "exchange", "(II)I"⟩
abbrev cX9_isCrossed : ByteArray := prog_11_method_20_code
def yX9_isCrossed : MethodName := ⟨RX9, "isCrossed", "(II)Z"⟩
abbrev cX9_by : ByteArray := prog_11_method_21_code
def yX9_by : MethodName := ⟨RX9, "by", "(III)I"⟩
abbrev cX9_isStep : ByteArray := prog_11_method_22_code
def yX9_isStep : MethodName := ⟨RX9, "isStep", "(III)Z"⟩
abbrev cX9_lays : ByteArray := prog_11_method_23_code
def yX9_lays : MethodName := ⟨RX9, "lays", "()I"⟩
abbrev cX9_distanceOf : ByteArray := prog_11_method_24_code
def yX9_distanceOf : MethodName := ⟨RX9, "distanceOf", "(II)I"⟩
abbrev cX9_setCost : ByteArray := prog_11_method_25_code
def yX9_setCost : MethodName := ⟨RX9, "setCost", "(II)I"⟩
abbrev cX9_distance : ByteArray := prog_11_method_26_code
def yX9_distance : MethodName := ⟨RX9, "distance", "(II)I"⟩
abbrev cX9_similarityBits : ByteArray := prog_11_method_27_code
def yX9_similarityBits : MethodName := ⟨RX9, "similarityBits", "(II)I"⟩
abbrev cX9_findsEdits : ByteArray := prog_11_method_28_code
def yX9_findsEdits : MethodName := ⟨RX9, "findsEdits", "(II)V"⟩
abbrev cX9_editCount : ByteArray := prog_11_method_29_code
def yX9_editCount : MethodName := ⟨RX9, "editCount", "(II)I"⟩
abbrev cX9_editAt : ByteArray := prog_11_method_30_code
def yX9_editAt : MethodName := ⟨RX9, "editAt", "(III)I"⟩
abbrev cX9_nearest : ByteArray := prog_11_method_31_code
def yX9_nearest : MethodName := ⟨RX9, "nearest", "(I)I"⟩
abbrev cX9_addPattern : ByteArray := prog_11_method_32_code
def yX9_addPattern : MethodName := ⟨RX9, "addPattern", "()I"⟩
abbrev cX9_removePattern : ByteArray := prog_11_method_33_code
def yX9_removePattern : MethodName := ⟨RX9, "removePattern", "(I)I"⟩
abbrev cX9_tokensOf : ByteArray := prog_11_method_34_code
def yX9_tokensOf : MethodName := ⟨RX9, "tokensOf", "(III)I"⟩
abbrev cX9_isFilled : ByteArray := prog_11_method_35_code
def yX9_isFilled : MethodName := ⟨RX9, "isFilled", "(II)Z"⟩
abbrev cX9_fills : ByteArray := prog_11_method_36_code
def yX9_fills : MethodName := ⟨RX9, "fills", "(II)I"⟩
abbrev cX9_goesOn : ByteArray := prog_11_method_37_code
def yX9_goesOn : MethodName := ⟨RX9, "goesOn", "(I)Z"⟩
abbrev cX9_fillings : ByteArray := prog_11_method_38_code
def yX9_fillings : MethodName := ⟨RX9, "fillings", "(II)I"⟩
abbrev cX9_slotWord : ByteArray := prog_11_method_39_code
def yX9_slotWord : MethodName := ⟨RX9, "slotWord", "(III)I"⟩
abbrev cX9_matchedSayings : ByteArray := prog_11_method_40_code
def yX9_matchedSayings : MethodName := ⟨RX9, "matchedSayings", "(I)I"⟩
abbrev cX9_bestPattern : ByteArray := prog_11_method_41_code
def yX9_bestPattern : MethodName := ⟨RX9, "bestPattern", "(I)I"⟩
abbrev cX9_makesGroups : ByteArray := prog_11_method_42_code
def yX9_makesGroups : MethodName := ⟨RX9, "makesGroups", "()V"⟩
abbrev cX9_setLimit : ByteArray := prog_11_method_43_code
def yX9_setLimit : MethodName := ⟨RX9, "setLimit", "(I)I"⟩
abbrev cX9_groupCount : ByteArray := prog_11_method_44_code
def yX9_groupCount : MethodName := ⟨RX9, "groupCount", "()I"⟩
abbrev cX9_groupOf : ByteArray := prog_11_method_45_code
def yX9_groupOf : MethodName := ⟨RX9, "groupOf", "(I)I"⟩
abbrev cX9_centreOf : ByteArray := prog_11_method_46_code
def yX9_centreOf : MethodName := ⟨RX9, "centreOf", "(I)I"⟩
abbrev cX9_groupInfo : ByteArray := prog_11_method_47_code
def yX9_groupInfo : MethodName := ⟨RX9, "groupInfo", "(II)I"⟩
abbrev cX9_crossed : ByteArray := prog_11_method_48_code
def yX9_crossed : MethodName := ⟨RX9, "crossed", "(III)I"⟩
abbrev cX9_crossingCost : ByteArray := prog_11_method_49_code
def yX9_crossingCost : MethodName := ⟨RX9, "crossingCost", "(III)I"⟩
abbrev cX9_crossing : ByteArray := prog_11_method_50_code
def yX9_crossing : MethodName := ⟨RX9, "crossing", "(II)I"⟩
def RJxf58ca : String := "java/lang/Float"
def TJxf58ca : u_T := fun k => match k with
  | _ => ("", "", "", false)
def tyJxf58ca : Nat → FieldType := fun k => match k with
  | _ => .int
theorem nmJxf58ca : ∀ a, a < 0 → ∀ b, b < 0 → a ≠ b → (TJxf58ca a).2.1 ≠ (TJxf58ca b).2.1 := by decide +kernel
theorem tyJxf58ca_ok : ∀ k, k < 0 → parseFieldDescriptor (TJxf58ca k).2.2.1 = some (tyJxf58ca k) := by decide +kernel
abbrev cJxf58ca_isNaN_12338 : ByteArray := prog_12_method_6_code
def yJxf58ca_isNaN_12338 : MethodName := ⟨RJxf58ca, "isNaN", "(F)Z"⟩
abbrev cJxf58ca_floatToIntBits_5c35a : ByteArray := prog_12_method_24_code
def yJxf58ca_floatToIntBits_5c35a : MethodName := ⟨RJxf58ca, "floatToIntBits", "(F)I"⟩
def RJ6 : String := "java/lang/Integer"
def TJ6 : u_T := fun k => match k with
  | _ => ("", "", "", false)
def tyJ6 : Nat → FieldType := fun k => match k with
  | _ => .int
theorem nmJ6 : ∀ a, a < 0 → ∀ b, b < 0 → a ≠ b → (TJ6 a).2.1 ≠ (TJ6 b).2.1 := by decide +kernel
theorem tyJ6_ok : ∀ k, k < 0 → parseFieldDescriptor (TJ6 k).2.2.1 = some (tyJ6 k) := by decide +kernel
abbrev cJ6_bitCount_0f7a4 : ByteArray := prog_13_method_49_code
def yJ6_bitCount_0f7a4 : MethodName := ⟨RJ6, "bitCount", "(I)I"⟩
def RJ9 : String := "java/lang/Math"
def TJ9 : u_T := fun k => match k with
  | _ => ("", "", "", false)
def tyJ9 : Nat → FieldType := fun k => match k with
  | _ => .int
theorem nmJ9 : ∀ a, a < 0 → ∀ b, b < 0 → a ≠ b → (TJ9 a).2.1 ≠ (TJ9 b).2.1 := by decide +kernel
theorem tyJ9_ok : ∀ k, k < 0 → parseFieldDescriptor (TJ9 k).2.2.1 = some (tyJ9 k) := by decide +kernel
abbrev cJ9_max_7cf53 : ByteArray := prog_14_method_65_code
def yJ9_max_7cf53 : MethodName := ⟨RJ9, "max", "(II)I"⟩
abbrev cJ9_min_7cf53 : ByteArray := prog_14_method_69_code
def yJ9_min_7cf53 : MethodName := ⟨RJ9, "min", "(II)I"⟩
def RJ10 : String := "java/lang/System"
def TJ10 : u_T := fun k => match k with
  | _ => ("", "", "", false)
def tyJ10 : Nat → FieldType := fun k => match k with
  | _ => .int
theorem nmJ10 : ∀ a, a < 0 → ∀ b, b < 0 → a ≠ b → (TJ10 a).2.1 ≠ (TJ10 b).2.1 := by decide +kernel
theorem tyJ10_ok : ∀ k, k < 0 → parseFieldDescriptor (TJ10 k).2.2.1 = some (tyJ10 k) := by decide +kernel
def RL : String := "ProverbCollectionLaw"
abbrev cL_law : ByteArray := code
def yL_law : MethodName := ⟨RL, "law", "([I)Z"⟩
def wsL_law_r1 : List Cond := [Cond.classLink RL 7 RX8, Cond.instantiable RX8 8, Cond.initialized RX8, Cond.classLink RL 10 RX9, Cond.instantiable RX9 18, Cond.initialized RX9, Cond.methodLink RL 9 yX8_init, Cond.instanceMethod yX8_init, Cond.code yX8_init cX8_init 1 none, Cond.methodLink RX8 1 objectInit, Cond.instanceMethod objectInit, Cond.code objectInit ⟨#[0xb1]⟩ 1 none, Cond.classLink RX8 7 RX5, Cond.instantiable RX5 2, Cond.initialized RX5, Cond.fieldLink RX8 10 "ProverbCollection" "buffer" "LProverbCollection$Sequence;", Cond.classLink RX8 16 RX7, Cond.instantiable RX7 6, Cond.initialized RX7, Cond.fieldLink RX8 19 "ProverbCollection" "now" "LProverbCollection$State;", Cond.classLink RX8 23 RX3, Cond.instantiable RX3 3, Cond.initialized RX3, Cond.fieldLink RX8 26 "ProverbCollection" "history" "LProverbCollection$History;"]
def wsL_law_r2 : List Cond := [Cond.classLink RX8 30 RX1, Cond.instantiable RX1 5, Cond.initialized RX1, Cond.fieldLink RX8 33 "ProverbCollection" "edits" "LProverbCollection$Edits;", Cond.classLink RX8 37 RX4, Cond.instantiable RX4 5, Cond.initialized RX4, Cond.fieldLink RX8 40 "ProverbCollection" "matcher" "LProverbCollection$Matcher;", Cond.classLink RX8 44 RX2, Cond.instantiable RX2 4, Cond.initialized RX2, Cond.fieldLink RX8 47 "ProverbCollection" "groups" "LProverbCollection$Groups;", Cond.classLink RX8 51 RX0, Cond.instantiable RX0 4, Cond.initialized RX0, Cond.fieldLink RX8 54 "ProverbCollection" "crossings" "LProverbCollection$Crossings;", Cond.arrayClass .int, Cond.fieldLink RX8 58 "ProverbCollection" "ageOrder" "[I", Cond.instanceMethod yX5_init, Cond.code yX5_init cX5_init 1 none, Cond.methodLink RX5 3 objectInit, Cond.fieldLink RX5 9 "ProverbCollection$Sequence" "tokens" "[I", Cond.instanceMethod yX7_init, Cond.code yX7_init cX7_init 1 none]
def wsL_law_r3 : List Cond := [Cond.methodLink RX7 3 objectInit, Cond.classLink RX7 9 RX6, Cond.instantiable RX6 4, Cond.initialized RX6, Cond.fieldLink RX7 14 "ProverbCollection$State" "sayings" "LProverbCollection$Shelf;", Cond.fieldLink RX7 20 "ProverbCollection$State" "years" "[I", Cond.fieldLink RX7 24 "ProverbCollection$State" "regions" "[I", Cond.fieldLink RX7 27 "ProverbCollection$State" "patterns" "LProverbCollection$Shelf;", Cond.fieldLink RX7 30 "ProverbCollection$State" "costs" "[I", Cond.fieldLink RX7 33 "ProverbCollection$State" "limit" "I", Cond.instanceMethod yX6_init, Cond.code yX6_init cX6_init 2 none, Cond.methodLink RX6 3 objectInit, Cond.fieldLink RX6 9 "ProverbCollection$Shelf" "most" "I", Cond.fieldLink RX6 15 "ProverbCollection$Shelf" "tokens" "[I", Cond.fieldLink RX6 19 "ProverbCollection$Shelf" "lengths" "[I", Cond.instanceMethod yX3_init, Cond.code yX3_init cX3_init 2 none, Cond.methodLink RX3 3 objectInit, Cond.classLink RX3 9 RX7, Cond.fieldLink RX3 11 "ProverbCollection$History" "ring" "[LProverbCollection$State;", Cond.instanceMethod yX1_init, Cond.code yX1_init cX1_init 1 none, Cond.methodLink RX1 3 objectInit]
def wsL_law_r4 : List Cond := [Cond.classLink RX1 9 RX5, Cond.fieldLink RX1 12 "ProverbCollection$Edits" "first" "LProverbCollection$Sequence;", Cond.fieldLink RX1 18 "ProverbCollection$Edits" "second" "LProverbCollection$Sequence;", Cond.classLink RX1 21 "[[I", Cond.fieldLink RX1 23 "ProverbCollection$Edits" "table" "[[I", Cond.fieldLink RX1 26 "ProverbCollection$Edits" "list" "[I", Cond.instanceMethod yX4_init, Cond.code yX4_init cX4_init 1 none, Cond.methodLink RX4 3 objectInit, Cond.classLink RX4 9 RX5, Cond.fieldLink RX4 12 "ProverbCollection$Matcher" "pattern" "LProverbCollection$Sequence;", Cond.fieldLink RX4 18 "ProverbCollection$Matcher" "saying" "LProverbCollection$Sequence;", Cond.fieldLink RX4 21 "ProverbCollection$Matcher" "slotWords" "[I", Cond.fieldLink RX4 25 "ProverbCollection$Matcher" "firstWord" "[I", Cond.instanceMethod yX2_init, Cond.code yX2_init cX2_init 1 none, Cond.methodLink RX2 3 objectInit, Cond.fieldLink RX2 9 "ProverbCollection$Groups" "order" "[I", Cond.fieldLink RX2 15 "ProverbCollection$Groups" "memberOf" "[I", Cond.fieldLink RX2 18 "ProverbCollection$Groups" "centres" "[I", Cond.instanceMethod yX0_init, Cond.code yX0_init cX0_init 1 none, Cond.methodLink RX0 3 objectInit, Cond.classLink RX0 9 RX5]
def wsL_law_r5 : List Cond := [Cond.fieldLink RX0 12 "ProverbCollection$Crossings" "front" "LProverbCollection$Sequence;", Cond.fieldLink RX0 18 "ProverbCollection$Crossings" "back" "LProverbCollection$Sequence;", Cond.fieldLink RX0 21 "ProverbCollection$Crossings" "order" "[I", Cond.fieldLink RX0 25 "ProverbCollection$Crossings" "apart" "[I", Cond.methodLink RL 12 yX9_init, Cond.instanceMethod yX9_init, Cond.code yX9_init cX9_init 1 none, Cond.methodLink RX9 1 objectInit, Cond.fieldLink RX9 7 "ProverbCollectionModel" "now" "[I", Cond.fieldLink RX9 13 "ProverbCollectionModel" "before" "[I", Cond.fieldLink RX9 16 "ProverbCollectionModel" "buffer" "[I", Cond.fieldLink RX9 19 "ProverbCollectionModel" "one" "[I", Cond.fieldLink RX9 22 "ProverbCollectionModel" "other" "[I", Cond.fieldLink RX9 25 "ProverbCollectionModel" "far" "[I", Cond.fieldLink RX9 28 "ProverbCollectionModel" "edit" "[I", Cond.fieldLink RX9 31 "ProverbCollectionModel" "gap" "[I", Cond.fieldLink RX9 34 "ProverbCollectionModel" "slot" "[I", Cond.fieldLink RX9 37 "ProverbCollectionModel" "firstSlot" "[I", Cond.fieldLink RX9 40 "ProverbCollectionModel" "group" "[I", Cond.fieldLink RX9 43 "ProverbCollectionModel" "centre" "[I", Cond.methodLink RL 13 yX8_append, Cond.instanceMethod yX8_append, Cond.selects RX8 yX8_append yX8_append, Cond.code yX8_append cX8_append 2 (some .int)]
def wsL_law_r6 : List Cond := [Cond.instanceMethod yX5_add, Cond.selects RX5 yX5_add yX5_add, Cond.code yX5_add cX5_add 2 none, Cond.fieldLink RX5 15 "ProverbCollection$Sequence" "length" "I", Cond.methodLink RL 17 yX9_append, Cond.instanceMethod yX9_append, Cond.selects RX9 yX9_append yX9_append, Cond.code yX9_append cX9_append 2 (some .int), Cond.constantLong RX9 54 (64), Cond.fieldLink RX9 56 "ProverbCollectionModel" "tokens" "I", Cond.methodLink RX9 50 yX9_in, Cond.static yX9_in, Cond.code yX9_in cX9_in 6 (some .boolean), Cond.methodLink RL 18 yX8_clear, Cond.instanceMethod yX8_clear, Cond.selects RX8 yX8_clear yX8_clear, Cond.code yX8_clear cX8_clear 2 (some .int), Cond.methodLink RL 22 yX9_clear, Cond.instanceMethod yX9_clear, Cond.selects RX9 yX9_clear yX9_clear, Cond.code yX9_clear cX9_clear 2 (some .int), Cond.methodLink RL 23 yX8_addSaying, Cond.instanceMethod yX8_addSaying, Cond.selects RX8 yX8_addSaying yX8_addSaying]
def wsL_law_r7 : List Cond := [Cond.code yX8_addSaying cX8_addSaying 4 (some .int), Cond.instanceMethod yX5_wordCount, Cond.selects RX5 yX5_wordCount yX5_wordCount, Cond.code yX5_wordCount cX5_wordCount 3 (some .int), Cond.instanceMethod yX6_isFull, Cond.selects RX6 yX6_isFull yX6_isFull, Cond.code yX6_isFull cX6_isFull 1 (some .boolean), Cond.fieldLink RX6 22 "ProverbCollection$Shelf" "count" "I", Cond.instanceMethod yX3_keep, Cond.selects RX3 yX3_keep yX3_keep, Cond.code yX3_keep cX3_keep 2 none, Cond.fieldLink RX3 18 "ProverbCollection$History" "next" "I", Cond.fieldLink RX3 26 "ProverbCollection$History" "count" "I", Cond.methodLink RX3 29 Lib.Math.min.name, Cond.static Lib.Math.min.name, Cond.initialized "java/lang/Math", Cond.code Lib.Math.min.name Lib.Math.min.code 2 (some .int), Cond.instanceMethod yX7_copyFrom, Cond.selects RX7 yX7_copyFrom yX7_copyFrom, Cond.code yX7_copyFrom cX7_copyFrom 2 none, Cond.instanceMethod yX6_copyFrom, Cond.selects RX6 yX6_copyFrom yX6_copyFrom, Cond.code yX6_copyFrom cX6_copyFrom 2 none, Cond.static yX8_copyAll]
def wsL_law_r8 : List Cond := [Cond.code yX8_copyAll cX8_copyAll 2 none, Cond.methodLink RX8 200 Lib.Math.min.name, Cond.methodLink RX8 203 arraycopyName, Cond.native arraycopyName, Cond.static arraycopyName, Cond.initialized "java/lang/System", Cond.instanceMethod yX7_takeSaying, Cond.selects RX7 yX7_takeSaying yX7_takeSaying, Cond.code yX7_takeSaying cX7_takeSaying 5 (some .int), Cond.instanceMethod yX6_add, Cond.selects RX6 yX6_add yX6_add, Cond.code yX6_add cX6_add 4 (some .int), Cond.instanceMethod yX5_at, Cond.selects RX5 yX5_at yX5_at, Cond.code yX5_at cX5_at 2 (some .int), Cond.instanceMethod yX6_has, Cond.selects RX6 yX6_has yX6_has, Cond.code yX6_has cX6_has 2 (some .boolean), Cond.methodLink RL 27 yX9_addSaying, Cond.instanceMethod yX9_addSaying, Cond.selects RX9 yX9_addSaying yX9_addSaying, Cond.code yX9_addSaying cX9_addSaying 6 (some .int), Cond.constantLong RX9 59 (-3000), Cond.constantLong RX9 61 (2100)]
def wsL_law_r9 : List Cond := [Cond.constantLong RX9 63 (9), Cond.methodLink RX9 65 yX9_keeps, Cond.instanceMethod yX9_keeps, Cond.selects RX9 yX9_keeps yX9_keeps, Cond.code yX9_keeps cX9_keeps 2 none, Cond.fieldLink RX9 46 "ProverbCollectionModel" "undoMany" "I", Cond.methodLink RL 28 yX8_removeSaying, Cond.instanceMethod yX8_removeSaying, Cond.selects RX8 yX8_removeSaying yX8_removeSaying, Cond.code yX8_removeSaying cX8_removeSaying 2 (some .int), Cond.instanceMethod yX7_dropSaying, Cond.selects RX7 yX7_dropSaying yX7_dropSaying, Cond.code yX7_dropSaying cX7_dropSaying 2 none, Cond.instanceMethod yX6_drop, Cond.selects RX6 yX6_drop yX6_drop, Cond.code yX6_drop cX6_drop 2 none, Cond.methodLink RX6 25 yX6_has, Cond.static yX8_closeUp, Cond.code yX8_closeUp cX8_closeUp 4 none, Cond.methodLink RL 31 yX9_removeSaying, Cond.instanceMethod yX9_removeSaying, Cond.selects RX9 yX9_removeSaying yX9_removeSaying, Cond.code yX9_removeSaying cX9_removeSaying 4 (some .int), Cond.methodLink RX9 68 yX9_isSaying]
def wsL_law_r10 : List Cond := [Cond.instanceMethod yX9_isSaying, Cond.selects RX9 yX9_isSaying yX9_isSaying, Cond.code yX9_isSaying cX9_isSaying 2 (some .boolean), Cond.methodLink RL 32 yX8_sayingCount, Cond.instanceMethod yX8_sayingCount, Cond.selects RX8 yX8_sayingCount yX8_sayingCount, Cond.code yX8_sayingCount cX8_sayingCount 1 (some .int), Cond.methodLink RL 35 yX9_sayingCount, Cond.instanceMethod yX9_sayingCount, Cond.selects RX9 yX9_sayingCount yX9_sayingCount, Cond.code yX9_sayingCount cX9_sayingCount 1 (some .int), Cond.methodLink RL 36 yX8_lengthOf, Cond.instanceMethod yX8_lengthOf, Cond.selects RX8 yX8_lengthOf yX8_lengthOf, Cond.code yX8_lengthOf cX8_lengthOf 2 (some .int), Cond.instanceMethod yX6_size, Cond.selects RX6 yX6_size yX6_size, Cond.code yX6_size cX6_size 2 (some .int), Cond.methodLink RL 39 yX9_lengthOf, Cond.instanceMethod yX9_lengthOf, Cond.selects RX9 yX9_lengthOf yX9_lengthOf, Cond.code yX9_lengthOf cX9_lengthOf 2 (some .int), Cond.methodLink RL 40 yX8_wordAt, Cond.instanceMethod yX8_wordAt]
def wsL_law_r11 : List Cond := [Cond.selects RX8 yX8_wordAt yX8_wordAt, Cond.code yX8_wordAt cX8_wordAt 3 (some .int), Cond.instanceMethod yX6_token, Cond.selects RX6 yX6_token yX6_token, Cond.code yX6_token cX6_token 3 (some .int), Cond.methodLink RL 43 yX9_wordAt, Cond.instanceMethod yX9_wordAt, Cond.selects RX9 yX9_wordAt yX9_wordAt, Cond.code yX9_wordAt cX9_wordAt 3 (some .int), Cond.methodLink RL 44 yX8_byAge, Cond.instanceMethod yX8_byAge, Cond.selects RX8 yX8_byAge yX8_byAge, Cond.code yX8_byAge cX8_byAge 2 (some .int), Cond.instanceMethod yX7_sortByAge, Cond.selects RX7 yX7_sortByAge yX7_sortByAge, Cond.code yX7_sortByAge cX7_sortByAge 4 none, Cond.methodLink RX7 67 yX7_place, Cond.instanceMethod yX7_place, Cond.selects RX7 yX7_place yX7_place, Cond.code yX7_place cX7_place 4 (some .int), Cond.methodLink RX7 63 yX7_isOlder, Cond.instanceMethod yX7_isOlder, Cond.selects RX7 yX7_isOlder yX7_isOlder, Cond.code yX7_isOlder cX7_isOlder 3 (some .boolean)]
def wsL_law_r12 : List Cond := [Cond.methodLink RL 47 yX9_byAge, Cond.instanceMethod yX9_byAge, Cond.selects RX9 yX9_byAge yX9_byAge, Cond.code yX9_byAge cX9_byAge 2 (some .int), Cond.methodLink RX9 76 yX9_atAge, Cond.instanceMethod yX9_atAge, Cond.selects RX9 yX9_atAge yX9_atAge, Cond.code yX9_atAge cX9_atAge 5 (some .int), Cond.methodLink RX9 72 yX9_isOlder, Cond.instanceMethod yX9_isOlder, Cond.selects RX9 yX9_isOlder yX9_isOlder, Cond.code yX9_isOlder cX9_isOlder 3 (some .boolean), Cond.methodLink RL 48 yX8_setCost, Cond.instanceMethod yX8_setCost, Cond.selects RX8 yX8_setCost yX8_setCost, Cond.code yX8_setCost cX8_setCost 4 (some .int), Cond.methodLink RL 51 yX9_setCost, Cond.instanceMethod yX9_setCost, Cond.selects RX9 yX9_setCost yX9_setCost, Cond.code yX9_setCost cX9_setCost 4 (some .int), Cond.constantLong RX9 112 (3), Cond.methodLink RL 52 yX8_distance, Cond.instanceMethod yX8_distance, Cond.selects RX8 yX8_distance yX8_distance]
def wsL_law_r13 : List Cond := [Cond.code yX8_distance cX8_distance 3 (some .int), Cond.methodLink RX8 117 yX8_hasBoth, Cond.instanceMethod yX8_hasBoth, Cond.selects RX8 yX8_hasBoth yX8_hasBoth, Cond.code yX8_hasBoth cX8_hasBoth 3 (some .boolean), Cond.instanceMethod yX1_between, Cond.selects RX1 yX1_between yX1_between, Cond.code yX1_between cX1_between 4 (some .int), Cond.instanceMethod yX6_load, Cond.selects RX6 yX6_load yX6_load, Cond.code yX6_load cX6_load 4 none, Cond.methodLink RX6 42 yX6_size, Cond.methodLink RX6 45 yX6_token, Cond.methodLink RX1 45 yX1_measure, Cond.instanceMethod yX1_measure, Cond.selects RX1 yX1_measure yX1_measure, Cond.code yX1_measure cX1_measure 6 (some .int), Cond.constant RX1 53 (1000000), Cond.methodLink RX1 58 Lib.Math.min.name, Cond.methodLink RX1 54 yX1_by, Cond.instanceMethod yX1_by, Cond.selects RX1 yX1_by yX1_by, Cond.code yX1_by cX1_by 5 (some .int), Cond.methodLink RX1 64 yX1_replacing]
def wsL_law_r14 : List Cond := [Cond.instanceMethod yX1_replacing, Cond.selects RX1 yX1_replacing yX1_replacing, Cond.code yX1_replacing cX1_replacing 7 (some .int), Cond.methodLink RX1 68 yX1_swaps, Cond.instanceMethod yX1_swaps, Cond.selects RX1 yX1_swaps yX1_swaps, Cond.code yX1_swaps cX1_swaps 3 (some .boolean), Cond.methodLink RL 55 yX9_distance, Cond.instanceMethod yX9_distance, Cond.selects RX9 yX9_distance yX9_distance, Cond.code yX9_distance cX9_distance 3 (some .int), Cond.methodLink RX9 114 yX9_distanceOf, Cond.instanceMethod yX9_distanceOf, Cond.selects RX9 yX9_distanceOf yX9_distanceOf, Cond.code yX9_distanceOf cX9_distanceOf 3 (some .int), Cond.methodLink RX9 101 yX9_takesOne, Cond.instanceMethod yX9_takesOne, Cond.selects RX9 yX9_takesOne yX9_takesOne, Cond.code yX9_takesOne cX9_takesOne 3 none, Cond.fieldLink RX9 80 "ProverbCollectionModel" "oneLong" "I", Cond.methodLink RX9 105 yX9_takesOther, Cond.instanceMethod yX9_takesOther, Cond.selects RX9 yX9_takesOther yX9_takesOther, Cond.code yX9_takesOther cX9_takesOther 3 none]
def wsL_law_r15 : List Cond := [Cond.fieldLink RX9 83 "ProverbCollectionModel" "otherLong" "I", Cond.methodLink RX9 108 yX9_lays, Cond.instanceMethod yX9_lays, Cond.selects RX9 yX9_lays yX9_lays, Cond.code yX9_lays cX9_lays 5 (some .int), Cond.methodLink RX9 93 yX9_isStep, Cond.instanceMethod yX9_isStep, Cond.selects RX9 yX9_isStep yX9_isStep, Cond.code yX9_isStep cX9_isStep 4 (some .boolean), Cond.methodLink RX9 90 yX9_isCrossed, Cond.instanceMethod yX9_isCrossed, Cond.selects RX9 yX9_isCrossed yX9_isCrossed, Cond.code yX9_isCrossed cX9_isCrossed 3 (some .boolean), Cond.methodLink RX9 97 yX9_by, Cond.instanceMethod yX9_by, Cond.selects RX9 yX9_by yX9_by, Cond.code yX9_by cX9_by 4 (some .int), Cond.methodLink RX9 86 yX9_exchange, Cond.instanceMethod yX9_exchange, Cond.selects RX9 yX9_exchange yX9_exchange, Cond.code yX9_exchange cX9_exchange 3 (some .int), Cond.methodLink RL 56 yX8_similarityBits, Cond.instanceMethod yX8_similarityBits, Cond.selects RX8 yX8_similarityBits yX8_similarityBits]
def wsL_law_r16 : List Cond := [Cond.code yX8_similarityBits cX8_similarityBits 6 (some .int), Cond.methodLink RX8 125 Lib.Math.max.name, Cond.static Lib.Math.max.name, Cond.code Lib.Math.max.name Lib.Math.max.code 2 (some .int), Cond.methodLink RX8 130 yX8_bitsOf, Cond.static yX8_bitsOf, Cond.code yX8_bitsOf cX8_bitsOf 3 (some .int), Cond.constantFloat RX8 199 (1258291200), Cond.methodLink RL 59 yX9_similarityBits, Cond.instanceMethod yX9_similarityBits, Cond.selects RX9 yX9_similarityBits yX9_similarityBits, Cond.code yX9_similarityBits cX9_similarityBits 4 (some .int), Cond.methodLink RX9 117 yJxf58ca_floatToIntBits_5c35a, Cond.static yJxf58ca_floatToIntBits_5c35a, Cond.initialized RJxf58ca, Cond.code yJxf58ca_floatToIntBits_5c35a cJxf58ca_floatToIntBits_5c35a 1 (some .int), Cond.methodLink RJxf58ca 74 ⟨"java/lang/Float", "floatToRawIntBits", "(F)I"⟩, Cond.native ⟨"java/lang/Float", "floatToRawIntBits", "(F)I"⟩, Cond.static ⟨"java/lang/Float", "floatToRawIntBits", "(F)I"⟩, Cond.initialized "java/lang/Float", Cond.constant RJxf58ca 77 (2143289344), Cond.methodLink RJxf58ca 59 yJxf58ca_isNaN_12338, Cond.static yJxf58ca_isNaN_12338, Cond.code yJxf58ca_isNaN_12338 cJxf58ca_isNaN_12338 1 (some .boolean)]
def wsL_law_r17 : List Cond := [Cond.methodLink RL 60 yX8_editCount, Cond.instanceMethod yX8_editCount, Cond.selects RX8 yX8_editCount yX8_editCount, Cond.code yX8_editCount cX8_editCount 3 (some .int), Cond.instanceMethod yX1_trace, Cond.selects RX1 yX1_trace yX1_trace, Cond.code yX1_trace cX1_trace 7 none, Cond.fieldLink RX1 76 "ProverbCollection$Edits" "listed" "I", Cond.methodLink RX1 79 yX1_lastStep, Cond.instanceMethod yX1_lastStep, Cond.selects RX1 yX1_lastStep yX1_lastStep, Cond.code yX1_lastStep cX1_lastStep 6 (some .int), Cond.methodLink RL 63 yX9_editCount, Cond.instanceMethod yX9_editCount, Cond.selects RX9 yX9_editCount yX9_editCount, Cond.code yX9_editCount cX9_editCount 3 (some .int), Cond.fieldLink RX9 123 "ProverbCollectionModel" "edits" "I", Cond.methodLink RX9 126 yX9_findsEdits, Cond.instanceMethod yX9_findsEdits, Cond.selects RX9 yX9_findsEdits yX9_findsEdits, Cond.code yX9_findsEdits cX9_findsEdits 7 none, Cond.methodLink RL 64 yX8_editAt, Cond.instanceMethod yX8_editAt, Cond.selects RX8 yX8_editAt yX8_editAt]
def wsL_law_r18 : List Cond := [Cond.code yX8_editAt cX8_editAt 4 (some .int), Cond.instanceMethod yX1_fromBeginning, Cond.selects RX1 yX1_fromBeginning yX1_fromBeginning, Cond.code yX1_fromBeginning cX1_fromBeginning 2 (some .int), Cond.methodLink RL 68 yX9_editAt, Cond.instanceMethod yX9_editAt, Cond.selects RX9 yX9_editAt yX9_editAt, Cond.code yX9_editAt cX9_editAt 4 (some .int), Cond.methodLink RL 69 yX8_nearest, Cond.instanceMethod yX8_nearest, Cond.selects RX8 yX8_nearest yX8_nearest, Cond.code yX8_nearest cX8_nearest 7 (some .int), Cond.constant RX8 143 (1000000), Cond.methodLink RL 72 yX9_nearest, Cond.instanceMethod yX9_nearest, Cond.selects RX9 yX9_nearest yX9_nearest, Cond.code yX9_nearest cX9_nearest 7 (some .int), Cond.methodLink RL 73 yX8_addPattern, Cond.instanceMethod yX8_addPattern, Cond.selects RX8 yX8_addPattern yX8_addPattern, Cond.code yX8_addPattern cX8_addPattern 2 (some .int), Cond.methodLink RL 76 yX9_addPattern, Cond.instanceMethod yX9_addPattern, Cond.selects RX9 yX9_addPattern yX9_addPattern]
def wsL_law_r19 : List Cond := [Cond.code yX9_addPattern cX9_addPattern 3 (some .int), Cond.methodLink RL 77 yX8_removePattern, Cond.instanceMethod yX8_removePattern, Cond.selects RX8 yX8_removePattern yX8_removePattern, Cond.code yX8_removePattern cX8_removePattern 2 (some .int), Cond.methodLink RL 80 yX9_removePattern, Cond.instanceMethod yX9_removePattern, Cond.selects RX9 yX9_removePattern yX9_removePattern, Cond.code yX9_removePattern cX9_removePattern 4 (some .int), Cond.methodLink RX9 130 yX9_isPattern, Cond.instanceMethod yX9_isPattern, Cond.selects RX9 yX9_isPattern yX9_isPattern, Cond.code yX9_isPattern cX9_isPattern 2 (some .boolean), Cond.methodLink RL 81 yX8_fillings, Cond.instanceMethod yX8_fillings, Cond.selects RX8 yX8_fillings yX8_fillings, Cond.code yX8_fillings cX8_fillings 3 (some .int), Cond.instanceMethod yX4_match, Cond.selects RX4 yX4_match yX4_match, Cond.code yX4_match cX4_match 5 (some .int), Cond.fieldLink RX4 43 "ProverbCollection$Matcher" "found" "I", Cond.methodLink RX4 47 yX4_fill, Cond.instanceMethod yX4_fill, Cond.selects RX4 yX4_fill yX4_fill]
def wsL_law_r20 : List Cond := [Cond.code yX4_fill cX4_fill 4 none, Cond.methodLink RX4 61 yX4_noteFilling, Cond.instanceMethod yX4_noteFilling, Cond.selects RX4 yX4_noteFilling yX4_noteFilling, Cond.code yX4_noteFilling cX4_noteFilling 2 none, Cond.methodLink RX4 69 yX4_fillOne, Cond.instanceMethod yX4_fillOne, Cond.selects RX4 yX4_fillOne yX4_fillOne, Cond.code yX4_fillOne cX4_fillOne 5 none, Cond.methodLink RL 84 yX9_fillings, Cond.instanceMethod yX9_fillings, Cond.selects RX9 yX9_fillings yX9_fillings, Cond.code yX9_fillings cX9_fillings 3 (some .int), Cond.methodLink RX9 142 yX9_fills, Cond.instanceMethod yX9_fills, Cond.selects RX9 yX9_fills yX9_fills, Cond.code yX9_fills cX9_fills 8 (some .int), Cond.methodLink RX9 133 yX9_tokensOf, Cond.instanceMethod yX9_tokensOf, Cond.selects RX9 yX9_tokensOf yX9_tokensOf, Cond.code yX9_tokensOf cX9_tokensOf 6 (some .int), Cond.methodLink RX9 136 yX9_isFilled, Cond.instanceMethod yX9_isFilled, Cond.selects RX9 yX9_isFilled yX9_isFilled]
def wsL_law_r21 : List Cond := [Cond.code yX9_isFilled cX9_isFilled 9 (some .boolean), Cond.methodLink RX9 139 yX9_goesOn, Cond.instanceMethod yX9_goesOn, Cond.selects RX9 yX9_goesOn yX9_goesOn, Cond.code yX9_goesOn cX9_goesOn 5 (some .boolean), Cond.methodLink RL 85 yX8_slotWord, Cond.instanceMethod yX8_slotWord, Cond.selects RX8 yX8_slotWord yX8_slotWord, Cond.code yX8_slotWord cX8_slotWord 5 (some .int), Cond.methodLink RL 88 yX9_slotWord, Cond.instanceMethod yX9_slotWord, Cond.selects RX9 yX9_slotWord yX9_slotWord, Cond.code yX9_slotWord cX9_slotWord 5 (some .int), Cond.methodLink RL 89 yX8_matchedSayings, Cond.instanceMethod yX8_matchedSayings, Cond.selects RX8 yX8_matchedSayings yX8_matchedSayings, Cond.code yX8_matchedSayings cX8_matchedSayings 4 (some .int), Cond.methodLink RL 92 yX9_matchedSayings, Cond.instanceMethod yX9_matchedSayings, Cond.selects RX9 yX9_matchedSayings yX9_matchedSayings, Cond.code yX9_matchedSayings cX9_matchedSayings 4 (some .int), Cond.methodLink RL 93 yX8_bestPattern, Cond.instanceMethod yX8_bestPattern, Cond.selects RX8 yX8_bestPattern yX8_bestPattern]
def wsL_law_r22 : List Cond := [Cond.code yX8_bestPattern cX8_bestPattern 6 (some .int), Cond.instanceMethod yX4_fit, Cond.selects RX4 yX4_fit yX4_fit, Cond.code yX4_fit cX4_fit 1 (some .int), Cond.instanceMethod yX5_gapCount, Cond.selects RX5 yX5_gapCount yX5_gapCount, Cond.code yX5_gapCount cX5_gapCount 3 (some .int), Cond.methodLink RL 96 yX9_bestPattern, Cond.instanceMethod yX9_bestPattern, Cond.selects RX9 yX9_bestPattern yX9_bestPattern, Cond.code yX9_bestPattern cX9_bestPattern 6 (some .int), Cond.methodLink RL 97 yX8_setLimit, Cond.instanceMethod yX8_setLimit, Cond.selects RX8 yX8_setLimit yX8_setLimit, Cond.code yX8_setLimit cX8_setLimit 3 (some .int), Cond.methodLink RL 100 yX9_setLimit, Cond.instanceMethod yX9_setLimit, Cond.selects RX9 yX9_setLimit yX9_setLimit, Cond.code yX9_setLimit cX9_setLimit 3 (some .int), Cond.constantLong RX9 148 (20), Cond.methodLink RL 101 yX8_groupCount, Cond.instanceMethod yX8_groupCount, Cond.selects RX8 yX8_groupCount yX8_groupCount, Cond.code yX8_groupCount cX8_groupCount 1 (some .int)]
def wsL_law_r23 : List Cond := [Cond.instanceMethod yX2_form, Cond.selects RX2 yX2_form yX2_form, Cond.code yX2_form cX2_form 7 none, Cond.fieldLink RX2 21 "ProverbCollection$Groups" "count" "I", Cond.methodLink RL 104 yX9_groupCount, Cond.instanceMethod yX9_groupCount, Cond.selects RX9 yX9_groupCount yX9_groupCount, Cond.code yX9_groupCount cX9_groupCount 1 (some .int), Cond.fieldLink RX9 145 "ProverbCollectionModel" "groups" "I", Cond.methodLink RX9 150 yX9_makesGroups, Cond.instanceMethod yX9_makesGroups, Cond.selects RX9 yX9_makesGroups yX9_makesGroups, Cond.code yX9_makesGroups cX9_makesGroups 5 none, Cond.methodLink RL 105 yX8_groupOf, Cond.instanceMethod yX8_groupOf, Cond.selects RX8 yX8_groupOf yX8_groupOf, Cond.code yX8_groupOf cX8_groupOf 2 (some .int), Cond.methodLink RL 108 yX9_groupOf, Cond.instanceMethod yX9_groupOf, Cond.selects RX9 yX9_groupOf yX9_groupOf, Cond.code yX9_groupOf cX9_groupOf 2 (some .int), Cond.methodLink RL 109 yX8_centreOf, Cond.instanceMethod yX8_centreOf, Cond.selects RX8 yX8_centreOf yX8_centreOf]
def wsL_law_r24 : List Cond := [Cond.code yX8_centreOf cX8_centreOf 2 (some .int), Cond.instanceMethod yX2_centre, Cond.selects RX2 yX2_centre yX2_centre, Cond.code yX2_centre cX2_centre 2 (some .int), Cond.methodLink RL 112 yX9_centreOf, Cond.instanceMethod yX9_centreOf, Cond.selects RX9 yX9_centreOf yX9_centreOf, Cond.code yX9_centreOf cX9_centreOf 2 (some .int), Cond.methodLink RL 113 yX8_groupInfo, Cond.instanceMethod yX8_groupInfo, Cond.selects RX8 yX8_groupInfo yX8_groupInfo, Cond.code yX8_groupInfo cX8_groupInfo 3 (some .int), Cond.instanceMethod yX2_members, Cond.selects RX2 yX2_members yX2_members, Cond.code yX2_members cX2_members 5 (some .int), Cond.instanceMethod yX2_regions, Cond.selects RX2 yX2_regions yX2_regions, Cond.code yX2_regions cX2_regions 5 (some .int), Cond.methodLink RX2 54 yJ6_bitCount_0f7a4, Cond.static yJ6_bitCount_0f7a4, Cond.initialized RJ6, Cond.code yJ6_bitCount_0f7a4 cJ6_bitCount_0f7a4 1 (some .int), Cond.constant RJ6 265 (1431655765), Cond.constant RJ6 266 (858993459)]
def wsL_law_r25 : List Cond := [Cond.constant RJ6 267 (252645135), Cond.instanceMethod yX2_radius, Cond.selects RX2 yX2_radius yX2_radius, Cond.code yX2_radius cX2_radius 6 (some .int), Cond.methodLink RX2 63 Lib.Math.max.name, Cond.methodLink RX2 60 yX2_centre, Cond.methodLink RL 116 yX9_groupInfo, Cond.instanceMethod yX9_groupInfo, Cond.selects RX9 yX9_groupInfo yX9_groupInfo, Cond.code yX9_groupInfo cX9_groupInfo 8 (some .int), Cond.constantLong RX9 153 (2), Cond.methodLink RL 117 yX8_crossingCost, Cond.instanceMethod yX8_crossingCost, Cond.selects RX8 yX8_crossingCost yX8_crossingCost, Cond.code yX8_crossingCost cX8_crossingCost 5 (some .int), Cond.instanceMethod yX0_cost, Cond.selects RX0 yX0_cost yX0_cost, Cond.code yX0_cost cX0_cost 9 (some .int), Cond.constant RX0 45 (1000000), Cond.methodLink RX0 64 Lib.Math.min.name, Cond.instanceMethod yX5_addPart, Cond.selects RX5 yX5_addPart yX5_addPart, Cond.code yX5_addPart cX5_addPart 5 none, Cond.methodLink RX5 19 yX5_at]
def wsL_law_r26 : List Cond := [Cond.methodLink RX5 23 yX5_add, Cond.methodLink RL 120 yX9_crossingCost, Cond.instanceMethod yX9_crossingCost, Cond.selects RX9 yX9_crossingCost yX9_crossingCost, Cond.code yX9_crossingCost cX9_crossingCost 4 (some .int), Cond.methodLink RX9 155 yX9_crossed, Cond.instanceMethod yX9_crossed, Cond.selects RX9 yX9_crossed yX9_crossed, Cond.code yX9_crossed cX9_crossed 8 (some .int), Cond.methodLink RL 121 yX8_crossing, Cond.instanceMethod yX8_crossing, Cond.selects RX8 yX8_crossing yX8_crossing, Cond.code yX8_crossing cX8_crossing 3 (some .int), Cond.instanceMethod yX0_bestPair, Cond.selects RX0 yX0_bestPair yX0_bestPair, Cond.code yX0_bestPair cX0_bestPair 13 (some .int), Cond.methodLink RX0 82 yX0_cost, Cond.methodLink RL 124 yX9_crossing, Cond.instanceMethod yX9_crossing, Cond.selects RX9 yX9_crossing yX9_crossing, Cond.code yX9_crossing cX9_crossing 11 (some .int), Cond.methodLink RL 125 yX8_undo, Cond.instanceMethod yX8_undo, Cond.selects RX8 yX8_undo yX8_undo]
def wsL_law_r27 : List Cond := [Cond.code yX8_undo cX8_undo 1 (some .int), Cond.instanceMethod yX3_restore, Cond.selects RX3 yX3_restore yX3_restore, Cond.code yX3_restore cX3_restore 2 none, Cond.methodLink RL 128 yX9_undo, Cond.instanceMethod yX9_undo, Cond.selects RX9 yX9_undo yX9_undo, Cond.code yX9_undo cX9_undo 2 (some .int)]
def wsL_law : List Cond := (wsL_law_r1 ++ (wsL_law_r2 ++ (wsL_law_r3 ++ (wsL_law_r4 ++ (wsL_law_r5 ++ (wsL_law_r6 ++ (wsL_law_r7 ++ (wsL_law_r8 ++ (wsL_law_r9 ++ (wsL_law_r10 ++ (wsL_law_r11 ++ (wsL_law_r12 ++ (wsL_law_r13 ++ (wsL_law_r14 ++ (wsL_law_r15 ++ (wsL_law_r16 ++ (wsL_law_r17 ++ (wsL_law_r18 ++ (wsL_law_r19 ++ (wsL_law_r20 ++ (wsL_law_r21 ++ (wsL_law_r22 ++ (wsL_law_r23 ++ (wsL_law_r24 ++ (wsL_law_r25 ++ (wsL_law_r26 ++ wsL_law_r27)))))))))))))))))))))))))) ++ wsX80 ++ wsX90 ++ wsX50 ++ wsX70 ++ wsX30 ++ wsX10 ++ wsX40 ++ wsX20 ++ wsX00 ++ wsX60 ++ ([] : List Cond)
theorem inlX0 : ∀ w ∈ wsX00, w ∈ wsL_law := fun _ h => List.mem_append_left _ (List.mem_append_left _ (List.mem_append_right _ h))
theorem inlX1 : ∀ w ∈ wsX10, w ∈ wsL_law := fun _ h => List.mem_append_left _ (List.mem_append_left _ (List.mem_append_left _ (List.mem_append_left _ (List.mem_append_left _ (List.mem_append_right _ h)))))
theorem inlX2 : ∀ w ∈ wsX20, w ∈ wsL_law := fun _ h => List.mem_append_left _ (List.mem_append_left _ (List.mem_append_left _ (List.mem_append_right _ h)))
theorem inlX3 : ∀ w ∈ wsX30, w ∈ wsL_law := fun _ h => List.mem_append_left _ (List.mem_append_left _ (List.mem_append_left _ (List.mem_append_left _ (List.mem_append_left _ (List.mem_append_left _ (List.mem_append_right _ h))))))
theorem inlX4 : ∀ w ∈ wsX40, w ∈ wsL_law := fun _ h => List.mem_append_left _ (List.mem_append_left _ (List.mem_append_left _ (List.mem_append_left _ (List.mem_append_right _ h))))
theorem inlX5 : ∀ w ∈ wsX50, w ∈ wsL_law := fun _ h => List.mem_append_left _ (List.mem_append_left _ (List.mem_append_left _ (List.mem_append_left _ (List.mem_append_left _ (List.mem_append_left _ (List.mem_append_left _ (List.mem_append_left _ (List.mem_append_right _ h))))))))
theorem inlX6 : ∀ w ∈ wsX60, w ∈ wsL_law := fun _ h => List.mem_append_left _ (List.mem_append_right _ h)
theorem inlX7 : ∀ w ∈ wsX70, w ∈ wsL_law := fun _ h => List.mem_append_left _ (List.mem_append_left _ (List.mem_append_left _ (List.mem_append_left _ (List.mem_append_left _ (List.mem_append_left _ (List.mem_append_left _ (List.mem_append_right _ h)))))))
theorem inlX8 : ∀ w ∈ wsX80, w ∈ wsL_law := fun _ h => List.mem_append_left _ (List.mem_append_left _ (List.mem_append_left _ (List.mem_append_left _ (List.mem_append_left _ (List.mem_append_left _ (List.mem_append_left _ (List.mem_append_left _ (List.mem_append_left _ (List.mem_append_left _ (List.mem_append_right _ h))))))))))
theorem inlX9 : ∀ w ∈ wsX90, w ∈ wsL_law := fun _ h => List.mem_append_left _ (List.mem_append_left _ (List.mem_append_left _ (List.mem_append_left _ (List.mem_append_left _ (List.mem_append_left _ (List.mem_append_left _ (List.mem_append_left _ (List.mem_append_left _ (List.mem_append_right _ h)))))))))
abbrev vwCl : List vw_C := [(RX0, TX0, 4), (RX1, TX1, 5), (RX2, TX2, 4), (RX3, TX3, 3), (RX4, TX4, 5), (RX5, TX5, 2), (RX6, TX6, 4), (RX7, TX7, 6), (RX8, TX8, 8), (RX9, TX9, 18)]

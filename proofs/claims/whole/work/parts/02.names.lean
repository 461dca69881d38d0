theorem goodIn_r {big : List Cond} (ws : List Cond) (ps : List Nat) (hp : ws = ps.filterMap (fun i => big[i]?)) (h : ws.all goodWord = true) : GoodIn big ws := by
  intro w hw
  have h1 := List.all_eq_true.mp h w hw
  rw [hp] at hw
  obtain ⟨i, -, hi⟩ := List.mem_filterMap.mp hw
  have hm : w ∈ big := by first | exact List.mem_of_getElem? hi | exact List.getElem?_mem hi
  exact ⟨hm, good_of_word h1⟩
theorem goodIn_app {big a b : List Cond} (ha : GoodIn big a) (hb : GoodIn big b) : GoodIn big (a ++ b) := fun w h => (List.mem_append.mp h).elim (ha w) (hb w)
theorem goodIn_ca {big a b : List Cond} {c : Cond} (ha : GoodIn big (c :: a)) (hb : GoodIn big b) : GoodIn big (c :: (a ++ b)) := fun w h => (List.mem_cons.mp h).elim (fun e => ha w (List.mem_cons.mpr (Or.inl e))) (fun h => (List.mem_append.mp h).elim (fun h => ha w (List.mem_cons.mpr (Or.inr h))) (hb w))
theorem goodIn_sub {big ws : List Cond} (hm : ∀ w ∈ ws, w ∈ big) (h : ws.all goodWord = true) : GoodIn big ws := fun w hw => ⟨hm w hw, good_of_word (List.all_eq_true.mp h w hw)⟩
def RX0 : String := "WellTalk$BestCoin"
def TX0 : u_T := fun k => match k with
  | 0 => ("WellTalk$BestCoin", "hour", "I", false)
  | 1 => ("WellTalk$BestCoin", "well", "I", false)
  | _ => ("WellTalk$BestCoin", "many", "I", false)
def tyX0 : Nat → FieldType := fun k => match k with
  | 0 => .int
  | 1 => .int
  | _ => .int
abbrev wsX00 : List Cond := u_ws RX0 TX0 3
theorem nmX0 : ∀ a, a < 3 → ∀ b, b < 3 → a ≠ b → (TX0 a).2.1 ≠ (TX0 b).2.1 := by decide +kernel
theorem tyX0_ok : ∀ k, k < 3 → parseFieldDescriptor (TX0 k).2.2.1 = some (tyX0 k) := by decide +kernel
abbrev cX0_init : ByteArray := prog_2_method_1_code
def yX0_init : MethodName := ⟨RX0, "<init>", "()V"⟩
abbrev cX0_clear : ByteArray := prog_2_method_2_code
def yX0_clear : MethodName := ⟨RX0, "clear", "()V"⟩
abbrev cX0_offer : ByteArray := prog_2_method_3_code
def yX0_offer : MethodName := ⟨RX0, "offer", "(III)V"⟩
def RX1 : String := "WellTalk$Draws"
def TX1 : u_T := fun k => match k with
  | 0 => ("WellTalk$Draws", "hour", "[I", true)
  | 1 => ("WellTalk$Draws", "saying", "[I", true)
  | 2 => ("WellTalk$Draws", "letters", "[I", true)
  | _ => ("WellTalk$Draws", "count", "I", false)
def tyX1 : Nat → FieldType := fun k => match k with
  | 0 => .array .int
  | 1 => .array .int
  | 2 => .array .int
  | _ => .int
abbrev wsX10 : List Cond := u_ws RX1 TX1 4
theorem nmX1 : ∀ a, a < 4 → ∀ b, b < 4 → a ≠ b → (TX1 a).2.1 ≠ (TX1 b).2.1 := by decide +kernel
theorem tyX1_ok : ∀ k, k < 4 → parseFieldDescriptor (TX1 k).2.2.1 = some (tyX1 k) := by decide +kernel
abbrev cX1_init : ByteArray := prog_3_method_1_code
def yX1_init : MethodName := ⟨RX1, "<init>", "()V"⟩
abbrev cX1_add : ByteArray := prog_3_method_2_code
def yX1_add : MethodName := ⟨RX1, "add", "(III)Z"⟩
def RX2 : String := "WellTalk$Events"
def TX2 : u_T := fun k => match k with
  | 0 => ("WellTalk$Events", "kind", "[I", true)
  | 1 => ("WellTalk$Events", "hour", "[I", true)
  | 2 => ("WellTalk$Events", "well", "[I", true)
  | _ => ("WellTalk$Events", "count", "I", false)
def tyX2 : Nat → FieldType := fun k => match k with
  | 0 => .array .int
  | 1 => .array .int
  | 2 => .array .int
  | _ => .int
abbrev wsX20 : List Cond := u_ws RX2 TX2 4
theorem nmX2 : ∀ a, a < 4 → ∀ b, b < 4 → a ≠ b → (TX2 a).2.1 ≠ (TX2 b).2.1 := by decide +kernel
theorem tyX2_ok : ∀ k, k < 4 → parseFieldDescriptor (TX2 k).2.2.1 = some (tyX2 k) := by decide +kernel
abbrev cX2_init : ByteArray := prog_4_method_1_code
def yX2_init : MethodName := ⟨RX2, "<init>", "()V"⟩
abbrev cX2_add : ByteArray := prog_4_method_2_code
def yX2_add : MethodName := ⟨RX2, "add", "(III)Z"⟩
def RX3 : String := "WellTalk$Hours"
def TX3 : u_T := fun k => match k with
  | 0 => ("WellTalk$Hours", "coins", "[I", true)
  | 1 => ("WellTalk$Hours", "covered", "[I", true)
  | _ => ("WellTalk$Hours", "dry", "[Z", true)
def tyX3 : Nat → FieldType := fun k => match k with
  | 0 => .array .int
  | 1 => .array .int
  | _ => .array .boolean
abbrev wsX30 : List Cond := u_ws RX3 TX3 3
theorem nmX3 : ∀ a, a < 3 → ∀ b, b < 3 → a ≠ b → (TX3 a).2.1 ≠ (TX3 b).2.1 := by decide +kernel
theorem tyX3_ok : ∀ k, k < 3 → parseFieldDescriptor (TX3 k).2.2.1 = some (tyX3 k) := by decide +kernel
abbrev cX3_init : ByteArray := prog_5_method_1_code
def yX3_init : MethodName := ⟨RX3, "<init>", "()V"⟩
abbrev cX3_fill : ByteArray := prog_5_method_2_code
def yX3_fill : MethodName := ⟨RX3, "fill", "(LWellTalk$Events;I)V"⟩
abbrev cX3_put : ByteArray := prog_5_method_3_code
def yX3_put : MethodName := ⟨RX3, "put", "(III)V"⟩
def RX4 : String := "WellTalk$Path"
def TX4 : u_T := fun k => match k with
  | 0 => ("WellTalk$Path", "well", "[I", true)
  | 1 => ("WellTalk$Path", "first", "[I", true)
  | 2 => ("WellTalk$Path", "left", "[I", true)
  | 3 => ("WellTalk$Path", "heard", "[I", true)
  | 4 => ("WellTalk$Path", "heardAt", "I", false)
  | 5 => ("WellTalk$Path", "place", "I", false)
  | 6 => ("WellTalk$Path", "due", "I", false)
  | 7 => ("WellTalk$Path", "comes", "I", false)
  | 8 => ("WellTalk$Path", "from", "I", false)
  | _ => ("WellTalk$Path", "rest", "I", false)
def tyX4 : Nat → FieldType := fun k => match k with
  | 0 => .array .int
  | 1 => .array .int
  | 2 => .array .int
  | 3 => .array .int
  | 4 => .int
  | 5 => .int
  | 6 => .int
  | 7 => .int
  | 8 => .int
  | _ => .int
abbrev wsX40 : List Cond := u_ws RX4 TX4 10
theorem nmX4 : ∀ a, a < 10 → ∀ b, b < 10 → a ≠ b → (TX4 a).2.1 ≠ (TX4 b).2.1 := by decide +kernel
theorem tyX4_ok : ∀ k, k < 10 → parseFieldDescriptor (TX4 k).2.2.1 = some (tyX4 k) := by decide +kernel
abbrev cX4_init : ByteArray := prog_6_method_1_code
def yX4_init : MethodName := ⟨RX4, "<init>", "()V"⟩
abbrev cX4_follow : ByteArray := prog_6_method_2_code
def yX4_follow : MethodName := ⟨RX4, "follow", "(LWellTalk$Wells;LWellTalk$Hours;LWellTalk$Sayings;III)V"⟩
abbrev cX4_begin : ByteArray := prog_6_method_3_code
def yX4_begin : MethodName := ⟨RX4, "begin", "(LWellTalk$Wells;II)V"⟩
abbrev cX4_next : ByteArray := prog_6_method_4_code
def yX4_next : MethodName := ⟨RX4, "next", "(LWellTalk$Wells;LWellTalk$Hours;I)I"⟩
abbrev cX4_come : ByteArray := prog_6_method_5_code
def yX4_come : MethodName := ⟨RX4, "come", "(IZZ)V"⟩
abbrev cX4_isHeardAt : ByteArray := prog_6_method_6_code
def yX4_isHeardAt : MethodName := ⟨RX4, "isHeardAt", "(I)Z"⟩
abbrev cX4_firstHeard : ByteArray := prog_6_method_7_code
def yX4_firstHeard : MethodName := ⟨RX4, "firstHeard", "(I)I"⟩
abbrev cX4_timesHeard : ByteArray := prog_6_method_8_code
def yX4_timesHeard : MethodName := ⟨RX4, "timesHeard", "()I"⟩
abbrev cX4_isGone : ByteArray := prog_6_method_9_code
def yX4_isGone : MethodName := ⟨RX4, "isGone", "()Z"⟩
def RX5 : String := "WellTalk$Sayings"
def TX5 : u_T := fun k => match k with
  | 0 => ("WellTalk$Sayings", "hour", "[I", true)
  | 1 => ("WellTalk$Sayings", "well", "[I", true)
  | 2 => ("WellTalk$Sayings", "bucket", "[I", true)
  | 3 => ("WellTalk$Sayings", "size", "[I", true)
  | 4 => ("WellTalk$Sayings", "letters", "[I", true)
  | _ => ("WellTalk$Sayings", "count", "I", false)
def tyX5 : Nat → FieldType := fun k => match k with
  | 0 => .array .int
  | 1 => .array .int
  | 2 => .array .int
  | 3 => .array .int
  | 4 => .array .int
  | _ => .int
abbrev wsX50 : List Cond := u_ws RX5 TX5 6
theorem nmX5 : ∀ a, a < 6 → ∀ b, b < 6 → a ≠ b → (TX5 a).2.1 ≠ (TX5 b).2.1 := by decide +kernel
theorem tyX5_ok : ∀ k, k < 6 → parseFieldDescriptor (TX5 k).2.2.1 = some (tyX5 k) := by decide +kernel
abbrev cX5_init : ByteArray := prog_7_method_1_code
def yX5_init : MethodName := ⟨RX5, "<init>", "()V"⟩
abbrev cX5_take : ByteArray := prog_7_method_2_code
def yX5_take : MethodName := ⟨RX5, "take", "(LWellTalk$Text;)I"⟩
abbrev cX5_takeAll : ByteArray := prog_7_method_3_code
def yX5_takeAll : MethodName := ⟨RX5, "takeAll", "(LWellTalk$Text;)I"⟩
abbrev cX5_takeHead : ByteArray := prog_7_method_4_code
def yX5_takeHead : MethodName := ⟨RX5, "takeHead", "(LWellTalk$Text;II)I"⟩
abbrev cX5_takeWord : ByteArray := prog_7_method_5_code
def yX5_takeWord : MethodName := ⟨RX5, "takeWord", "(LWellTalk$Text;II)I"⟩
abbrev cX5_letter : ByteArray := prog_7_method_6_code
def yX5_letter : MethodName := ⟨RX5, "letter", "(II)I"⟩
def RX6 : String := "WellTalk$Sheet"
def TX6 : u_T := fun k => match k with
  | 0 => ("WellTalk$Sheet", "items", "[I", true)
  | 1 => ("WellTalk$Sheet", "form", "I", false)
  | _ => ("WellTalk$Sheet", "size", "I", false)
def tyX6 : Nat → FieldType := fun k => match k with
  | 0 => .array .int
  | 1 => .int
  | _ => .int
abbrev wsX60 : List Cond := u_ws RX6 TX6 3
theorem nmX6 : ∀ a, a < 3 → ∀ b, b < 3 → a ≠ b → (TX6 a).2.1 ≠ (TX6 b).2.1 := by decide +kernel
theorem tyX6_ok : ∀ k, k < 3 → parseFieldDescriptor (TX6 k).2.2.1 = some (tyX6 k) := by decide +kernel
abbrev cX6_init : ByteArray := prog_8_method_1_code
def yX6_init : MethodName := ⟨RX6, "<init>", "()V"⟩
abbrev cX6_renew : ByteArray := prog_8_method_2_code
def yX6_renew : MethodName := ⟨RX6, "renew", "(II)V"⟩
abbrev cX6_isLost : ByteArray := prog_8_method_3_code
def yX6_isLost : MethodName := ⟨RX6, "isLost", "()Z"⟩
abbrev cX6_put : ByteArray := prog_8_method_4_code
def yX6_put : MethodName := ⟨RX6, "put", "(II)V"⟩
abbrev cX6_hasRun : ByteArray := prog_8_method_5_code
def yX6_hasRun : MethodName := ⟨RX6, "hasRun", "(II)Z"⟩
def RX7 : String := "WellTalk$Text"
def TX7 : u_T := fun k => match k with
  | 0 => ("WellTalk$Text", "bytes", "[I", true)
  | 1 => ("WellTalk$Text", "length", "I", false)
  | _ => ("WellTalk$Text", "fault", "I", false)
def tyX7 : Nat → FieldType := fun k => match k with
  | 0 => .array .int
  | 1 => .int
  | _ => .int
abbrev wsX70 : List Cond := u_ws RX7 TX7 3
theorem nmX7 : ∀ a, a < 3 → ∀ b, b < 3 → a ≠ b → (TX7 a).2.1 ≠ (TX7 b).2.1 := by decide +kernel
theorem tyX7_ok : ∀ k, k < 3 → parseFieldDescriptor (TX7 k).2.2.1 = some (tyX7 k) := by decide +kernel
abbrev cX7_init : ByteArray := prog_9_method_1_code
def yX7_init : MethodName := ⟨RX7, "<init>", "(I)V"⟩
abbrev cX7_add : ByteArray := prog_9_method_2_code
def yX7_add : MethodName := ⟨RX7, "add", "(I)Z"⟩
abbrev cX7_sign : ByteArray := prog_9_method_3_code
def yX7_sign : MethodName := ⟨RX7, "sign", "(ILjava/lang/String;)I"⟩
def RX8 : String := "WellTalk$Wells"
def TX8 : u_T := fun k => match k with
  | 0 => ("WellTalk$Wells", "stone", "[I", true)
  | 1 => ("WellTalk$Wells", "height", "[I", true)
  | 2 => ("WellTalk$Wells", "down", "[I", true)
  | 3 => ("WellTalk$Wells", "up", "[I", true)
  | 4 => ("WellTalk$Wells", "count", "I", false)
  | _ => ("WellTalk$Wells", "last", "I", false)
def tyX8 : Nat → FieldType := fun k => match k with
  | 0 => .array .int
  | 1 => .array .int
  | 2 => .array .int
  | 3 => .array .int
  | 4 => .int
  | _ => .int
abbrev wsX80 : List Cond := u_ws RX8 TX8 6
theorem nmX8 : ∀ a, a < 6 → ∀ b, b < 6 → a ≠ b → (TX8 a).2.1 ≠ (TX8 b).2.1 := by decide +kernel
theorem tyX8_ok : ∀ k, k < 6 → parseFieldDescriptor (TX8 k).2.2.1 = some (tyX8 k) := by decide +kernel
abbrev cX8_init : ByteArray := prog_10_method_1_code
def yX8_init : MethodName := ⟨RX8, "<init>", "()V"⟩
abbrev cX8_take : ByteArray := prog_10_method_2_code
def yX8_take : MethodName := ⟨RX8, "take", "(LWellTalk$Text;)I"⟩
abbrev cX8_takeAll : ByteArray := prog_10_method_3_code
def yX8_takeAll : MethodName := ⟨RX8, "takeAll", "(LWellTalk$Text;)I"⟩
abbrev cX8_become : ByteArray := prog_10_method_4_code
def yX8_become : MethodName := ⟨RX8, "become", "(LWellTalk$Wells;)V"⟩
abbrev cX8_raise : ByteArray := prog_10_method_5_code
def yX8_raise : MethodName := ⟨RX8, "raise", "(II)V"⟩
abbrev cX8_rank : ByteArray := prog_10_method_6_code
def yX8_rank : MethodName := ⟨RX8, "rank", "()V"⟩
abbrev cX8_stay : ByteArray := prog_10_method_7_code
def yX8_stay : MethodName := ⟨RX8, "stay", "(I)I"⟩
def RX9 : String := "WellTalk"
def TX9 : u_T := fun k => match k with
  | 0 => ("WellTalk", "texts", "[LWellTalk$Text;", true)
  | 1 => ("WellTalk", "wells", "LWellTalk$Wells;", true)
  | 2 => ("WellTalk", "sayings", "LWellTalk$Sayings;", true)
  | 3 => ("WellTalk", "events", "LWellTalk$Events;", true)
  | 4 => ("WellTalk", "draws", "LWellTalk$Draws;", true)
  | 5 => ("WellTalk", "sheets", "[LWellTalk$Sheet;", true)
  | 6 => ("WellTalk", "latestFinding", "I", false)
  | 7 => ("WellTalk", "hours", "LWellTalk$Hours;", true)
  | 8 => ("WellTalk", "paths", "[LWellTalk$Path;", true)
  | 9 => ("WellTalk", "stale", "Z", false)
  | 10 => ("WellTalk", "otherWells", "LWellTalk$Wells;", true)
  | 11 => ("WellTalk", "otherHours", "LWellTalk$Hours;", true)
  | 12 => ("WellTalk", "dayEvents", "LWellTalk$Events;", true)
  | 13 => ("WellTalk", "trial", "LWellTalk$Path;", true)
  | 14 => ("WellTalk", "inWell", "[I", true)
  | 15 => ("WellTalk", "tally", "[I", true)
  | 16 => ("WellTalk", "bestCoins", "[LWellTalk$BestCoin;", true)
  | _ => ("WellTalk", "coinsStale", "Z", false)
def tyX9 : Nat → FieldType := fun k => match k with
  | 0 => .array (.object "WellTalk$Text")
  | 1 => .object "WellTalk$Wells"
  | 2 => .object "WellTalk$Sayings"
  | 3 => .object "WellTalk$Events"
  | 4 => .object "WellTalk$Draws"
  | 5 => .array (.object "WellTalk$Sheet")
  | 6 => .int
  | 7 => .object "WellTalk$Hours"
  | 8 => .array (.object "WellTalk$Path")
  | 9 => .boolean
  | 10 => .object "WellTalk$Wells"
  | 11 => .object "WellTalk$Hours"
  | 12 => .object "WellTalk$Events"
  | 13 => .object "WellTalk$Path"
  | 14 => .array .int
  | 15 => .array .int
  | 16 => .array (.object "WellTalk$BestCoin")
  | _ => .boolean
abbrev wsX90 : List Cond := u_ws RX9 TX9 18
theorem nmX9 : ∀ a, a < 18 → ∀ b, b < 18 → a ≠ b → (TX9 a).2.1 ≠ (TX9 b).2.1 := by decide +kernel
theorem tyX9_ok : ∀ k, k < 18 → parseFieldDescriptor (TX9 k).2.2.1 = some (tyX9 k) := by decide +kernel
abbrev cX9_init : ByteArray := prog_1_method_1_code
def yX9_init : MethodName := ⟨RX9, "<init>", "()V"⟩
abbrev cX9_type : ByteArray := prog_1_method_2_code
def yX9_type : MethodName := ⟨RX9, "type", "(II)I"⟩
abbrev cX9_wipe : ByteArray := prog_1_method_3_code
def yX9_wipe : MethodName := ⟨RX9, "wipe", "(I)I"⟩
abbrev cX9_undo : ByteArray := prog_1_method_4_code
def yX9_undo : MethodName := ⟨RX9, "undo", "(I)I"⟩
abbrev cX9_fault : ByteArray := prog_1_method_5_code
def yX9_fault : MethodName := ⟨RX9, "fault", "(I)I"⟩
abbrev cX9_well : ByteArray := prog_1_method_6_code
def yX9_well : MethodName := ⟨RX9, "well", "(II)I"⟩
abbrev cX9_saying : ByteArray := prog_1_method_7_code
def yX9_saying : MethodName := ⟨RX9, "saying", "(II)I"⟩
abbrev cX9_event : ByteArray := prog_1_method_8_code
def yX9_event : MethodName := ⟨RX9, "event", "(III)I"⟩
abbrev cX9_back : ByteArray := prog_1_method_9_code
def yX9_back : MethodName := ⟨RX9, "back", "()I"⟩
abbrev cX9_read : ByteArray := prog_1_method_10_code
def yX9_read : MethodName := ⟨RX9, "read", "(I)I"⟩
abbrev cX9_at : ByteArray := prog_1_method_11_code
def yX9_at : MethodName := ⟨RX9, "at", "(III)I"⟩
abbrev cX9_hears : ByteArray := prog_1_method_12_code
def yX9_hears : MethodName := ⟨RX9, "hears", "(I)I"⟩
abbrev cX9_soon : ByteArray := prog_1_method_13_code
def yX9_soon : MethodName := ⟨RX9, "soon", "(I)I"⟩
abbrev cX9_gone : ByteArray := prog_1_method_14_code
def yX9_gone : MethodName := ⟨RX9, "gone", "()I"⟩
abbrev cX9_babel : ByteArray := prog_1_method_15_code
def yX9_babel : MethodName := ⟨RX9, "babel", "(I)I"⟩
abbrev cX9_tell : ByteArray := prog_1_method_16_code
def yX9_tell : MethodName := ⟨RX9, "tell", "(III)I"⟩
abbrev cX9_toss : ByteArray := prog_1_method_17_code
def yX9_toss : MethodName := ⟨RX9, "toss", "(II)I"⟩
abbrev cX9_open : ByteArray := prog_1_method_18_code
def yX9_open : MethodName := ⟨RX9, "open", "(II)I"⟩
abbrev cX9_iron : ByteArray := prog_1_method_19_code
def yX9_iron : MethodName := ⟨RX9, "iron", "(I)I"⟩
abbrev cX9_draw : ByteArray := prog_1_method_20_code
def yX9_draw : MethodName := ⟨RX9, "draw", "(III)I"⟩
abbrev cX9_forget : ByteArray := prog_1_method_21_code
def yX9_forget : MethodName := ⟨RX9, "forget", "()I"⟩
abbrev cX9_never : ByteArray := prog_1_method_22_code
def yX9_never : MethodName := ⟨RX9, "never", "()I"⟩
abbrev cX9_stone : ByteArray := prog_1_method_23_code
def yX9_stone : MethodName := ⟨RX9, "stone", "(II)I"⟩
abbrev cX9_bucket : ByteArray := prog_1_method_24_code
def yX9_bucket : MethodName := ⟨RX9, "bucket", "(I)I"⟩
abbrev cX9_ask : ByteArray := prog_1_method_25_code
def yX9_ask : MethodName := ⟨RX9, "ask", "(I)I"⟩
abbrev cX9_chance : ByteArray := prog_1_method_26_code
def yX9_chance : MethodName := ⟨RX9, "chance", "(IIII)J"⟩
abbrev cX9_day : ByteArray := prog_1_method_27_code
def yX9_day : MethodName := ⟨RX9, "day", "(III)I"⟩
abbrev cX9_sheet : ByteArray := prog_1_method_28_code
def yX9_sheet : MethodName := ⟨RX9, "sheet", "(III)I"⟩
abbrev cX9_lose : ByteArray := prog_1_method_29_code
def yX9_lose : MethodName := ⟨RX9, "lose", "(I)I"⟩
abbrev cX9_lay : ByteArray := prog_1_method_30_code
def yX9_lay : MethodName := ⟨RX9, "lay", "(IIII)I"⟩
abbrev cX9_get : ByteArray := prog_1_method_31_code
def yX9_get : MethodName := ⟨RX9, "get", "(III)I"⟩
abbrev cX9_copy : ByteArray := prog_1_method_32_code
def yX9_copy : MethodName := ⟨RX9, "copy", "(IIIII)I"⟩
abbrev cX9_write : ByteArray := prog_1_method_33_code
def yX9_write : MethodName := ⟨RX9, "write", "(II)I"⟩
abbrev cX9_count : ByteArray := prog_1_method_34_code
def yX9_count : MethodName := ⟨RX9, "count", "(I)I"⟩
abbrev cX9_digest : ByteArray := prog_1_method_35_code
def yX9_digest : MethodName := ⟨RX9, "digest", "()J"⟩
abbrev cX9_withWell : ByteArray := prog_1_method_36_code
def yX9_withWell : MethodName := ⟨RX9, "withWell", "(JI)J"⟩
abbrev cX9_withSaying : ByteArray := prog_1_method_37_code
def yX9_withSaying : MethodName := ⟨RX9, "withSaying", "(JI)J"⟩
abbrev cX9_withHour : ByteArray := prog_1_method_38_code
def yX9_withHour : MethodName := ⟨RX9, "withHour", "(JII)J"⟩
abbrev cX9_in : ByteArray := prog_1_method_39_code
def yX9_in : MethodName := ⟨RX9, "in", "(II)Z"⟩
abbrev cX9_mayBeEvent : ByteArray := prog_1_method_40_code
def yX9_mayBeEvent : MethodName := ⟨RX9, "mayBeEvent", "(III)Z"⟩
abbrev cX9_textChanged : ByteArray := prog_1_method_41_code
def yX9_textChanged : MethodName := ⟨RX9, "textChanged", "(I)V"⟩
abbrev cX9_changed : ByteArray := prog_1_method_42_code
def yX9_changed : MethodName := ⟨RX9, "changed", "()V"⟩
abbrev cX9_refresh : ByteArray := prog_1_method_43_code
def yX9_refresh : MethodName := ⟨RX9, "refresh", "()V"⟩
abbrev cX9_addEvents : ByteArray := prog_1_method_44_code
def yX9_addEvents : MethodName := ⟨RX9, "addEvents", "(LWellTalk$Sheet;)I"⟩
abbrev cX9_leastWellOfTwo : ByteArray := prog_1_method_45_code
def yX9_leastWellOfTwo : MethodName := ⟨RX9, "leastWellOfTwo", "(I)I"⟩
abbrev cX9_timesHeard : ByteArray := prog_1_method_46_code
def yX9_timesHeard : MethodName := ⟨RX9, "timesHeard", "()I"⟩
abbrev cX9_planCoins : ByteArray := prog_1_method_47_code
def yX9_planCoins : MethodName := ⟨RX9, "planCoins", "()V"⟩
abbrev cX9_countHeard : ByteArray := prog_1_method_48_code
def yX9_countHeard : MethodName := ⟨RX9, "countHeard", "(II)V"⟩
abbrev cX9_allHeardWithout : ByteArray := prog_1_method_49_code
def yX9_allHeardWithout : MethodName := ⟨RX9, "allHeardWithout", "(II)Z"⟩
abbrev cX9_oneLidToOpen : ByteArray := prog_1_method_50_code
def yX9_oneLidToOpen : MethodName := ⟨RX9, "oneLidToOpen", "(I)I"⟩
abbrev cX9_twoLidsToOpen : ByteArray := prog_1_method_51_code
def yX9_twoLidsToOpen : MethodName := ⟨RX9, "twoLidsToOpen", "(II)I"⟩
abbrev cX9_comesOut : ByteArray := prog_1_method_52_code
def yX9_comesOut : MethodName := ⟨RX9, "comesOut", "(LWellTalk$Wells;LWellTalk$Hours;II)Z"⟩
abbrev cX9_stonesOf : ByteArray := prog_1_method_53_code
def yX9_stonesOf : MethodName := ⟨RX9, "stonesOf", "(I)I"⟩
abbrev cX9_heightsOf : ByteArray := prog_1_method_54_code
def yX9_heightsOf : MethodName := ⟨RX9, "heightsOf", "(I)I"⟩
abbrev cX9_countInWell : ByteArray := prog_1_method_55_code
def yX9_countInWell : MethodName := ⟨RX9, "countInWell", "(II)V"⟩
abbrev cX9_mostAlike : ByteArray := prog_1_method_56_code
def yX9_mostAlike : MethodName := ⟨RX9, "mostAlike", "(II)I"⟩
abbrev cX9_heardWeight : ByteArray := prog_1_method_57_code
def yX9_heardWeight : MethodName := ⟨RX9, "heardWeight", "(III)J"⟩
abbrev cX9_power : ByteArray := prog_1_method_58_code
def yX9_power : MethodName := ⟨RX9, "power", "(JI)J"⟩
abbrev cX9_drawLots : ByteArray := prog_1_method_59_code
def yX9_drawLots : MethodName := ⟨RX9, "drawLots", "(II)V"⟩
abbrev cX9_nextSeed : ByteArray := prog_1_method_60_code
def yX9_nextSeed : MethodName := ⟨RX9, "nextSeed", "(I)I"⟩
abbrev cX9_lot : ByteArray := prog_1_method_61_code
def yX9_lot : MethodName := ⟨RX9, "lot", "(II)I"⟩
abbrev cX9_finding : ByteArray := prog_1_method_62_code
def yX9_finding : MethodName := ⟨RX9, "finding", "(I)I"⟩
abbrev cX9_itemFinding : ByteArray := prog_1_method_63_code
def yX9_itemFinding : MethodName := ⟨RX9, "itemFinding", "(LWellTalk$Sheet;II)I"⟩
def RX10 : String := "WellTalkModel"
def TX10 : u_T := fun k => match k with
  | 0 => ("WellTalkModel", "forms", "[I", true)
  | 1 => ("WellTalkModel", "sizes", "[I", true)
  | 2 => ("WellTalkModel", "items", "[I", true)
  | 3 => ("WellTalkModel", "moved", "[I", true)
  | 4 => ("WellTalkModel", "latest", "I", false)
  | 5 => ("WellTalkModel", "bytes", "[I", true)
  | 6 => ("WellTalkModel", "typed", "[I", true)
  | 7 => ("WellTalkModel", "wells", "I", false)
  | 8 => ("WellTalkModel", "well", "[I", true)
  | 9 => ("WellTalkModel", "sayings", "I", false)
  | 10 => ("WellTalkModel", "saying", "[I", true)
  | 11 => ("WellTalkModel", "events", "I", false)
  | 12 => ("WellTalkModel", "event", "[I", true)
  | 13 => ("WellTalkModel", "not", "I", false)
  | 14 => ("WellTalkModel", "oddHour", "I", false)
  | 15 => ("WellTalkModel", "oddWell", "I", false)
  | 16 => ("WellTalkModel", "at", "[I", true)
  | 17 => ("WellTalkModel", "since", "[I", true)
  | 18 => ("WellTalkModel", "came", "[I", true)
  | 19 => ("WellTalkModel", "from", "[I", true)
  | 20 => ("WellTalkModel", "left", "[I", true)
  | 21 => ("WellTalkModel", "lost", "[Z", true)
  | 22 => ("WellTalkModel", "atBy", "[I", true)
  | 23 => ("WellTalkModel", "fromBy", "[I", true)
  | 24 => ("WellTalkModel", "leftBy", "[I", true)
  | 25 => ("WellTalkModel", "heardBy", "[I", true)
  | 26 => ("WellTalkModel", "drawings", "I", false)
  | 27 => ("WellTalkModel", "drawing", "[I", true)
  | 28 => ("WellTalkModel", "inIt", "[I", true)
  | 29 => ("WellTalkModel", "drawn", "I", false)
  | _ => ("WellTalkModel", "told", "[I", true)
def tyX10 : Nat → FieldType := fun k => match k with
  | 0 => .array .int
  | 1 => .array .int
  | 2 => .array .int
  | 3 => .array .int
  | 4 => .int
  | 5 => .array .int
  | 6 => .array .int
  | 7 => .int
  | 8 => .array .int
  | 9 => .int
  | 10 => .array .int
  | 11 => .int
  | 12 => .array .int
  | 13 => .int
  | 14 => .int
  | 15 => .int
  | 16 => .array .int
  | 17 => .array .int
  | 18 => .array .int
  | 19 => .array .int
  | 20 => .array .int
  | 21 => .array .boolean
  | 22 => .array .int
  | 23 => .array .int
  | 24 => .array .int
  | 25 => .array .int
  | 26 => .int
  | 27 => .array .int
  | 28 => .array .int
  | 29 => .int
  | _ => .array .int
abbrev wsX100 : List Cond := u_ws RX10 TX10 31
theorem nmX10 : ∀ a, a < 31 → ∀ b, b < 31 → a ≠ b → (TX10 a).2.1 ≠ (TX10 b).2.1 := by decide +kernel
theorem tyX10_ok : ∀ k, k < 31 → parseFieldDescriptor (TX10 k).2.2.1 = some (tyX10 k) := by decide +kernel
abbrev cX10_init : ByteArray := prog_12_method_1_code
def yX10_init : MethodName := ⟨RX10, "<init>", "()V"⟩
abbrev cX10_in : ByteArray := prog_12_method_3_code
def yX10_in : MethodName := ⟨RX10, "in", "(JJJ)Z"⟩
abbrev cX10_no : ByteArray := prog_12_method_4_code
def yX10_no : MethodName := ⟨RX10, "no", "(I)J"⟩
abbrev cX10_isTwo : ByteArray := prog_12_method_5_code
def yX10_isTwo : MethodName := ⟨RX10, "isTwo", "(I)Z"⟩
abbrev cX10_isIn : ByteArray := prog_12_method_6_code
def yX10_isIn : MethodName := ⟨RX10, "isIn", "(II)Z"⟩
abbrev cX10_ones : ByteArray := prog_12_method_7_code
def yX10_ones : MethodName := ⟨RX10, "ones", "(I)I"⟩
abbrev cX10_lesser : ByteArray := prog_12_method_8_code
def yX10_lesser : MethodName := ⟨RX10, "lesser", "(II)I"⟩
abbrev cX10_greater : ByteArray := prog_12_method_9_code
def yX10_greater : MethodName := ⟨RX10, "greater", "(II)I"⟩
abbrev cX10_part : ByteArray := prog_12_method_10_code
def yX10_part : MethodName := ⟨RX10, "part", "(JJI)J"⟩
abbrev cX10_finds : ByteArray := prog_12_method_11_code
def yX10_finds : MethodName := ⟨RX10, "finds", "(I)I"⟩
abbrev cX10_isSheet : ByteArray := prog_12_method_12_code
def yX10_isSheet : MethodName := ⟨RX10, "isSheet", "(I)Z"⟩
abbrev cX10_sheet : ByteArray := prog_12_method_13_code
def yX10_sheet : MethodName := ⟨RX10, "sheet", "(III)I"⟩
abbrev cX10_lose : ByteArray := prog_12_method_14_code
def yX10_lose : MethodName := ⟨RX10, "lose", "(I)I"⟩
abbrev cX10_lacks : ByteArray := prog_12_method_15_code
def yX10_lacks : MethodName := ⟨RX10, "lacks", "(III)I"⟩
abbrev cX10_cut : ByteArray := prog_12_method_16_code
def yX10_cut : MethodName := ⟨RX10, "cut", "(II)I"⟩
abbrev cX10_lay : ByteArray := prog_12_method_17_code
def yX10_lay : MethodName := ⟨RX10, "lay", "(IIII)I"⟩
abbrev cX10_get : ByteArray := prog_12_method_18_code
def yX10_get : MethodName := ⟨RX10, "get", "(III)I"⟩
abbrev cX10_copy : ByteArray := prog_12_method_19_code
def yX10_copy : MethodName := ⟨RX10, "copy", "(IIIII)I"⟩
abbrev cX10_type : ByteArray := prog_12_method_20_code
def yX10_type : MethodName := ⟨RX10, "type", "(II)I"⟩
abbrev cX10_wipe : ByteArray := prog_12_method_21_code
def yX10_wipe : MethodName := ⟨RX10, "wipe", "(I)I"⟩
abbrev cX10_undo : ByteArray := prog_12_method_22_code
def yX10_undo : MethodName := ⟨RX10, "undo", "(I)I"⟩
abbrev cX10_wellOf : ByteArray := prog_12_method_23_code
def yX10_wellOf : MethodName := ⟨RX10, "wellOf", "(II)I"⟩
abbrev cX10_readsWells : ByteArray := prog_12_method_24_code
def yX10_readsWells : MethodName := ⟨RX10, "readsWells", "()I"⟩
abbrev cX10_sayingOf : ByteArray := prog_12_method_25_code
def yX10_sayingOf : MethodName := ⟨RX10, "sayingOf", "(II)I"⟩
abbrev cX10_readsSayings : ByteArray := prog_12_method_26_code
def yX10_readsSayings : MethodName := ⟨RX10, "readsSayings", "()I"⟩
abbrev cX10_readsText : ByteArray := prog_12_method_27_code
def yX10_readsText : MethodName := ⟨RX10, "readsText", "(I)I"⟩
abbrev cX10_fault : ByteArray := prog_12_method_28_code
def yX10_fault : MethodName := ⟨RX10, "fault", "(I)I"⟩
abbrev cX10_isWell : ByteArray := prog_12_method_29_code
def yX10_isWell : MethodName := ⟨RX10, "isWell", "(I)Z"⟩
abbrev cX10_isSaying : ByteArray := prog_12_method_30_code
def yX10_isSaying : MethodName := ⟨RX10, "isSaying", "(I)Z"⟩
abbrev cX10_isHour : ByteArray := prog_12_method_31_code
def yX10_isHour : MethodName := ⟨RX10, "isHour", "(I)Z"⟩
abbrev cX10_isEight : ByteArray := prog_12_method_32_code
def yX10_isEight : MethodName := ⟨RX10, "isEight", "(I)Z"⟩
abbrev cX10_down : ByteArray := prog_12_method_33_code
def yX10_down : MethodName := ⟨RX10, "down", "(I)I"⟩
abbrev cX10_up : ByteArray := prog_12_method_34_code
def yX10_up : MethodName := ⟨RX10, "up", "(I)I"⟩
abbrev cX10_lastWell : ByteArray := prog_12_method_35_code
def yX10_lastWell : MethodName := ⟨RX10, "lastWell", "()I"⟩
abbrev cX10_wellBy : ByteArray := prog_12_method_36_code
def yX10_wellBy : MethodName := ⟨RX10, "wellBy", "(II)I"⟩
abbrev cX10_well : ByteArray := prog_12_method_37_code
def yX10_well : MethodName := ⟨RX10, "well", "(II)I"⟩
abbrev cX10_sayingBy : ByteArray := prog_12_method_38_code
def yX10_sayingBy : MethodName := ⟨RX10, "sayingBy", "(II)I"⟩
abbrev cX10_saying : ByteArray := prog_12_method_39_code
def yX10_saying : MethodName := ⟨RX10, "saying", "(II)I"⟩
abbrev cX10_puts : ByteArray := prog_12_method_40_code
def yX10_puts : MethodName := ⟨RX10, "puts", "(III)V"⟩
abbrev cX10_event : ByteArray := prog_12_method_41_code
def yX10_event : MethodName := ⟨RX10, "event", "(III)I"⟩
abbrev cX10_back : ByteArray := prog_12_method_42_code
def yX10_back : MethodName := ⟨RX10, "back", "()I"⟩
abbrev cX10_read : ByteArray := prog_12_method_43_code
def yX10_read : MethodName := ⟨RX10, "read", "(I)I"⟩
abbrev cX10_isCovered : ByteArray := prog_12_method_44_code
def yX10_isCovered : MethodName := ⟨RX10, "isCovered", "(II)Z"⟩
abbrev cX10_isCoin : ByteArray := prog_12_method_45_code
def yX10_isCoin : MethodName := ⟨RX10, "isCoin", "(II)Z"⟩
abbrev cX10_isDrought : ByteArray := prog_12_method_46_code
def yX10_isDrought : MethodName := ⟨RX10, "isDrought", "(I)Z"⟩
abbrev cX10_loses : ByteArray := prog_12_method_47_code
def yX10_loses : MethodName := ⟨RX10, "loses", "(I)V"⟩
abbrev cX10_comes : ByteArray := prog_12_method_48_code
def yX10_comes : MethodName := ⟨RX10, "comes", "(III)Z"⟩
abbrev cX10_next : ByteArray := prog_12_method_49_code
def yX10_next : MethodName := ⟨RX10, "next", "(IZ)I"⟩
abbrev cX10_goes : ByteArray := prog_12_method_50_code
def yX10_goes : MethodName := ⟨RX10, "goes", "(II)Z"⟩
abbrev cX10_driesUp : ByteArray := prog_12_method_51_code
def yX10_driesUp : MethodName := ⟨RX10, "driesUp", "(III)Z"⟩
abbrev cX10_passes : ByteArray := prog_12_method_52_code
def yX10_passes : MethodName := ⟨RX10, "passes", "(II)Z"⟩
abbrev cX10_livesOne : ByteArray := prog_12_method_53_code
def yX10_livesOne : MethodName := ⟨RX10, "livesOne", "(I)V"⟩
abbrev cX10_lives : ByteArray := prog_12_method_54_code
def yX10_lives : MethodName := ⟨RX10, "lives", "()V"⟩
abbrev cX10_find : ByteArray := prog_12_method_55_code
def yX10_find : MethodName := ⟨RX10, "find", "()V"⟩
abbrev cX10_atOf : ByteArray := prog_12_method_56_code
def yX10_atOf : MethodName := ⟨RX10, "atOf", "(III)I"⟩
abbrev cX10_at : ByteArray := prog_12_method_57_code
def yX10_at : MethodName := ⟨RX10, "at", "(III)I"⟩
abbrev cX10_heardAt : ByteArray := prog_12_method_58_code
def yX10_heardAt : MethodName := ⟨RX10, "heardAt", "(II)I"⟩
abbrev cX10_hearsOf : ByteArray := prog_12_method_59_code
def yX10_hearsOf : MethodName := ⟨RX10, "hearsOf", "(I)I"⟩
abbrev cX10_hears : ByteArray := prog_12_method_60_code
def yX10_hears : MethodName := ⟨RX10, "hears", "(I)I"⟩
abbrev cX10_soonOf : ByteArray := prog_12_method_61_code
def yX10_soonOf : MethodName := ⟨RX10, "soonOf", "(I)I"⟩
abbrev cX10_soon : ByteArray := prog_12_method_62_code
def yX10_soon : MethodName := ⟨RX10, "soon", "(I)I"⟩
abbrev cX10_goneNow : ByteArray := prog_12_method_63_code
def yX10_goneNow : MethodName := ⟨RX10, "goneNow", "()I"⟩
abbrev cX10_gone : ByteArray := prog_12_method_64_code
def yX10_gone : MethodName := ⟨RX10, "gone", "()I"⟩
abbrev cX10_babelBy : ByteArray := prog_12_method_65_code
def yX10_babelBy : MethodName := ⟨RX10, "babelBy", "(I)I"⟩
abbrev cX10_babel : ByteArray := prog_12_method_66_code
def yX10_babel : MethodName := ⟨RX10, "babel", "(I)I"⟩
abbrev cX10_tellOf : ByteArray := prog_12_method_67_code
def yX10_tellOf : MethodName := ⟨RX10, "tellOf", "(III)I"⟩
abbrev cX10_tell : ByteArray := prog_12_method_68_code
def yX10_tell : MethodName := ⟨RX10, "tell", "(III)I"⟩
abbrev cX10_tossOf : ByteArray := prog_12_method_69_code
def yX10_tossOf : MethodName := ⟨RX10, "tossOf", "(II)I"⟩
abbrev cX10_toss : ByteArray := prog_12_method_70_code
def yX10_toss : MethodName := ⟨RX10, "toss", "(II)I"⟩
abbrev cX10_isOpen : ByteArray := prog_12_method_71_code
def yX10_isOpen : MethodName := ⟨RX10, "isOpen", "(II)Z"⟩
abbrev cX10_isLid : ByteArray := prog_12_method_72_code
def yX10_isLid : MethodName := ⟨RX10, "isLid", "(I)Z"⟩
abbrev cX10_openOf : ByteArray := prog_12_method_73_code
def yX10_openOf : MethodName := ⟨RX10, "openOf", "(II)I"⟩
abbrev cX10_open : ByteArray := prog_12_method_74_code
def yX10_open : MethodName := ⟨RX10, "open", "(II)I"⟩
abbrev cX10_ironBy : ByteArray := prog_12_method_75_code
def yX10_ironBy : MethodName := ⟨RX10, "ironBy", "(I)I"⟩
abbrev cX10_iron : ByteArray := prog_12_method_76_code
def yX10_iron : MethodName := ⟨RX10, "iron", "(I)I"⟩
abbrev cX10_draw : ByteArray := prog_12_method_77_code
def yX10_draw : MethodName := ⟨RX10, "draw", "(III)I"⟩
abbrev cX10_forget : ByteArray := prog_12_method_78_code
def yX10_forget : MethodName := ⟨RX10, "forget", "()I"⟩
abbrev cX10_isDrawn : ByteArray := prog_12_method_79_code
def yX10_isDrawn : MethodName := ⟨RX10, "isDrawn", "()Z"⟩
abbrev cX10_neverNow : ByteArray := prog_12_method_80_code
def yX10_neverNow : MethodName := ⟨RX10, "neverNow", "()I"⟩
abbrev cX10_never : ByteArray := prog_12_method_81_code
def yX10_never : MethodName := ⟨RX10, "never", "()I"⟩
abbrev cX10_stonesOf : ByteArray := prog_12_method_82_code
def yX10_stonesOf : MethodName := ⟨RX10, "stonesOf", "(I)I"⟩
abbrev cX10_stoodOf : ByteArray := prog_12_method_83_code
def yX10_stoodOf : MethodName := ⟨RX10, "stoodOf", "(I)I"⟩
abbrev cX10_stoneOf : ByteArray := prog_12_method_84_code
def yX10_stoneOf : MethodName := ⟨RX10, "stoneOf", "(II)I"⟩
abbrev cX10_stone : ByteArray := prog_12_method_85_code
def yX10_stone : MethodName := ⟨RX10, "stone", "(II)I"⟩
abbrev cX10_bucketOf : ByteArray := prog_12_method_86_code
def yX10_bucketOf : MethodName := ⟨RX10, "bucketOf", "(I)I"⟩
abbrev cX10_bucket : ByteArray := prog_12_method_87_code
def yX10_bucket : MethodName := ⟨RX10, "bucket", "(I)I"⟩
abbrev cX10_alike : ByteArray := prog_12_method_88_code
def yX10_alike : MethodName := ⟨RX10, "alike", "(II)I"⟩
abbrev cX10_askOf : ByteArray := prog_12_method_89_code
def yX10_askOf : MethodName := ⟨RX10, "askOf", "(I)I"⟩
abbrev cX10_ask : ByteArray := prog_12_method_90_code
def yX10_ask : MethodName := ⟨RX10, "ask", "(I)I"⟩
abbrev cX10_chanceOf : ByteArray := prog_12_method_91_code
def yX10_chanceOf : MethodName := ⟨RX10, "chanceOf", "(IIII)J"⟩
abbrev cX10_chance : ByteArray := prog_12_method_92_code
def yX10_chance : MethodName := ⟨RX10, "chance", "(IIII)J"⟩
abbrev cX10_lot : ByteArray := prog_12_method_93_code
def yX10_lot : MethodName := ⟨RX10, "lot", "(I)I"⟩
abbrev cX10_dayOf : ByteArray := prog_12_method_94_code
def yX10_dayOf : MethodName := ⟨RX10, "dayOf", "(III)I"⟩
abbrev cX10_day : ByteArray := prog_12_method_95_code
def yX10_day : MethodName := ⟨RX10, "day", "(III)I"⟩
abbrev cX10_write : ByteArray := prog_12_method_96_code
def yX10_write : MethodName := ⟨RX10, "write", "(II)I"⟩
abbrev cX10_allHeard : ByteArray := prog_12_method_97_code
def yX10_allHeard : MethodName := ⟨RX10, "allHeard", "()I"⟩
abbrev cX10_count : ByteArray := prog_12_method_98_code
def yX10_count : MethodName := ⟨RX10, "count", "(I)I"⟩
abbrev cX10_tellsWell : ByteArray := prog_12_method_99_code
def yX10_tellsWell : MethodName := ⟨RX10, "tellsWell", "(JI)J"⟩
abbrev cX10_tellsHour : ByteArray := prog_12_method_100_code
def yX10_tellsHour : MethodName := ⟨RX10, "tellsHour", "(JII)J"⟩
abbrev cX10_tellsSaying : ByteArray := prog_12_method_101_code
def yX10_tellsSaying : MethodName := ⟨RX10, "tellsSaying", "(JI)J"⟩
abbrev cX10_digest : ByteArray := prog_12_method_102_code
def yX10_digest : MethodName := ⟨RX10, "digest", "()J"⟩
def RJx145de : String := "java/io/Serializable"
def TJx145de : u_T := fun k => match k with
  | _ => ("", "", "", false)
def tyJx145de : Nat → FieldType := fun k => match k with
  | _ => .int
abbrev wsJx145de0 : List Cond := u_ws RJx145de TJx145de 0
theorem nmJx145de : ∀ a, a < 0 → ∀ b, b < 0 → a ≠ b → (TJx145de a).2.1 ≠ (TJx145de b).2.1 := by decide +kernel
theorem tyJx145de_ok : ∀ k, k < 0 → parseFieldDescriptor (TJx145de k).2.2.1 = some (tyJx145de k) := by decide +kernel
def RJx9f9b0 : String := "java/lang/CharSequence"
def TJx9f9b0 : u_T := fun k => match k with
  | _ => ("", "", "", false)
def tyJx9f9b0 : Nat → FieldType := fun k => match k with
  | _ => .int
abbrev wsJx9f9b00 : List Cond := u_ws RJx9f9b0 TJx9f9b0 0
theorem nmJx9f9b0 : ∀ a, a < 0 → ∀ b, b < 0 → a ≠ b → (TJx9f9b0 a).2.1 ≠ (TJx9f9b0 b).2.1 := by decide +kernel
theorem tyJx9f9b0_ok : ∀ k, k < 0 → parseFieldDescriptor (TJx9f9b0 k).2.2.1 = some (tyJx9f9b0 k) := by decide +kernel
def RJ11 : String := "java/lang/Character"
def TJ11 : u_T := fun k => match k with
  | _ => ("", "", "", false)
def tyJ11 : Nat → FieldType := fun k => match k with
  | _ => .int
abbrev wsJ110 : List Cond := u_ws RJ11 TJ11 0
theorem nmJ11 : ∀ a, a < 0 → ∀ b, b < 0 → a ≠ b → (TJ11 a).2.1 ≠ (TJ11 b).2.1 := by decide +kernel
theorem tyJ11_ok : ∀ k, k < 0 → parseFieldDescriptor (TJ11 k).2.2.1 = some (tyJ11 k) := by decide +kernel
abbrev cJ11_isValidCodePoint_9a6ad : ByteArray := prog_13_method_11_code
def yJ11_isValidCodePoint_9a6ad : MethodName := ⟨RJ11, "isValidCodePoint", "(I)Z"⟩
abbrev cJ11_highSurrogate_5068e : ByteArray := prog_13_method_28_code
def yJ11_highSurrogate_5068e : MethodName := ⟨RJ11, "highSurrogate", "(I)C"⟩
abbrev cJ11_lowSurrogate_5068e : ByteArray := prog_13_method_29_code
def yJ11_lowSurrogate_5068e : MethodName := ⟨RJ11, "lowSurrogate", "(I)C"⟩
def RJxb160c : String := "java/lang/Comparable"
def TJxb160c : u_T := fun k => match k with
  | _ => ("", "", "", false)
def tyJxb160c : Nat → FieldType := fun k => match k with
  | _ => .int
abbrev wsJxb160c0 : List Cond := u_ws RJxb160c TJxb160c 0
theorem nmJxb160c : ∀ a, a < 0 → ∀ b, b < 0 → a ≠ b → (TJxb160c a).2.1 ≠ (TJxb160c b).2.1 := by decide +kernel
theorem tyJxb160c_ok : ∀ k, k < 0 → parseFieldDescriptor (TJxb160c k).2.2.1 = some (tyJxb160c k) := by decide +kernel
def RJ6 : String := "java/lang/Integer"
def TJ6 : u_T := fun k => match k with
  | _ => ("", "", "", false)
def tyJ6 : Nat → FieldType := fun k => match k with
  | _ => .int
abbrev wsJ60 : List Cond := u_ws RJ6 TJ6 0
theorem nmJ6 : ∀ a, a < 0 → ∀ b, b < 0 → a ≠ b → (TJ6 a).2.1 ≠ (TJ6 b).2.1 := by decide +kernel
theorem tyJ6_ok : ∀ k, k < 0 → parseFieldDescriptor (TJ6 k).2.2.1 = some (tyJ6 k) := by decide +kernel
abbrev cJ6_bitCount_0f7a4 : ByteArray := prog_14_method_49_code
def yJ6_bitCount_0f7a4 : MethodName := ⟨RJ6, "bitCount", "(I)I"⟩
def RJ9 : String := "java/lang/Math"
def TJ9 : u_T := fun k => match k with
  | _ => ("", "", "", false)
def tyJ9 : Nat → FieldType := fun k => match k with
  | _ => .int
abbrev wsJ90 : List Cond := u_ws RJ9 TJ9 0
theorem nmJ9 : ∀ a, a < 0 → ∀ b, b < 0 → a ≠ b → (TJ9 a).2.1 ≠ (TJ9 b).2.1 := by decide +kernel
theorem tyJ9_ok : ∀ k, k < 0 → parseFieldDescriptor (TJ9 k).2.2.1 = some (tyJ9 k) := by decide +kernel
abbrev cJ9_max_7cf53 : ByteArray := prog_15_method_65_code
def yJ9_max_7cf53 : MethodName := ⟨RJ9, "max", "(II)I"⟩
abbrev cJ9_min_7cf53 : ByteArray := prog_15_method_69_code
def yJ9_min_7cf53 : MethodName := ⟨RJ9, "min", "(II)I"⟩
def RJ0 : String := "java/lang/String"
def TJ0 : u_T := fun k => match k with
  | _ => ("", "", "", false)
def tyJ0 : Nat → FieldType := fun k => match k with
  | _ => .int
abbrev wsJ00 : List Cond := u_ws RJ0 TJ0 0
theorem nmJ0 : ∀ a, a < 0 → ∀ b, b < 0 → a ≠ b → (TJ0 a).2.1 ≠ (TJ0 b).2.1 := by decide +kernel
theorem tyJ0_ok : ∀ k, k < 0 → parseFieldDescriptor (TJ0 k).2.2.1 = some (tyJ0 k) := by decide +kernel
abbrev cJ0_length_8abf5 : ByteArray := prog_16_method_54_code
def yJ0_length_8abf5 : MethodName := ⟨RJ0, "length", "()I"⟩
abbrev cJ0_indexOf_0f7a4 : ByteArray := prog_16_method_79_code
def yJ0_indexOf_0f7a4 : MethodName := ⟨RJ0, "indexOf", "(I)I"⟩
abbrev cJ0_indexOf_7cf53 : ByteArray := prog_16_method_80_code
def yJ0_indexOf_7cf53 : MethodName := ⟨RJ0, "indexOf", "(II)I"⟩
abbrev cJ0_coder_7d493 : ByteArray := prog_16_method_152_code
def yJ0_coder_7d493 : MethodName := ⟨RJ0, "coder", "()B"⟩
abbrev cJ0_isLatin1_aae02 : ByteArray := prog_16_method_154_code
def yJ0_isLatin1_aae02 : MethodName := ⟨RJ0, "isLatin1", "()Z"⟩
abbrev cJ0_checkBoundsBeginEnd_23922 : ByteArray := prog_16_method_158_code
def yJ0_checkBoundsBeginEnd_23922 : MethodName := ⟨RJ0, "checkBoundsBeginEnd", "(III)V"⟩
def RJ1 : String := "java/lang/StringLatin1"
def TJ1 : u_T := fun k => match k with
  | _ => ("", "", "", false)
def tyJ1 : Nat → FieldType := fun k => match k with
  | _ => .int
abbrev wsJ10 : List Cond := u_ws RJ1 TJ1 0
theorem nmJ1 : ∀ a, a < 0 → ∀ b, b < 0 → a ≠ b → (TJ1 a).2.1 ≠ (TJ1 b).2.1 := by decide +kernel
theorem tyJ1_ok : ∀ k, k < 0 → parseFieldDescriptor (TJ1 k).2.2.1 = some (tyJ1 k) := by decide +kernel
abbrev cJ1_canEncode_9a6ad : ByteArray := prog_17_method_4_code
def yJ1_canEncode_9a6ad : MethodName := ⟨RJ1, "canEncode", "(I)Z"⟩
abbrev cJ1_indexOf_4cfef : ByteArray := prog_17_method_22_code
def yJ1_indexOf_4cfef : MethodName := ⟨RJ1, "indexOf", "([BIII)I"⟩
abbrev cJ1_indexOfChar_4cfef : ByteArray := prog_17_method_23_code
def yJ1_indexOfChar_4cfef : MethodName := ⟨RJ1, "indexOfChar", "([BIII)I"⟩
def RJ2 : String := "java/lang/StringUTF16"
def TJ2 : u_T := fun k => match k with
  | _ => ("", "", "", false)
def tyJ2 : Nat → FieldType := fun k => match k with
  | _ => .int
abbrev wsJ20 : List Cond := u_ws RJ2 TJ2 0
theorem nmJ2 : ∀ a, a < 0 → ∀ b, b < 0 → a ≠ b → (TJ2 a).2.1 ≠ (TJ2 b).2.1 := by decide +kernel
theorem tyJ2_ok : ∀ k, k < 0 → parseFieldDescriptor (TJ2 k).2.2.1 = some (tyJ2 k) := by decide +kernel
abbrev cJ2_getChar_3b067 : ByteArray := prog_18_method_5_code
def yJ2_getChar_3b067 : MethodName := ⟨RJ2, "getChar", "([BI)C"⟩
abbrev cJ2_length_9d52b : ByteArray := prog_18_method_6_code
def yJ2_length_9d52b : MethodName := ⟨RJ2, "length", "([B)I"⟩
abbrev cJ2_indexOf_4cfef : ByteArray := prog_18_method_40_code
def yJ2_indexOf_4cfef : MethodName := ⟨RJ2, "indexOf", "([BIII)I"⟩
abbrev cJ2_indexOfChar_4cfef : ByteArray := prog_18_method_47_code
def yJ2_indexOfChar_4cfef : MethodName := ⟨RJ2, "indexOfChar", "([BIII)I"⟩
abbrev cJ2_indexOfCharUnsafe_4cfef : ByteArray := prog_18_method_48_code
def yJ2_indexOfCharUnsafe_4cfef : MethodName := ⟨RJ2, "indexOfCharUnsafe", "([BIII)I"⟩
abbrev cJ2_indexOfSupplementary_4cfef : ByteArray := prog_18_method_49_code
def yJ2_indexOfSupplementary_4cfef : MethodName := ⟨RJ2, "indexOfSupplementary", "([BIII)I"⟩
abbrev cJ2_checkBoundsBeginEnd_d044e : ByteArray := prog_18_method_93_code
def yJ2_checkBoundsBeginEnd_d044e : MethodName := ⟨RJ2, "checkBoundsBeginEnd", "(II[B)V"⟩
def RJ10 : String := "java/lang/System"
def TJ10 : u_T := fun k => match k with
  | _ => ("", "", "", false)
def tyJ10 : Nat → FieldType := fun k => match k with
  | _ => .int
abbrev wsJ100 : List Cond := u_ws RJ10 TJ10 0
theorem nmJ10 : ∀ a, a < 0 → ∀ b, b < 0 → a ≠ b → (TJ10 a).2.1 ≠ (TJ10 b).2.1 := by decide +kernel
theorem tyJ10_ok : ∀ k, k < 0 → parseFieldDescriptor (TJ10 k).2.2.1 = some (tyJ10 k) := by decide +kernel
def RJxfd54e : String := "java/lang/constant/Constable"
def TJxfd54e : u_T := fun k => match k with
  | _ => ("", "", "", false)
def tyJxfd54e : Nat → FieldType := fun k => match k with
  | _ => .int
abbrev wsJxfd54e0 : List Cond := u_ws RJxfd54e TJxfd54e 0
theorem nmJxfd54e : ∀ a, a < 0 → ∀ b, b < 0 → a ≠ b → (TJxfd54e a).2.1 ≠ (TJxfd54e b).2.1 := by decide +kernel
theorem tyJxfd54e_ok : ∀ k, k < 0 → parseFieldDescriptor (TJxfd54e k).2.2.1 = some (tyJxfd54e k) := by decide +kernel
def RJx3cf43 : String := "java/lang/constant/ConstantDesc"
def TJx3cf43 : u_T := fun k => match k with
  | _ => ("", "", "", false)
def tyJx3cf43 : Nat → FieldType := fun k => match k with
  | _ => .int
abbrev wsJx3cf430 : List Cond := u_ws RJx3cf43 TJx3cf43 0
theorem nmJx3cf43 : ∀ a, a < 0 → ∀ b, b < 0 → a ≠ b → (TJx3cf43 a).2.1 ≠ (TJx3cf43 b).2.1 := by decide +kernel
theorem tyJx3cf43_ok : ∀ k, k < 0 → parseFieldDescriptor (TJx3cf43 k).2.2.1 = some (tyJx3cf43 k) := by decide +kernel
def RJ7 : String := "java/util/Arrays"
def TJ7 : u_T := fun k => match k with
  | _ => ("", "", "", false)
def tyJ7 : Nat → FieldType := fun k => match k with
  | _ => .int
abbrev wsJ70 : List Cond := u_ws RJ7 TJ7 0
theorem nmJ7 : ∀ a, a < 0 → ∀ b, b < 0 → a ≠ b → (TJ7 a).2.1 ≠ (TJ7 b).2.1 := by decide +kernel
theorem tyJ7_ok : ∀ k, k < 0 → parseFieldDescriptor (TJ7 k).2.2.1 = some (tyJ7 k) := by decide +kernel
abbrev cJ7_fill_53178 : ByteArray := prog_20_method_103_code
def yJ7_fill_53178 : MethodName := ⟨RJ7, "fill", "([II)V"⟩
def RJ3 : String := "jdk/internal/util/Preconditions"
def TJ3 : u_T := fun k => match k with
  | _ => ("", "", "", false)
def tyJ3 : Nat → FieldType := fun k => match k with
  | _ => .int
abbrev wsJ30 : List Cond := u_ws RJ3 TJ3 0
theorem nmJ3 : ∀ a, a < 0 → ∀ b, b < 0 → a ≠ b → (TJ3 a).2.1 ≠ (TJ3 b).2.1 := by decide +kernel
theorem tyJ3_ok : ∀ k, k < 0 → parseFieldDescriptor (TJ3 k).2.2.1 = some (tyJ3 k) := by decide +kernel
abbrev cJ3_checkFromToIndex_8c36e : ByteArray := prog_21_method_12_code
def yJ3_checkFromToIndex_8c36e : MethodName := ⟨RJ3, "checkFromToIndex", "(IIILjava/util/function/BiFunction;)I"⟩
def RL : String := "WellTalkLaw"
abbrev cL_law : ByteArray := code
def yL_law : MethodName := ⟨RL, "law", "([I)Z"⟩
def wsL_law_r1 : List Cond := [Cond.classLink RL 7 RX9, Cond.instantiable RX9 18, Cond.initialized RX9, Cond.classLink RL 10 RX10, Cond.instantiable RX10 31, Cond.initialized RX10, Cond.methodLink RL 9 yX9_init, Cond.instanceMethod yX9_init, Cond.code yX9_init cX9_init 1 none, Cond.methodLink RX9 1 objectInit, Cond.instanceMethod objectInit, Cond.code objectInit ⟨#[0xb1]⟩ 1 none, Cond.classLink RX9 7 RX7, Cond.instantiable RX7 3, Cond.initialized RX7, Cond.fieldLink RX9 12 "WellTalk" "texts" "[LWellTalk$Text;", Cond.classLink RX9 18 RX8, Cond.instantiable RX8 6, Cond.initialized RX8, Cond.fieldLink RX9 21 "WellTalk" "wells" "LWellTalk$Wells;", Cond.classLink RX9 25 RX5, Cond.instantiable RX5 6, Cond.initialized RX5, Cond.fieldLink RX9 28 "WellTalk" "sayings" "LWellTalk$Sayings;"]
def wsL_law_r2 : List Cond := [Cond.classLink RX9 32 RX2, Cond.instantiable RX2 4, Cond.initialized RX2, Cond.fieldLink RX9 35 "WellTalk" "events" "LWellTalk$Events;", Cond.classLink RX9 39 RX1, Cond.instantiable RX1 4, Cond.initialized RX1, Cond.fieldLink RX9 42 "WellTalk" "draws" "LWellTalk$Draws;", Cond.classLink RX9 46 RX6, Cond.instantiable RX6 3, Cond.initialized RX6, Cond.fieldLink RX9 49 "WellTalk" "sheets" "[LWellTalk$Sheet;", Cond.classLink RX9 53 RX3, Cond.instantiable RX3 3, Cond.initialized RX3, Cond.fieldLink RX9 56 "WellTalk" "hours" "LWellTalk$Hours;", Cond.classLink RX9 60 RX4, Cond.instantiable RX4 10, Cond.initialized RX4, Cond.fieldLink RX9 63 "WellTalk" "paths" "[LWellTalk$Path;", Cond.fieldLink RX9 67 "WellTalk" "stale" "Z", Cond.fieldLink RX9 71 "WellTalk" "otherWells" "LWellTalk$Wells;", Cond.fieldLink RX9 74 "WellTalk" "otherHours" "LWellTalk$Hours;", Cond.fieldLink RX9 77 "WellTalk" "dayEvents" "LWellTalk$Events;"]
def wsL_law_r3 : List Cond := [Cond.fieldLink RX9 80 "WellTalk" "trial" "LWellTalk$Path;", Cond.arrayClass .int, Cond.fieldLink RX9 84 "WellTalk" "inWell" "[I", Cond.fieldLink RX9 88 "WellTalk" "tally" "[I", Cond.classLink RX9 91 RX0, Cond.instantiable RX0 3, Cond.initialized RX0, Cond.fieldLink RX9 94 "WellTalk" "bestCoins" "[LWellTalk$BestCoin;", Cond.fieldLink RX9 98 "WellTalk" "coinsStale" "Z", Cond.methodLink RX9 9 yX7_init, Cond.instanceMethod yX7_init, Cond.code yX7_init cX7_init 2 none, Cond.methodLink RX7 3 objectInit, Cond.fieldLink RX7 9 "WellTalk$Text" "fault" "I", Cond.methodLink RX7 15 Lib.Math.max.name, Cond.static Lib.Math.max.name, Cond.initialized "java/lang/Math", Cond.code Lib.Math.max.name Lib.Math.max.code 2 (some .int), Cond.fieldLink RX7 21 "WellTalk$Text" "bytes" "[I", Cond.instanceMethod yX8_init, Cond.code yX8_init cX8_init 1 none, Cond.methodLink RX8 3 objectInit, Cond.fieldLink RX8 9 "WellTalk$Wells" "stone" "[I", Cond.fieldLink RX8 15 "WellTalk$Wells" "height" "[I"]
def wsL_law_r4 : List Cond := [Cond.fieldLink RX8 18 "WellTalk$Wells" "down" "[I", Cond.fieldLink RX8 21 "WellTalk$Wells" "up" "[I", Cond.fieldLink RX8 24 "WellTalk$Wells" "last" "I", Cond.instanceMethod yX5_init, Cond.code yX5_init cX5_init 1 none, Cond.methodLink RX5 3 objectInit, Cond.fieldLink RX5 9 "WellTalk$Sayings" "hour" "[I", Cond.fieldLink RX5 15 "WellTalk$Sayings" "well" "[I", Cond.fieldLink RX5 18 "WellTalk$Sayings" "bucket" "[I", Cond.fieldLink RX5 21 "WellTalk$Sayings" "size" "[I", Cond.fieldLink RX5 24 "WellTalk$Sayings" "letters" "[I", Cond.instanceMethod yX2_init, Cond.code yX2_init cX2_init 1 none, Cond.methodLink RX2 3 objectInit, Cond.fieldLink RX2 9 "WellTalk$Events" "kind" "[I", Cond.fieldLink RX2 15 "WellTalk$Events" "hour" "[I", Cond.fieldLink RX2 18 "WellTalk$Events" "well" "[I", Cond.instanceMethod yX1_init, Cond.code yX1_init cX1_init 1 none, Cond.methodLink RX1 3 objectInit, Cond.fieldLink RX1 9 "WellTalk$Draws" "hour" "[I", Cond.fieldLink RX1 15 "WellTalk$Draws" "saying" "[I", Cond.fieldLink RX1 18 "WellTalk$Draws" "letters" "[I", Cond.instanceMethod yX6_init]
def wsL_law_r5 : List Cond := [Cond.code yX6_init cX6_init 1 none, Cond.methodLink RX6 3 objectInit, Cond.fieldLink RX6 9 "WellTalk$Sheet" "items" "[I", Cond.fieldLink RX6 15 "WellTalk$Sheet" "form" "I", Cond.instanceMethod yX3_init, Cond.code yX3_init cX3_init 1 none, Cond.methodLink RX3 3 objectInit, Cond.fieldLink RX3 9 "WellTalk$Hours" "coins" "[I", Cond.fieldLink RX3 15 "WellTalk$Hours" "covered" "[I", Cond.arrayClass .boolean, Cond.fieldLink RX3 18 "WellTalk$Hours" "dry" "[Z", Cond.instanceMethod yX4_init, Cond.code yX4_init cX4_init 1 none, Cond.methodLink RX4 3 objectInit, Cond.fieldLink RX4 9 "WellTalk$Path" "well" "[I", Cond.fieldLink RX4 15 "WellTalk$Path" "first" "[I", Cond.fieldLink RX4 18 "WellTalk$Path" "left" "[I", Cond.fieldLink RX4 21 "WellTalk$Path" "heard" "[I", Cond.instanceMethod yX0_init, Cond.code yX0_init cX0_init 1 none, Cond.methodLink RX0 3 objectInit, Cond.fieldLink RX0 9 "WellTalk$BestCoin" "hour" "I", Cond.fieldLink RX0 15 "WellTalk$BestCoin" "well" "I", Cond.fieldLink RX0 18 "WellTalk$BestCoin" "many" "I"]
def wsL_law_r6 : List Cond := [Cond.methodLink RL 12 yX10_init, Cond.instanceMethod yX10_init, Cond.code yX10_init cX10_init 2 none, Cond.methodLink RX10 1 objectInit, Cond.fieldLink RX10 7 "WellTalkModel" "forms" "[I", Cond.fieldLink RX10 13 "WellTalkModel" "sizes" "[I", Cond.fieldLink RX10 16 "WellTalkModel" "items" "[I", Cond.fieldLink RX10 19 "WellTalkModel" "moved" "[I", Cond.fieldLink RX10 22 "WellTalkModel" "bytes" "[I", Cond.fieldLink RX10 25 "WellTalkModel" "typed" "[I", Cond.fieldLink RX10 28 "WellTalkModel" "well" "[I", Cond.fieldLink RX10 31 "WellTalkModel" "saying" "[I", Cond.fieldLink RX10 34 "WellTalkModel" "event" "[I", Cond.fieldLink RX10 37 "WellTalkModel" "at" "[I", Cond.fieldLink RX10 40 "WellTalkModel" "since" "[I", Cond.fieldLink RX10 43 "WellTalkModel" "came" "[I", Cond.fieldLink RX10 46 "WellTalkModel" "from" "[I", Cond.fieldLink RX10 49 "WellTalkModel" "left" "[I", Cond.fieldLink RX10 52 "WellTalkModel" "lost" "[Z", Cond.fieldLink RX10 56 "WellTalkModel" "atBy" "[I", Cond.fieldLink RX10 59 "WellTalkModel" "fromBy" "[I", Cond.fieldLink RX10 62 "WellTalkModel" "leftBy" "[I", Cond.fieldLink RX10 65 "WellTalkModel" "heardBy" "[I", Cond.fieldLink RX10 68 "WellTalkModel" "drawing" "[I"]
def wsL_law_r7 : List Cond := [Cond.fieldLink RX10 71 "WellTalkModel" "inIt" "[I", Cond.fieldLink RX10 74 "WellTalkModel" "told" "[I", Cond.fieldLink RX10 77 "WellTalkModel" "oddHour" "I", Cond.methodLink RL 13 yX9_type, Cond.instanceMethod yX9_type, Cond.selects RX9 yX9_type yX9_type, Cond.code yX9_type cX9_type 3 (some .int), Cond.methodLink RX9 101 yX9_in, Cond.static yX9_in, Cond.code yX9_in cX9_in 2 (some .boolean), Cond.methodLink RX9 105 yX7_add, Cond.instanceMethod yX7_add, Cond.selects RX7 yX7_add yX7_add, Cond.code yX7_add cX7_add 2 (some .boolean), Cond.fieldLink RX7 25 "WellTalk$Text" "length" "I", Cond.methodLink RX9 109 yX9_textChanged, Cond.instanceMethod yX9_textChanged, Cond.selects RX9 yX9_textChanged yX9_textChanged, Cond.code yX9_textChanged cX9_textChanged 2 none, Cond.methodLink RX9 377 yX8_take, Cond.instanceMethod yX8_take, Cond.selects RX8 yX8_take yX8_take, Cond.code yX8_take cX8_take 3 (some .int), Cond.fieldLink RX8 28 "WellTalk$Wells" "count" "I"]
def wsL_law_r8 : List Cond := [Cond.methodLink RX8 36 yX8_takeAll, Cond.instanceMethod yX8_takeAll, Cond.selects RX8 yX8_takeAll yX8_takeAll, Cond.code yX8_takeAll cX8_takeAll 4 (some .int), Cond.methodLink RX8 45 yX7_sign, Cond.instanceMethod yX7_sign, Cond.selects RX7 yX7_sign yX7_sign, Cond.code yX7_sign cX7_sign 3 (some .int), Cond.methodLink RX7 32 yJ0_indexOf_0f7a4, Cond.instanceMethod yJ0_indexOf_0f7a4, Cond.selects RJ0 yJ0_indexOf_0f7a4 yJ0_indexOf_0f7a4, Cond.initialized RJ0, Cond.code yJ0_indexOf_0f7a4 cJ0_indexOf_0f7a4 2 (some .int), Cond.methodLink RJ0 633 yJ0_indexOf_7cf53, Cond.instanceMethod yJ0_indexOf_7cf53, Cond.selects RJ0 yJ0_indexOf_7cf53 yJ0_indexOf_7cf53, Cond.code yJ0_indexOf_7cf53 cJ0_indexOf_7cf53 3 (some .int), Cond.fieldLink RJ0 9 "java/lang/String" "value" "[B", Cond.methodLink RJ0 492 yJ0_isLatin1_aae02, Cond.instanceMethod yJ0_isLatin1_aae02, Cond.selects RJ0 yJ0_isLatin1_aae02 yJ0_isLatin1_aae02, Cond.code yJ0_isLatin1_aae02 cJ0_isLatin1_aae02 1 (some .boolean), Cond.fieldLink RJ0 38 "java/lang/String" "COMPACT_STRINGS" "Z", Cond.fieldLink RJ0 15 "java/lang/String" "coder" "B"]
def wsL_law_r9 : List Cond := [Cond.methodLink RJ0 505 yJ0_length_8abf5, Cond.instanceMethod yJ0_length_8abf5, Cond.selects RJ0 yJ0_length_8abf5 yJ0_length_8abf5, Cond.code yJ0_length_8abf5 cJ0_length_8abf5 1 (some .int), Cond.methodLink RJ0 335 yJ0_coder_7d493, Cond.instanceMethod yJ0_coder_7d493, Cond.selects RJ0 yJ0_coder_7d493 yJ0_coder_7d493, Cond.code yJ0_coder_7d493 cJ0_coder_7d493 1 (some .byte), Cond.methodLink RJ0 637 yJ1_indexOf_4cfef, Cond.static yJ1_indexOf_4cfef, Cond.initialized RJ1, Cond.code yJ1_indexOf_4cfef cJ1_indexOf_4cfef 4 (some .int), Cond.methodLink RJ1 92 Lib.Math.max.name, Cond.methodLink RJ1 38 Lib.Math.min.name, Cond.static Lib.Math.min.name, Cond.code Lib.Math.min.name Lib.Math.min.code 2 (some .int), Cond.methodLink RJ1 88 yJ1_canEncode_9a6ad, Cond.static yJ1_canEncode_9a6ad, Cond.code yJ1_canEncode_9a6ad cJ1_canEncode_9a6ad 1 (some .boolean), Cond.methodLink RJ1 95 yJ1_indexOfChar_4cfef, Cond.static yJ1_indexOfChar_4cfef, Cond.code yJ1_indexOfChar_4cfef cJ1_indexOfChar_4cfef 6 (some .int), Cond.methodLink RJ0 640 yJ2_indexOf_4cfef, Cond.static yJ2_indexOf_4cfef]
def wsL_law_r10 : List Cond := [Cond.initialized RJ2, Cond.code yJ2_indexOf_4cfef cJ2_indexOf_4cfef 4 (some .int), Cond.methodLink RJ2 224 Lib.Math.max.name, Cond.methodLink RJ2 183 Lib.Math.min.name, Cond.constant RJ2 227 (65536), Cond.methodLink RJ2 228 yJ2_indexOfChar_4cfef, Cond.static yJ2_indexOfChar_4cfef, Cond.code yJ2_indexOfChar_4cfef cJ2_indexOfChar_4cfef 4 (some .int), Cond.methodLink RJ2 96 yJ2_checkBoundsBeginEnd_d044e, Cond.static yJ2_checkBoundsBeginEnd_d044e, Cond.code yJ2_checkBoundsBeginEnd_d044e cJ2_checkBoundsBeginEnd_d044e 3 none, Cond.methodLink RJ2 48 yJ2_length_9d52b, Cond.static yJ2_length_9d52b, Cond.code yJ2_length_9d52b cJ2_length_9d52b 1 (some .int), Cond.methodLink RJ2 241 yJ0_checkBoundsBeginEnd_23922, Cond.static yJ0_checkBoundsBeginEnd_23922, Cond.code yJ0_checkBoundsBeginEnd_23922 cJ0_checkBoundsBeginEnd_23922 3 none, Cond.fieldLink RJ0 1053 "jdk/internal/util/Preconditions" "SIOOBE_FORMATTER" "Ljava/util/function/BiFunction;", Cond.methodLink RJ0 1062 yJ3_checkFromToIndex_8c36e, Cond.static yJ3_checkFromToIndex_8c36e, Cond.initialized RJ3, Cond.code yJ3_checkFromToIndex_8c36e cJ3_checkFromToIndex_8c36e 4 (some .int), Cond.methodLink RJ2 244 yJ2_indexOfCharUnsafe_4cfef, Cond.static yJ2_indexOfCharUnsafe_4cfef]
def wsL_law_r11 : List Cond := [Cond.code yJ2_indexOfCharUnsafe_4cfef cJ2_indexOfCharUnsafe_4cfef 5 (some .int), Cond.methodLink RJ2 71 yJ2_getChar_3b067, Cond.static yJ2_getChar_3b067, Cond.code yJ2_getChar_3b067 cJ2_getChar_3b067 2 (some .char), Cond.fieldLink RJ2 44 "java/lang/StringUTF16" "$assertionsDisabled" "Z", Cond.fieldLink RJ2 59 "java/lang/StringUTF16" "HI_BYTE_SHIFT" "I", Cond.fieldLink RJ2 63 "java/lang/StringUTF16" "LO_BYTE_SHIFT" "I", Cond.methodLink RJ2 232 yJ2_indexOfSupplementary_4cfef, Cond.static yJ2_indexOfSupplementary_4cfef, Cond.code yJ2_indexOfSupplementary_4cfef cJ2_indexOfSupplementary_4cfef 7 (some .int), Cond.methodLink RJ2 164 yJ11_isValidCodePoint_9a6ad, Cond.static yJ11_isValidCodePoint_9a6ad, Cond.initialized RJ11, Cond.code yJ11_isValidCodePoint_9a6ad cJ11_isValidCodePoint_9a6ad 2 (some .boolean), Cond.methodLink RJ2 157 yJ11_highSurrogate_5068e, Cond.static yJ11_highSurrogate_5068e, Cond.code yJ11_highSurrogate_5068e cJ11_highSurrogate_5068e 1 (some .char), Cond.constant RJ11 110 (55232), Cond.methodLink RJ2 161 yJ11_lowSurrogate_5068e, Cond.static yJ11_lowSurrogate_5068e, Cond.code yJ11_lowSurrogate_5068e cJ11_lowSurrogate_5068e 1 (some .char), Cond.constant RJ11 76 (56320), Cond.methodLink RX8 40 yX8_rank, Cond.instanceMethod yX8_rank]
def wsL_law_r12 : List Cond := [Cond.selects RX8 yX8_rank yX8_rank, Cond.code yX8_rank cX8_rank 3 none, Cond.methodLink RX9 381 yX5_take, Cond.instanceMethod yX5_take, Cond.selects RX5 yX5_take yX5_take, Cond.code yX5_take cX5_take 3 (some .int), Cond.fieldLink RX5 27 "WellTalk$Sayings" "count" "I", Cond.methodLink RX5 36 yX5_takeAll, Cond.instanceMethod yX5_takeAll, Cond.selects RX5 yX5_takeAll yX5_takeAll, Cond.code yX5_takeAll cX5_takeAll 5 (some .int), Cond.methodLink RX5 40 yX5_takeHead, Cond.instanceMethod yX5_takeHead, Cond.selects RX5 yX5_takeHead yX5_takeHead, Cond.code yX5_takeHead cX5_takeHead 4 (some .int), Cond.methodLink RX5 49 yX7_sign, Cond.methodLink RX5 44 yX5_takeWord, Cond.instanceMethod yX5_takeWord, Cond.selects RX5 yX5_takeWord yX5_takeWord, Cond.code yX5_takeWord cX5_takeWord 6 (some .int), Cond.methodLink RX9 157 yX9_changed, Cond.instanceMethod yX9_changed, Cond.selects RX9 yX9_changed yX9_changed, Cond.code yX9_changed cX9_changed 1 none]
def wsL_law_r13 : List Cond := [Cond.methodLink RL 17 yX10_type, Cond.instanceMethod yX10_type, Cond.selects RX10 yX10_type yX10_type, Cond.code yX10_type cX10_type 3 (some .int), Cond.constantLong RX10 114 (255), Cond.methodLink RX10 111 yX10_isTwo, Cond.static yX10_isTwo, Cond.code yX10_isTwo cX10_isTwo 1 (some .boolean), Cond.methodLink RX10 83 yX10_in, Cond.static yX10_in, Cond.code yX10_in cX10_in 6 (some .boolean), Cond.methodLink RL 18 yX9_wipe, Cond.instanceMethod yX9_wipe, Cond.selects RX9 yX9_wipe yX9_wipe, Cond.code yX9_wipe cX9_wipe 3 (some .int), Cond.methodLink RL 22 yX10_wipe, Cond.instanceMethod yX10_wipe, Cond.selects RX10 yX10_wipe yX10_wipe, Cond.code yX10_wipe cX10_wipe 3 (some .int), Cond.methodLink RL 23 yX9_undo, Cond.instanceMethod yX9_undo, Cond.selects RX9 yX9_undo yX9_undo, Cond.code yX9_undo cX9_undo 2 (some .int), Cond.methodLink RL 26 yX10_undo]
def wsL_law_r14 : List Cond := [Cond.instanceMethod yX10_undo, Cond.selects RX10 yX10_undo yX10_undo, Cond.code yX10_undo cX10_undo 2 (some .int), Cond.methodLink RL 27 yX9_fault, Cond.instanceMethod yX9_fault, Cond.selects RX9 yX9_fault yX9_fault, Cond.code yX9_fault cX9_fault 2 (some .int), Cond.methodLink RL 30 yX10_fault, Cond.instanceMethod yX10_fault, Cond.selects RX10 yX10_fault yX10_fault, Cond.code yX10_fault cX10_fault 2 (some .int), Cond.methodLink RX10 147 yX10_readsText, Cond.instanceMethod yX10_readsText, Cond.selects RX10 yX10_readsText yX10_readsText, Cond.code yX10_readsText cX10_readsText 2 (some .int), Cond.methodLink RX10 140 yX10_readsWells, Cond.instanceMethod yX10_readsWells, Cond.selects RX10 yX10_readsWells yX10_readsWells, Cond.code yX10_readsWells cX10_readsWells 5 (some .int), Cond.fieldLink RX10 120 "WellTalkModel" "wells" "I", Cond.methodLink RX10 123 yX10_wellOf, Cond.static yX10_wellOf, Cond.code yX10_wellOf cX10_wellOf 2 (some .int), Cond.constantLong RX10 116 (48)]
def wsL_law_r15 : List Cond := [Cond.constantLong RX10 118 (57), Cond.methodLink RX10 144 yX10_readsSayings, Cond.instanceMethod yX10_readsSayings, Cond.selects RX10 yX10_readsSayings yX10_readsSayings, Cond.code yX10_readsSayings cX10_readsSayings 7 (some .int), Cond.fieldLink RX10 134 "WellTalkModel" "sayings" "I", Cond.methodLink RX10 137 yX10_sayingOf, Cond.static yX10_sayingOf, Cond.code yX10_sayingOf cX10_sayingOf 2 (some .int), Cond.constantLong RX10 126 (97), Cond.constantLong RX10 128 (120), Cond.constantLong RX10 130 (55), Cond.constantLong RX10 132 (104), Cond.methodLink RL 31 yX9_well, Cond.instanceMethod yX9_well, Cond.selects RX9 yX9_well yX9_well, Cond.code yX9_well cX9_well 3 (some .int), Cond.methodLink RL 34 yX10_well, Cond.instanceMethod yX10_well, Cond.selects RX10 yX10_well yX10_well, Cond.code yX10_well cX10_well 3 (some .int), Cond.constantLong RX10 90 (3), Cond.methodLink RX10 160 yX10_isWell, Cond.instanceMethod yX10_isWell]
def wsL_law_r16 : List Cond := [Cond.selects RX10 yX10_isWell yX10_isWell, Cond.code yX10_isWell cX10_isWell 2 (some .boolean), Cond.methodLink RX10 163 yX10_wellBy, Cond.instanceMethod yX10_wellBy, Cond.selects RX10 yX10_wellBy yX10_wellBy, Cond.code yX10_wellBy cX10_wellBy 3 (some .int), Cond.methodLink RX10 154 yX10_down, Cond.instanceMethod yX10_down, Cond.selects RX10 yX10_down yX10_down, Cond.code yX10_down cX10_down 5 (some .int), Cond.methodLink RX10 157 yX10_up, Cond.instanceMethod yX10_up, Cond.selects RX10 yX10_up yX10_up, Cond.code yX10_up cX10_up 5 (some .int), Cond.methodLink RL 35 yX9_saying, Cond.instanceMethod yX9_saying, Cond.selects RX9 yX9_saying yX9_saying, Cond.code yX9_saying cX9_saying 3 (some .int), Cond.methodLink RX9 147 yX5_letter, Cond.instanceMethod yX5_letter, Cond.selects RX5 yX5_letter yX5_letter, Cond.code yX5_letter cX5_letter 3 (some .int), Cond.methodLink RL 38 yX10_saying, Cond.instanceMethod yX10_saying]
def wsL_law_r17 : List Cond := [Cond.selects RX10 yX10_saying yX10_saying, Cond.code yX10_saying cX10_saying 3 (some .int), Cond.constantLong RX10 152 (7), Cond.methodLink RX10 166 yX10_isSaying, Cond.instanceMethod yX10_isSaying, Cond.selects RX10 yX10_isSaying yX10_isSaying, Cond.code yX10_isSaying cX10_isSaying 2 (some .boolean), Cond.methodLink RX10 169 yX10_sayingBy, Cond.instanceMethod yX10_sayingBy, Cond.selects RX10 yX10_sayingBy yX10_sayingBy, Cond.code yX10_sayingBy cX10_sayingBy 3 (some .int), Cond.methodLink RL 39 yX9_event, Cond.instanceMethod yX9_event, Cond.selects RX9 yX9_event yX9_event, Cond.code yX9_event cX9_event 4 (some .int), Cond.methodLink RX9 151 yX9_mayBeEvent, Cond.static yX9_mayBeEvent, Cond.code yX9_mayBeEvent cX9_mayBeEvent 3 (some .boolean), Cond.methodLink RX9 155 yX2_add, Cond.instanceMethod yX2_add, Cond.selects RX2 yX2_add yX2_add, Cond.code yX2_add cX2_add 4 (some .boolean), Cond.fieldLink RX2 21 "WellTalk$Events" "count" "I", Cond.methodLink RL 43 yX10_event]
def wsL_law_r18 : List Cond := [Cond.instanceMethod yX10_event, Cond.selects RX10 yX10_event yX10_event, Cond.code yX10_event cX10_event 4 (some .int), Cond.constantLong RX10 96 (2), Cond.fieldLink RX10 172 "WellTalkModel" "events" "I", Cond.methodLink RX10 175 yX10_isHour, Cond.static yX10_isHour, Cond.code yX10_isHour cX10_isHour 1 (some .boolean), Cond.constantLong RX10 150 (39), Cond.methodLink RX10 178 yX10_isEight, Cond.static yX10_isEight, Cond.code yX10_isEight cX10_isEight 1 (some .boolean), Cond.methodLink RX10 181 yX10_puts, Cond.instanceMethod yX10_puts, Cond.selects RX10 yX10_puts yX10_puts, Cond.code yX10_puts cX10_puts 4 none, Cond.methodLink RL 44 yX9_back, Cond.instanceMethod yX9_back, Cond.selects RX9 yX9_back yX9_back, Cond.code yX9_back cX9_back 1 (some .int), Cond.methodLink RL 48 yX10_back, Cond.instanceMethod yX10_back, Cond.selects RX10 yX10_back yX10_back, Cond.code yX10_back cX10_back 1 (some .int)]
def wsL_law_r19 : List Cond := [Cond.methodLink RL 49 yX9_read, Cond.instanceMethod yX9_read, Cond.selects RX9 yX9_read yX9_read, Cond.code yX9_read cX9_read 3 (some .int), Cond.methodLink RX9 161 yX6_isLost, Cond.instanceMethod yX6_isLost, Cond.selects RX6 yX6_isLost yX6_isLost, Cond.code yX6_isLost cX6_isLost 1 (some .boolean), Cond.methodLink RX9 165 yX9_finding, Cond.instanceMethod yX9_finding, Cond.selects RX9 yX9_finding yX9_finding, Cond.code yX9_finding cX9_finding 2 (some .int), Cond.fieldLink RX9 309 "WellTalk" "latestFinding" "I", Cond.methodLink RX9 169 yX9_addEvents, Cond.instanceMethod yX9_addEvents, Cond.selects RX9 yX9_addEvents yX9_addEvents, Cond.code yX9_addEvents cX9_addEvents 7 (some .int), Cond.methodLink RL 52 yX10_read, Cond.instanceMethod yX10_read, Cond.selects RX10 yX10_read yX10_read, Cond.code yX10_read cX10_read 5 (some .int), Cond.methodLink RX10 92 yX10_isSheet, Cond.static yX10_isSheet, Cond.code yX10_isSheet cX10_isSheet 1 (some .boolean)]
def wsL_law_r20 : List Cond := [Cond.methodLink RX10 98 yX10_finds, Cond.instanceMethod yX10_finds, Cond.selects RX10 yX10_finds yX10_finds, Cond.code yX10_finds cX10_finds 2 (some .int), Cond.fieldLink RX10 87 "WellTalkModel" "latest" "I", Cond.methodLink RX10 185 yX10_event, Cond.methodLink RL 53 yX9_at, Cond.instanceMethod yX9_at, Cond.selects RX9 yX9_at yX9_at, Cond.code yX9_at cX9_at 6 (some .int), Cond.methodLink RX9 173 yX9_refresh, Cond.instanceMethod yX9_refresh, Cond.selects RX9 yX9_refresh yX9_refresh, Cond.code yX9_refresh cX9_refresh 2 none, Cond.methodLink RX9 232 yX3_fill, Cond.instanceMethod yX3_fill, Cond.selects RX3 yX3_fill yX3_fill, Cond.code yX3_fill cX3_fill 4 none, Cond.methodLink RX3 41 yX3_put, Cond.instanceMethod yX3_put, Cond.selects RX3 yX3_put yX3_put, Cond.code yX3_put cX3_put 5 none, Cond.methodLink RX9 198 yX4_follow, Cond.instanceMethod yX4_follow]
def wsL_law_r21 : List Cond := [Cond.selects RX4 yX4_follow yX4_follow, Cond.code yX4_follow cX4_follow 10 none, Cond.fieldLink RX4 24 "WellTalk$Path" "place" "I", Cond.fieldLink RX4 28 "WellTalk$Path" "comes" "I", Cond.fieldLink RX4 31 "WellTalk$Path" "from" "I", Cond.fieldLink RX4 39 "WellTalk$Path" "rest" "I", Cond.fieldLink RX4 42 "WellTalk$Path" "heardAt" "I", Cond.fieldLink RX4 63 "WellTalk$Path" "due" "I", Cond.methodLink RX4 53 yX4_begin, Cond.instanceMethod yX4_begin, Cond.selects RX4 yX4_begin yX4_begin, Cond.code yX4_begin cX4_begin 4 none, Cond.methodLink RX4 57 yX8_stay, Cond.instanceMethod yX8_stay, Cond.selects RX8 yX8_stay yX8_stay, Cond.code yX8_stay cX8_stay 2 (some .int), Cond.methodLink RX4 66 yX4_next, Cond.instanceMethod yX4_next, Cond.selects RX4 yX4_next yX4_next, Cond.code yX4_next cX4_next 8 (some .int), Cond.methodLink RX4 73 yX4_come, Cond.instanceMethod yX4_come, Cond.selects RX4 yX4_come yX4_come, Cond.code yX4_come cX4_come 4 none]
def wsL_law_r22 : List Cond := [Cond.methodLink RL 56 yX10_at, Cond.instanceMethod yX10_at, Cond.selects RX10 yX10_at yX10_at, Cond.code yX10_at cX10_at 4 (some .int), Cond.constantLong RX10 239 (4), Cond.methodLink RX10 236 yX10_find, Cond.instanceMethod yX10_find, Cond.selects RX10 yX10_find yX10_find, Cond.code yX10_find cX10_find 1 none, Cond.methodLink RX10 233 yX10_lives, Cond.instanceMethod yX10_lives, Cond.selects RX10 yX10_lives yX10_lives, Cond.code yX10_lives cX10_lives 2 none, Cond.methodLink RX10 230 yX10_livesOne, Cond.instanceMethod yX10_livesOne, Cond.selects RX10 yX10_livesOne yX10_livesOne, Cond.code yX10_livesOne cX10_livesOne 3 none, Cond.methodLink RX10 227 yX10_passes, Cond.instanceMethod yX10_passes, Cond.selects RX10 yX10_passes yX10_passes, Cond.code yX10_passes cX10_passes 4 (some .boolean), Cond.methodLink RX10 208 yX10_isCovered, Cond.instanceMethod yX10_isCovered, Cond.selects RX10 yX10_isCovered yX10_isCovered]
def wsL_law_r23 : List Cond := [Cond.code yX10_isCovered cX10_isCovered 5 (some .boolean), Cond.fieldLink RX10 187 "WellTalkModel" "not" "I", Cond.methodLink RX10 190 yX10_isIn, Cond.static yX10_isIn, Cond.code yX10_isIn cX10_isIn 2 (some .boolean), Cond.methodLink RX10 197 yX10_loses, Cond.instanceMethod yX10_loses, Cond.selects RX10 yX10_loses yX10_loses, Cond.code yX10_loses cX10_loses 2 none, Cond.methodLink RX10 215 yX10_lastWell, Cond.instanceMethod yX10_lastWell, Cond.selects RX10 yX10_lastWell yX10_lastWell, Cond.code yX10_lastWell cX10_lastWell 3 (some .int), Cond.methodLink RX10 218 yX10_isDrought, Cond.instanceMethod yX10_isDrought, Cond.selects RX10 yX10_isDrought yX10_isDrought, Cond.code yX10_isDrought cX10_isDrought 4 (some .boolean), Cond.methodLink RX10 221 yX10_driesUp, Cond.instanceMethod yX10_driesUp, Cond.selects RX10 yX10_driesUp yX10_driesUp, Cond.code yX10_driesUp cX10_driesUp 4 (some .boolean), Cond.methodLink RX10 211 yX10_comes, Cond.instanceMethod yX10_comes, Cond.selects RX10 yX10_comes yX10_comes]
def wsL_law_r24 : List Cond := [Cond.code yX10_comes cX10_comes 4 (some .boolean), Cond.methodLink RX10 224 yX10_goes, Cond.instanceMethod yX10_goes, Cond.selects RX10 yX10_goes yX10_goes, Cond.code yX10_goes cX10_goes 5 (some .boolean), Cond.methodLink RX10 201 yX10_isCoin, Cond.instanceMethod yX10_isCoin, Cond.selects RX10 yX10_isCoin yX10_isCoin, Cond.code yX10_isCoin cX10_isCoin 5 (some .boolean), Cond.fieldLink RX10 194 "WellTalkModel" "oddWell" "I", Cond.methodLink RX10 204 yX10_next, Cond.instanceMethod yX10_next, Cond.selects RX10 yX10_next yX10_next, Cond.code yX10_next cX10_next 3 (some .int), Cond.methodLink RX10 241 yX10_atOf, Cond.instanceMethod yX10_atOf, Cond.selects RX10 yX10_atOf yX10_atOf, Cond.code yX10_atOf cX10_atOf 6 (some .int), Cond.methodLink RL 57 yX9_hears, Cond.instanceMethod yX9_hears, Cond.selects RX9 yX9_hears yX9_hears, Cond.code yX9_hears cX9_hears 4 (some .int), Cond.methodLink RX9 186 yX4_isHeardAt, Cond.instanceMethod yX4_isHeardAt]
def wsL_law_r25 : List Cond := [Cond.selects RX4 yX4_isHeardAt yX4_isHeardAt, Cond.code yX4_isHeardAt cX4_isHeardAt 2 (some .boolean), Cond.methodLink RL 60 yX10_hears, Cond.instanceMethod yX10_hears, Cond.selects RX10 yX10_hears yX10_hears, Cond.code yX10_hears cX10_hears 2 (some .int), Cond.methodLink RX10 247 yX10_hearsOf, Cond.instanceMethod yX10_hearsOf, Cond.selects RX10 yX10_hearsOf yX10_hearsOf, Cond.code yX10_hearsOf cX10_hearsOf 4 (some .int), Cond.methodLink RX10 244 yX10_heardAt, Cond.instanceMethod yX10_heardAt, Cond.selects RX10 yX10_heardAt yX10_heardAt, Cond.code yX10_heardAt cX10_heardAt 5 (some .int), Cond.methodLink RL 61 yX9_soon, Cond.instanceMethod yX9_soon, Cond.selects RX9 yX9_soon yX9_soon, Cond.code yX9_soon cX9_soon 5 (some .int), Cond.methodLink RX9 189 yX4_firstHeard, Cond.instanceMethod yX4_firstHeard, Cond.selects RX4 yX4_firstHeard yX4_firstHeard, Cond.code yX4_firstHeard cX4_firstHeard 3 (some .int), Cond.methodLink RL 64 yX10_soon, Cond.instanceMethod yX10_soon]
def wsL_law_r26 : List Cond := [Cond.selects RX10 yX10_soon yX10_soon, Cond.code yX10_soon cX10_soon 2 (some .int), Cond.methodLink RX10 250 yX10_soonOf, Cond.instanceMethod yX10_soonOf, Cond.selects RX10 yX10_soonOf yX10_soonOf, Cond.code yX10_soonOf cX10_soonOf 5 (some .int), Cond.methodLink RL 65 yX9_gone, Cond.instanceMethod yX9_gone, Cond.selects RX9 yX9_gone yX9_gone, Cond.code yX9_gone cX9_gone 3 (some .int), Cond.methodLink RX9 192 yX4_isGone, Cond.instanceMethod yX4_isGone, Cond.selects RX4 yX4_isGone yX4_isGone, Cond.code yX4_isGone cX4_isGone 1 (some .boolean), Cond.methodLink RL 68 yX10_gone, Cond.instanceMethod yX10_gone, Cond.selects RX10 yX10_gone yX10_gone, Cond.code yX10_gone cX10_gone 1 (some .int), Cond.methodLink RX10 253 yX10_goneNow, Cond.instanceMethod yX10_goneNow, Cond.selects RX10 yX10_goneNow yX10_goneNow, Cond.code yX10_goneNow cX10_goneNow 3 (some .int), Cond.methodLink RL 69 yX9_babel, Cond.instanceMethod yX9_babel]
def wsL_law_r27 : List Cond := [Cond.selects RX9 yX9_babel yX9_babel, Cond.code yX9_babel cX9_babel 4 (some .int), Cond.methodLink RX9 195 yX9_leastWellOfTwo, Cond.instanceMethod yX9_leastWellOfTwo, Cond.selects RX9 yX9_leastWellOfTwo yX9_leastWellOfTwo, Cond.code yX9_leastWellOfTwo cX9_leastWellOfTwo 6 (some .int), Cond.methodLink RL 72 yX10_babel, Cond.instanceMethod yX10_babel, Cond.selects RX10 yX10_babel yX10_babel, Cond.code yX10_babel cX10_babel 2 (some .int), Cond.methodLink RX10 256 yX10_babelBy, Cond.instanceMethod yX10_babelBy, Cond.selects RX10 yX10_babelBy yX10_babelBy, Cond.code yX10_babelBy cX10_babelBy 6 (some .int), Cond.methodLink RL 73 yX9_tell, Cond.instanceMethod yX9_tell, Cond.selects RX9 yX9_tell yX9_tell, Cond.code yX9_tell cX9_tell 8 (some .int), Cond.methodLink RL 76 yX10_tell, Cond.instanceMethod yX10_tell, Cond.selects RX10 yX10_tell yX10_tell, Cond.code yX10_tell cX10_tell 4 (some .int), Cond.methodLink RX10 259 yX10_tellOf, Cond.instanceMethod yX10_tellOf]
def wsL_law_r28 : List Cond := [Cond.selects RX10 yX10_tellOf yX10_tellOf, Cond.code yX10_tellOf cX10_tellOf 10 (some .int), Cond.methodLink RL 77 yX9_toss, Cond.instanceMethod yX9_toss, Cond.selects RX9 yX9_toss yX9_toss, Cond.code yX9_toss cX9_toss 3 (some .int), Cond.methodLink RX9 202 yX9_planCoins, Cond.instanceMethod yX9_planCoins, Cond.selects RX9 yX9_planCoins yX9_planCoins, Cond.code yX9_planCoins cX9_planCoins 4 none, Cond.methodLink RX9 383 yX0_clear, Cond.instanceMethod yX0_clear, Cond.selects RX0 yX0_clear yX0_clear, Cond.code yX0_clear cX0_clear 1 none, Cond.methodLink RX9 386 yX9_countHeard, Cond.instanceMethod yX9_countHeard, Cond.selects RX9 yX9_countHeard yX9_countHeard, Cond.code yX9_countHeard cX9_countHeard 7 none, Cond.methodLink RX9 393 yJ7_fill_53178, Cond.static yJ7_fill_53178, Cond.initialized RJ7, Cond.code yJ7_fill_53178 cJ7_fill_53178 4 none, Cond.methodLink RX9 389 yX0_offer, Cond.instanceMethod yX0_offer]
def wsL_law_r29 : List Cond := [Cond.selects RX0 yX0_offer yX0_offer, Cond.code yX0_offer cX0_offer 4 none, Cond.methodLink RL 80 yX10_toss, Cond.instanceMethod yX10_toss, Cond.selects RX10 yX10_toss yX10_toss, Cond.code yX10_toss cX10_toss 3 (some .int), Cond.methodLink RX10 268 yX10_tossOf, Cond.instanceMethod yX10_tossOf, Cond.selects RX10 yX10_tossOf yX10_tossOf, Cond.code yX10_tossOf cX10_tossOf 7 (some .int), Cond.methodLink RX10 262 yX10_ones, Cond.static yX10_ones, Cond.code yX10_ones cX10_ones 3 (some .int), Cond.methodLink RX10 265 yX10_greater, Cond.static yX10_greater, Cond.code yX10_greater cX10_greater 2 (some .int), Cond.methodLink RL 81 yX9_open, Cond.instanceMethod yX9_open, Cond.selects RX9 yX9_open yX9_open, Cond.code yX9_open cX9_open 4 (some .int), Cond.methodLink RX9 212 yX9_allHeardWithout, Cond.instanceMethod yX9_allHeardWithout, Cond.selects RX9 yX9_allHeardWithout yX9_allHeardWithout, Cond.code yX9_allHeardWithout cX9_allHeardWithout 4 (some .boolean)]
def wsL_law_r30 : List Cond := [Cond.methodLink RX9 215 yX9_oneLidToOpen, Cond.instanceMethod yX9_oneLidToOpen, Cond.selects RX9 yX9_oneLidToOpen yX9_oneLidToOpen, Cond.code yX9_oneLidToOpen cX9_oneLidToOpen 3 (some .int), Cond.methodLink RX9 218 yX9_twoLidsToOpen, Cond.instanceMethod yX9_twoLidsToOpen, Cond.selects RX9 yX9_twoLidsToOpen yX9_twoLidsToOpen, Cond.code yX9_twoLidsToOpen cX9_twoLidsToOpen 6 (some .int), Cond.methodLink RL 84 yX10_open, Cond.instanceMethod yX10_open, Cond.selects RX10 yX10_open yX10_open, Cond.code yX10_open cX10_open 3 (some .int), Cond.constantLong RX10 277 (-1), Cond.methodLink RX10 279 yX10_openOf, Cond.instanceMethod yX10_openOf, Cond.selects RX10 yX10_openOf yX10_openOf, Cond.code yX10_openOf cX10_openOf 5 (some .int), Cond.methodLink RX10 271 yX10_isOpen, Cond.instanceMethod yX10_isOpen, Cond.selects RX10 yX10_isOpen yX10_isOpen, Cond.code yX10_isOpen cX10_isOpen 3 (some .boolean), Cond.methodLink RX10 274 yX10_isLid, Cond.instanceMethod yX10_isLid, Cond.selects RX10 yX10_isLid yX10_isLid]
def wsL_law_r31 : List Cond := [Cond.code yX10_isLid cX10_isLid 2 (some .boolean), Cond.methodLink RL 85 yX9_iron, Cond.instanceMethod yX9_iron, Cond.selects RX9 yX9_iron yX9_iron, Cond.code yX9_iron cX9_iron 8 (some .int), Cond.methodLink RX9 221 yX9_gone, Cond.methodLink RX9 225 yJ6_bitCount_0f7a4, Cond.static yJ6_bitCount_0f7a4, Cond.initialized RJ6, Cond.code yJ6_bitCount_0f7a4 cJ6_bitCount_0f7a4 1 (some .int), Cond.constant RJ6 265 (1431655765), Cond.constant RJ6 266 (858993459), Cond.constant RJ6 267 (252645135), Cond.methodLink RL 88 yX10_iron, Cond.instanceMethod yX10_iron, Cond.selects RX10 yX10_iron yX10_iron, Cond.code yX10_iron cX10_iron 2 (some .int), Cond.methodLink RX10 285 yX10_ironBy, Cond.instanceMethod yX10_ironBy, Cond.selects RX10 yX10_ironBy yX10_ironBy, Cond.code yX10_ironBy cX10_ironBy 7 (some .int), Cond.methodLink RX10 282 yX10_lesser, Cond.static yX10_lesser, Cond.code yX10_lesser cX10_lesser 2 (some .int)]
def wsL_law_r32 : List Cond := [Cond.methodLink RL 89 yX9_draw, Cond.instanceMethod yX9_draw, Cond.selects RX9 yX9_draw yX9_draw, Cond.code yX9_draw cX9_draw 4 (some .int), Cond.methodLink RX9 230 yX1_add, Cond.instanceMethod yX1_add, Cond.selects RX1 yX1_add yX1_add, Cond.code yX1_add cX1_add 4 (some .boolean), Cond.fieldLink RX1 21 "WellTalk$Draws" "count" "I", Cond.methodLink RL 92 yX10_draw, Cond.instanceMethod yX10_draw, Cond.selects RX10 yX10_draw yX10_draw, Cond.code yX10_draw cX10_draw 4 (some .int), Cond.fieldLink RX10 288 "WellTalkModel" "drawings" "I", Cond.methodLink RL 93 yX9_forget, Cond.instanceMethod yX9_forget, Cond.selects RX9 yX9_forget yX9_forget, Cond.code yX9_forget cX9_forget 2 (some .int), Cond.methodLink RL 96 yX10_forget, Cond.instanceMethod yX10_forget, Cond.selects RX10 yX10_forget yX10_forget, Cond.code yX10_forget cX10_forget 2 (some .int), Cond.methodLink RL 97 yX9_never, Cond.instanceMethod yX9_never]
def wsL_law_r33 : List Cond := [Cond.selects RX9 yX9_never yX9_never, Cond.code yX9_never cX9_never 3 (some .int), Cond.methodLink RX9 236 yX9_comesOut, Cond.instanceMethod yX9_comesOut, Cond.selects RX9 yX9_comesOut yX9_comesOut, Cond.code yX9_comesOut cX9_comesOut 7 (some .boolean), Cond.methodLink RL 100 yX10_never, Cond.instanceMethod yX10_never, Cond.selects RX10 yX10_never yX10_never, Cond.code yX10_never cX10_never 1 (some .int), Cond.methodLink RX10 295 yX10_neverNow, Cond.instanceMethod yX10_neverNow, Cond.selects RX10 yX10_neverNow yX10_neverNow, Cond.code yX10_neverNow cX10_neverNow 3 (some .int), Cond.methodLink RX10 291 yX10_isDrawn, Cond.instanceMethod yX10_isDrawn, Cond.selects RX10 yX10_isDrawn yX10_isDrawn, Cond.code yX10_isDrawn cX10_isDrawn 4 (some .boolean), Cond.methodLink RL 101 yX9_stone, Cond.instanceMethod yX9_stone, Cond.selects RX9 yX9_stone yX9_stone, Cond.code yX9_stone cX9_stone 3 (some .int), Cond.methodLink RX9 240 yX9_stonesOf, Cond.instanceMethod yX9_stonesOf]
def wsL_law_r34 : List Cond := [Cond.selects RX9 yX9_stonesOf yX9_stonesOf, Cond.code yX9_stonesOf cX9_stonesOf 4 (some .int), Cond.methodLink RX9 413 yX8_become, Cond.instanceMethod yX8_become, Cond.selects RX8 yX8_become yX8_become, Cond.code yX8_become cX8_become 3 none, Cond.methodLink RX9 243 yX9_heightsOf, Cond.instanceMethod yX9_heightsOf, Cond.selects RX9 yX9_heightsOf yX9_heightsOf, Cond.code yX9_heightsOf cX9_heightsOf 4 (some .int), Cond.methodLink RX9 417 yX8_raise, Cond.instanceMethod yX8_raise, Cond.selects RX8 yX8_raise yX8_raise, Cond.code yX8_raise cX8_raise 3 none, Cond.methodLink RL 104 yX10_stone, Cond.instanceMethod yX10_stone, Cond.selects RX10 yX10_stone yX10_stone, Cond.code yX10_stone cX10_stone 3 (some .int), Cond.methodLink RX10 304 yX10_stoneOf, Cond.instanceMethod yX10_stoneOf, Cond.selects RX10 yX10_stoneOf yX10_stoneOf, Cond.code yX10_stoneOf cX10_stoneOf 3 (some .int), Cond.methodLink RX10 298 yX10_stonesOf, Cond.instanceMethod yX10_stonesOf]
def wsL_law_r35 : List Cond := [Cond.selects RX10 yX10_stonesOf yX10_stonesOf, Cond.code yX10_stonesOf cX10_stonesOf 5 (some .int), Cond.methodLink RX10 301 yX10_stoodOf, Cond.instanceMethod yX10_stoodOf, Cond.selects RX10 yX10_stoodOf yX10_stoodOf, Cond.code yX10_stoodOf cX10_stoodOf 8 (some .int), Cond.methodLink RL 105 yX9_bucket, Cond.instanceMethod yX9_bucket, Cond.selects RX9 yX9_bucket yX9_bucket, Cond.code yX9_bucket cX9_bucket 4 (some .int), Cond.methodLink RL 108 yX10_bucket, Cond.instanceMethod yX10_bucket, Cond.selects RX10 yX10_bucket yX10_bucket, Cond.code yX10_bucket cX10_bucket 2 (some .int), Cond.methodLink RX10 307 yX10_bucketOf, Cond.instanceMethod yX10_bucketOf, Cond.selects RX10 yX10_bucketOf yX10_bucketOf, Cond.code yX10_bucketOf cX10_bucketOf 5 (some .int), Cond.methodLink RL 109 yX9_ask, Cond.instanceMethod yX9_ask, Cond.selects RX9 yX9_ask yX9_ask, Cond.code yX9_ask cX9_ask 7 (some .int), Cond.methodLink RX9 246 yX9_countInWell, Cond.instanceMethod yX9_countInWell]
def wsL_law_r36 : List Cond := [Cond.selects RX9 yX9_countInWell yX9_countInWell, Cond.code yX9_countInWell cX9_countInWell 6 none, Cond.methodLink RX9 250 yX9_mostAlike, Cond.instanceMethod yX9_mostAlike, Cond.selects RX9 yX9_mostAlike yX9_mostAlike, Cond.code yX9_mostAlike cX9_mostAlike 6 (some .int), Cond.methodLink RX9 420 Lib.Math.max.name, Cond.methodLink RL 112 yX10_ask, Cond.instanceMethod yX10_ask, Cond.selects RX10 yX10_ask yX10_ask, Cond.code yX10_ask cX10_ask 2 (some .int), Cond.methodLink RX10 313 yX10_askOf, Cond.instanceMethod yX10_askOf, Cond.selects RX10 yX10_askOf yX10_askOf, Cond.code yX10_askOf cX10_askOf 5 (some .int), Cond.methodLink RX10 310 yX10_alike, Cond.instanceMethod yX10_alike, Cond.selects RX10 yX10_alike yX10_alike, Cond.code yX10_alike cX10_alike 7 (some .int), Cond.methodLink RL 113 yX9_chance, Cond.instanceMethod yX9_chance, Cond.selects RX9 yX9_chance yX9_chance, Cond.code yX9_chance cX9_chance 10 (some .long), Cond.constantLong RX9 253 (-9223372036854775806)]
def wsL_law_r37 : List Cond := [Cond.constantLong RX9 259 (16), Cond.constantLong RX9 265 (2), Cond.methodLink RX9 255 yX9_heardWeight, Cond.instanceMethod yX9_heardWeight, Cond.selects RX9 yX9_heardWeight yX9_heardWeight, Cond.code yX9_heardWeight cX9_heardWeight 10 (some .long), Cond.methodLink RX9 261 yX9_power, Cond.static yX9_power, Cond.code yX9_power cX9_power 6 (some .long), Cond.methodLink RL 117 yX10_chance, Cond.instanceMethod yX10_chance, Cond.selects RX10 yX10_chance yX10_chance, Cond.code yX10_chance cX10_chance 5 (some .long), Cond.constantLong RX10 320 (16), Cond.methodLink RX10 322 yX10_chanceOf, Cond.instanceMethod yX10_chanceOf, Cond.selects RX10 yX10_chanceOf yX10_chanceOf, Cond.code yX10_chanceOf cX10_chanceOf 11 (some .long), Cond.methodLink RX10 316 yX10_part, Cond.static yX10_part, Cond.code yX10_part cX10_part 11 (some .long), Cond.methodLink RX10 326 yX10_no, Cond.static yX10_no, Cond.code yX10_no cX10_no 1 (some .long)]
def wsL_law_r38 : List Cond := [Cond.constantLong RX10 81 (-9223372036854775808), Cond.methodLink RL 118 yX9_day, Cond.instanceMethod yX9_day, Cond.selects RX9 yX9_day yX9_day, Cond.code yX9_day cX9_day 7 (some .int), Cond.methodLink RX9 267 yX9_drawLots, Cond.instanceMethod yX9_drawLots, Cond.selects RX9 yX9_drawLots yX9_drawLots, Cond.code yX9_drawLots cX9_drawLots 7 none, Cond.methodLink RX9 423 yX9_nextSeed, Cond.static yX9_nextSeed, Cond.code yX9_nextSeed cX9_nextSeed 1 (some .int), Cond.constant RX9 429 (1103515245), Cond.methodLink RX9 426 yX9_lot, Cond.static yX9_lot, Cond.code yX9_lot cX9_lot 2 (some .int), Cond.methodLink RL 121 yX10_day, Cond.instanceMethod yX10_day, Cond.selects RX10 yX10_day yX10_day, Cond.code yX10_day cX10_day 4 (some .int), Cond.constantLong RX10 337 (8), Cond.methodLink RX10 339 yX10_dayOf, Cond.instanceMethod yX10_dayOf, Cond.selects RX10 yX10_dayOf yX10_dayOf]
def wsL_law_r39 : List Cond := [Cond.code yX10_dayOf cX10_dayOf 8 (some .int), Cond.fieldLink RX10 331 "WellTalkModel" "drawn" "I", Cond.methodLink RX10 334 yX10_lot, Cond.instanceMethod yX10_lot, Cond.selects RX10 yX10_lot yX10_lot, Cond.code yX10_lot cX10_lot 2 (some .int), Cond.constant RX10 330 (1103515245), Cond.methodLink RL 122 yX9_sheet, Cond.instanceMethod yX9_sheet, Cond.selects RX9 yX9_sheet yX9_sheet, Cond.code yX9_sheet cX9_sheet 4 (some .int), Cond.methodLink RX9 273 yX6_renew, Cond.instanceMethod yX6_renew, Cond.selects RX6 yX6_renew yX6_renew, Cond.code yX6_renew cX6_renew 3 none, Cond.fieldLink RX6 19 "WellTalk$Sheet" "size" "I", Cond.methodLink RX6 22 yJ7_fill_53178, Cond.methodLink RL 125 yX10_sheet, Cond.instanceMethod yX10_sheet, Cond.selects RX10 yX10_sheet yX10_sheet, Cond.code yX10_sheet cX10_sheet 5 (some .int), Cond.methodLink RL 126 yX9_lose, Cond.instanceMethod yX9_lose, Cond.selects RX9 yX9_lose yX9_lose]
def wsL_law_r40 : List Cond := [Cond.code yX9_lose cX9_lose 3 (some .int), Cond.methodLink RL 129 yX10_lose, Cond.instanceMethod yX10_lose, Cond.selects RX10 yX10_lose yX10_lose, Cond.code yX10_lose cX10_lose 2 (some .int), Cond.methodLink RL 130 yX9_lay, Cond.instanceMethod yX9_lay, Cond.selects RX9 yX9_lay yX9_lay, Cond.code yX9_lay cX9_lay 6 (some .int), Cond.methodLink RX9 278 yX9_itemFinding, Cond.static yX9_itemFinding, Cond.code yX9_itemFinding cX9_itemFinding 3 (some .int), Cond.methodLink RX9 282 yX6_put, Cond.instanceMethod yX6_put, Cond.selects RX6 yX6_put yX6_put, Cond.code yX6_put cX6_put 3 none, Cond.methodLink RL 134 yX10_lay, Cond.instanceMethod yX10_lay, Cond.selects RX10 yX10_lay yX10_lay, Cond.code yX10_lay cX10_lay 6 (some .int), Cond.methodLink RX10 102 yX10_lacks, Cond.instanceMethod yX10_lacks, Cond.selects RX10 yX10_lacks yX10_lacks, Cond.code yX10_lacks cX10_lacks 4 (some .int)]
def wsL_law_r41 : List Cond := [Cond.methodLink RX10 106 yX10_cut, Cond.static yX10_cut, Cond.code yX10_cut cX10_cut 2 (some .int), Cond.methodLink RL 135 yX9_get, Cond.instanceMethod yX9_get, Cond.selects RX9 yX9_get yX9_get, Cond.code yX9_get cX9_get 5 (some .int), Cond.constant RX9 285 (-2147483648), Cond.methodLink RL 138 yX10_get, Cond.instanceMethod yX10_get, Cond.selects RX10 yX10_get yX10_get, Cond.code yX10_get cX10_get 4 (some .int), Cond.constant RX10 110 (-2147483648), Cond.methodLink RL 139 yX9_copy, Cond.instanceMethod yX9_copy, Cond.selects RX9 yX9_copy yX9_copy, Cond.code yX9_copy cX9_copy 8 (some .int), Cond.methodLink RX9 295 arraycopyName, Cond.native arraycopyName, Cond.static arraycopyName, Cond.initialized "java/lang/System", Cond.methodLink RX9 292 yX6_hasRun, Cond.instanceMethod yX6_hasRun, Cond.selects RX6 yX6_hasRun yX6_hasRun]
def wsL_law_r42 : List Cond := [Cond.code yX6_hasRun cX6_hasRun 3 (some .boolean), Cond.methodLink RL 143 yX10_copy, Cond.instanceMethod yX10_copy, Cond.selects RX10 yX10_copy yX10_copy, Cond.code yX10_copy cX10_copy 7 (some .int), Cond.methodLink RL 144 yX9_write, Cond.instanceMethod yX9_write, Cond.selects RX9 yX9_write yX9_write, Cond.code yX9_write cX9_write 5 (some .int), Cond.methodLink RX9 301 Lib.Math.min.name, Cond.methodLink RL 147 yX10_write, Cond.instanceMethod yX10_write, Cond.selects RX10 yX10_write yX10_write, Cond.code yX10_write cX10_write 5 (some .int), Cond.methodLink RL 148 yX9_count, Cond.instanceMethod yX9_count, Cond.selects RX9 yX9_count yX9_count, Cond.code yX9_count cX9_count 2 (some .int), Cond.methodLink RX9 306 yX9_timesHeard, Cond.instanceMethod yX9_timesHeard, Cond.selects RX9 yX9_timesHeard yX9_timesHeard, Cond.code yX9_timesHeard cX9_timesHeard 3 (some .int), Cond.methodLink RX9 382 yX4_timesHeard, Cond.instanceMethod yX4_timesHeard]
def wsL_law_r43 : List Cond := [Cond.selects RX4 yX4_timesHeard yX4_timesHeard, Cond.code yX4_timesHeard cX4_timesHeard 3 (some .int), Cond.methodLink RL 151 yX10_count, Cond.instanceMethod yX10_count, Cond.selects RX10 yX10_count yX10_count, Cond.code yX10_count cX10_count 2 (some .int), Cond.methodLink RX10 342 yX10_allHeard, Cond.instanceMethod yX10_allHeard, Cond.selects RX10 yX10_allHeard yX10_allHeard, Cond.code yX10_allHeard cX10_allHeard 4 (some .int), Cond.methodLink RL 152 yX9_digest, Cond.instanceMethod yX9_digest, Cond.selects RX9 yX9_digest yX9_digest, Cond.code yX9_digest cX9_digest 4 (some .long), Cond.constantLong RX9 312 (17), Cond.constantLong RX9 314 (31), Cond.methodLink RX9 316 yX9_count, Cond.methodLink RX9 318 yX9_fault, Cond.methodLink RX9 320 yX9_withWell, Cond.instanceMethod yX9_withWell, Cond.selects RX9 yX9_withWell yX9_withWell, Cond.code yX9_withWell cX9_withWell 7 (some .long), Cond.methodLink RX9 339 yX9_well, Cond.methodLink RX9 341 yX9_hears]
def wsL_law_r44 : List Cond := [Cond.methodLink RX9 344 yX9_soon, Cond.methodLink RX9 347 yX9_toss, Cond.methodLink RX9 350 yX9_open, Cond.methodLink RX9 353 yX9_stone, Cond.methodLink RX9 355 yX9_ask, Cond.methodLink RX9 323 yX9_withSaying, Cond.instanceMethod yX9_withSaying, Cond.selects RX9 yX9_withSaying yX9_withSaying, Cond.code yX9_withSaying cX9_withSaying 7 (some .long), Cond.methodLink RX9 358 yX9_saying, Cond.methodLink RX9 361 yX9_withHour, Cond.instanceMethod yX9_withHour, Cond.selects RX9 yX9_withHour yX9_withHour, Cond.code yX9_withHour cX9_withHour 8 (some .long), Cond.methodLink RX9 374 yX9_at, Cond.methodLink RX9 365 yX9_tell, Cond.methodLink RX9 368 yX9_bucket, Cond.methodLink RX9 370 yX9_chance, Cond.methodLink RX9 326 yX9_babel, Cond.methodLink RX9 329 yX9_iron, Cond.methodLink RX9 332 yX9_never, Cond.methodLink RX9 335 yX9_day, Cond.methodLink RL 156 yX10_digest, Cond.instanceMethod yX10_digest]
def wsL_law_r45 : List Cond := [Cond.selects RX10 yX10_digest yX10_digest, Cond.code yX10_digest cX10_digest 4 (some .long), Cond.constantLong RX10 351 (17), Cond.constantLong RX10 345 (31), Cond.methodLink RX10 353 yX10_count, Cond.methodLink RX10 356 yX10_tellsWell, Cond.instanceMethod yX10_tellsWell, Cond.selects RX10 yX10_tellsWell yX10_tellsWell, Cond.code yX10_tellsWell cX10_tellsWell 7 (some .long), Cond.methodLink RX10 360 yX10_tellsSaying, Cond.instanceMethod yX10_tellsSaying, Cond.selects RX10 yX10_tellsSaying yX10_tellsSaying, Cond.code yX10_tellsSaying cX10_tellsSaying 7 (some .long), Cond.methodLink RX10 347 yX10_tellsHour, Cond.instanceMethod yX10_tellsHour, Cond.selects RX10 yX10_tellsHour yX10_tellsHour, Cond.code yX10_tellsHour cX10_tellsHour 8 (some .long)]
def wsL_law : List Cond := (wsL_law_r1 ++ (wsL_law_r2 ++ (wsL_law_r3 ++ (wsL_law_r4 ++ (wsL_law_r5 ++ (wsL_law_r6 ++ (wsL_law_r7 ++ (wsL_law_r8 ++ (wsL_law_r9 ++ (wsL_law_r10 ++ (wsL_law_r11 ++ (wsL_law_r12 ++ (wsL_law_r13 ++ (wsL_law_r14 ++ (wsL_law_r15 ++ (wsL_law_r16 ++ (wsL_law_r17 ++ (wsL_law_r18 ++ (wsL_law_r19 ++ (wsL_law_r20 ++ (wsL_law_r21 ++ (wsL_law_r22 ++ (wsL_law_r23 ++ (wsL_law_r24 ++ (wsL_law_r25 ++ (wsL_law_r26 ++ (wsL_law_r27 ++ (wsL_law_r28 ++ (wsL_law_r29 ++ (wsL_law_r30 ++ (wsL_law_r31 ++ (wsL_law_r32 ++ (wsL_law_r33 ++ (wsL_law_r34 ++ (wsL_law_r35 ++ (wsL_law_r36 ++ (wsL_law_r37 ++ (wsL_law_r38 ++ (wsL_law_r39 ++ (wsL_law_r40 ++ (wsL_law_r41 ++ (wsL_law_r42 ++ (wsL_law_r43 ++ (wsL_law_r44 ++ wsL_law_r45)))))))))))))))))))))))))))))))))))))))))))) ++ wsX90 ++ wsX100 ++ wsX70 ++ wsX80 ++ wsX50 ++ wsX20 ++ wsX10 ++ wsX60 ++ wsX30 ++ wsX40 ++ wsX00 ++ ([] : List Cond)
theorem inlX0 : ∀ w ∈ wsX00, w ∈ wsL_law := fun _ h => List.mem_append_left _ (List.mem_append_right _ h)
theorem inlX1 : ∀ w ∈ wsX10, w ∈ wsL_law := fun _ h => List.mem_append_left _ (List.mem_append_left _ (List.mem_append_left _ (List.mem_append_left _ (List.mem_append_left _ (List.mem_append_right _ h)))))
theorem inlX2 : ∀ w ∈ wsX20, w ∈ wsL_law := fun _ h => List.mem_append_left _ (List.mem_append_left _ (List.mem_append_left _ (List.mem_append_left _ (List.mem_append_left _ (List.mem_append_left _ (List.mem_append_right _ h))))))
theorem inlX3 : ∀ w ∈ wsX30, w ∈ wsL_law := fun _ h => List.mem_append_left _ (List.mem_append_left _ (List.mem_append_left _ (List.mem_append_right _ h)))
theorem inlX4 : ∀ w ∈ wsX40, w ∈ wsL_law := fun _ h => List.mem_append_left _ (List.mem_append_left _ (List.mem_append_right _ h))
theorem inlX5 : ∀ w ∈ wsX50, w ∈ wsL_law := fun _ h => List.mem_append_left _ (List.mem_append_left _ (List.mem_append_left _ (List.mem_append_left _ (List.mem_append_left _ (List.mem_append_left _ (List.mem_append_left _ (List.mem_append_right _ h)))))))
theorem inlX6 : ∀ w ∈ wsX60, w ∈ wsL_law := fun _ h => List.mem_append_left _ (List.mem_append_left _ (List.mem_append_left _ (List.mem_append_left _ (List.mem_append_right _ h))))
theorem inlX7 : ∀ w ∈ wsX70, w ∈ wsL_law := fun _ h => List.mem_append_left _ (List.mem_append_left _ (List.mem_append_left _ (List.mem_append_left _ (List.mem_append_left _ (List.mem_append_left _ (List.mem_append_left _ (List.mem_append_left _ (List.mem_append_left _ (List.mem_append_right _ h)))))))))
theorem inlX8 : ∀ w ∈ wsX80, w ∈ wsL_law := fun _ h => List.mem_append_left _ (List.mem_append_left _ (List.mem_append_left _ (List.mem_append_left _ (List.mem_append_left _ (List.mem_append_left _ (List.mem_append_left _ (List.mem_append_left _ (List.mem_append_right _ h))))))))
theorem inlX9 : ∀ w ∈ wsX90, w ∈ wsL_law := fun _ h => List.mem_append_left _ (List.mem_append_left _ (List.mem_append_left _ (List.mem_append_left _ (List.mem_append_left _ (List.mem_append_left _ (List.mem_append_left _ (List.mem_append_left _ (List.mem_append_left _ (List.mem_append_left _ (List.mem_append_left _ (List.mem_append_right _ h)))))))))))
theorem inlX10 : ∀ w ∈ wsX100, w ∈ wsL_law := fun _ h => List.mem_append_left _ (List.mem_append_left _ (List.mem_append_left _ (List.mem_append_left _ (List.mem_append_left _ (List.mem_append_left _ (List.mem_append_left _ (List.mem_append_left _ (List.mem_append_left _ (List.mem_append_left _ (List.mem_append_right _ h))))))))))
abbrev vwCl : List vw_C := [(RX0, TX0, 3), (RX1, TX1, 4), (RX2, TX2, 4), (RX3, TX3, 3), (RX4, TX4, 10), (RX5, TX5, 6), (RX6, TX6, 3), (RX7, TX7, 3), (RX8, TX8, 6), (RX9, TX9, 18), (RX10, TX10, 31)]

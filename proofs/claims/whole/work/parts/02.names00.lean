/-! ===== BEGIN words of one list among another's, by their places ===== -/
theorem goodIn_r {big : List Cond} (ws : List Cond) (ps : List Nat) (hp : ws = ps.filterMap (fun i => big[i]?)) (h : ws.all goodWord = true) : GoodIn big ws := by
  intro w hw
  have h1 := List.all_eq_true.mp h w hw
  rw [hp] at hw
  obtain ⟨i, -, hi⟩ := List.mem_filterMap.mp hw
  have hm : w ∈ big := by first | exact List.mem_of_getElem? hi | exact List.getElem?_mem hi
  exact ⟨hm, good_of_word h1⟩
theorem goodIn_app {big a b : List Cond} (ha : GoodIn big a) (hb : GoodIn big b) : GoodIn big (a ++ b) := fun w h => (List.mem_append.mp h).elim (ha w) (hb w)
theorem goodIn_ca {big a b : List Cond} {c : Cond} (ha : GoodIn big (c :: a)) (hb : GoodIn big b) : GoodIn big (c :: (a ++ b)) := fun w h => (List.mem_cons.mp h).elim (fun e => ha w (List.mem_cons.mpr (Or.inl e))) (fun h => (List.mem_append.mp h).elim (fun h => ha w (List.mem_cons.mpr (Or.inr h))) (hb w))
theorem goodIn_sub {big ws : List Cond} (hm : ∀ w ∈ ws, w ∈ big) (h : ws.all goodWord = true) : GoodIn big ws := fun w hw => ⟨hm w hw, good_of_word (List.all_eq_true.mp h w hw)⟩
/-! ===== END ===== -/

/-! ===== BEGIN printed: names, fields, word lists, decode rows ===== -/
def RX0 : String := "TermsDesk$Changes"
def TX0 : u_T := fun k => match k with
  | 0 => ("TermsDesk$Changes", "what", "[I", true)
  | 1 => ("TermsDesk$Changes", "which", "[I", true)
  | 2 => ("TermsDesk$Changes", "licence", "[I", true)
  | 3 => ("TermsDesk$Changes", "cost", "[I", true)
  | _ => ("TermsDesk$Changes", "told", "I", false)
def tyX0 : Nat → FieldType := fun k => match k with
  | 0 => .array .int
  | 1 => .array .int
  | 2 => .array .int
  | 3 => .array .int
  | _ => .int
abbrev wsX00 : List Cond := u_ws RX0 TX0 5
theorem nmX0 : ∀ a, a < 5 → ∀ b, b < 5 → a ≠ b → (TX0 a).2.1 ≠ (TX0 b).2.1 := by decide +kernel
theorem tyX0_ok : ∀ k, k < 5 → parseFieldDescriptor (TX0 k).2.2.1 = some (tyX0 k) := by decide +kernel
abbrev cX0_init : ByteArray := prog_2_method_1_code
def yX0_init : MethodName := ⟨RX0, "<init>", "()V"⟩
abbrev cX0_add : ByteArray := prog_2_method_2_code
def yX0_add : MethodName := ⟨RX0, "add", "(IIII)I"⟩
abbrev cX0_priceOf : ByteArray := prog_2_method_3_code
def yX0_priceOf : MethodName := ⟨RX0, "priceOf", "(I)I"⟩
abbrev cX0_isBetter : ByteArray := prog_2_method_4_code
def yX0_isBetter : MethodName := ⟨RX0, "isBetter", "(II)Z"⟩
def RX1 : String := "TermsDesk$Chooser"
def TX1 : u_T := fun k => match k with
  | 0 => ("TermsDesk$Chooser", "parts", "LTermsDesk$Parts;", true)
  | 1 => ("TermsDesk$Chooser", "joins", "LTermsDesk$Joins;", true)
  | 2 => ("TermsDesk$Chooser", "flow", "LTermsDesk$Flow;", true)
  | 3 => ("TermsDesk$Chooser", "line", "[I", true)
  | 4 => ("TermsDesk$Chooser", "length", "I", false)
  | 5 => ("TermsDesk$Chooser", "place", "[I", true)
  | 6 => ("TermsDesk$Chooser", "bestPlace", "[I", true)
  | 7 => ("TermsDesk$Chooser", "quarrelsBefore", "[I", true)
  | 8 => ("TermsDesk$Chooser", "bestQuarrels", "I", false)
  | _ => ("TermsDesk$Chooser", "bestPairs", "I", false)
def tyX1 : Nat → FieldType := fun k => match k with
  | 0 => .object "TermsDesk$Parts"
  | 1 => .object "TermsDesk$Joins"
  | 2 => .object "TermsDesk$Flow"
  | 3 => .array .int
  | 4 => .int
  | 5 => .array .int
  | 6 => .array .int
  | 7 => .array .int
  | 8 => .int
  | _ => .int
abbrev wsX10 : List Cond := u_ws RX1 TX1 10
theorem nmX1 : ∀ a, a < 10 → ∀ b, b < 10 → a ≠ b → (TX1 a).2.1 ≠ (TX1 b).2.1 := by decide +kernel
theorem tyX1_ok : ∀ k, k < 10 → parseFieldDescriptor (TX1 k).2.2.1 = some (tyX1 k) := by decide +kernel
abbrev cX1_init : ByteArray := prog_3_method_1_code
def yX1_init : MethodName := ⟨RX1, "<init>", "(LTermsDesk$Parts;LTermsDesk$Joins;LTermsDesk$Flow;)V"⟩
abbrev cX1_takeBest : ByteArray := prog_3_method_2_code
def yX1_takeBest : MethodName := ⟨RX1, "takeBest", "(I)I"⟩
abbrev cX1_lineUp : ByteArray := prog_3_method_3_code
def yX1_lineUp : MethodName := ⟨RX1, "lineUp", "(I)V"⟩
abbrev cX1_settle : ByteArray := prog_3_method_4_code
def yX1_settle : MethodName := ⟨RX1, "settle", "(II)I"⟩
abbrev cX1_advance : ByteArray := prog_3_method_5_code
def yX1_advance : MethodName := ⟨RX1, "advance", "(I)I"⟩
abbrev cX1_keepIfBetter : ByteArray := prog_3_method_6_code
def yX1_keepIfBetter : MethodName := ⟨RX1, "keepIfBetter", "()V"⟩
abbrev cX1_isBetter : ByteArray := prog_3_method_7_code
def yX1_isBetter : MethodName := ⟨RX1, "isBetter", "(II)Z"⟩
abbrev cX1_takeKept : ByteArray := prog_3_method_8_code
def yX1_takeKept : MethodName := ⟨RX1, "takeKept", "()V"⟩
def RX2 : String := "TermsDesk$Flow"
def TX2 : u_T := fun k => match k with
  | 0 => ("TermsDesk$Flow", "terms", "LTermsDesk$Terms;", true)
  | 1 => ("TermsDesk$Flow", "parts", "LTermsDesk$Parts;", true)
  | 2 => ("TermsDesk$Flow", "joins", "LTermsDesk$Joins;", true)
  | 3 => ("TermsDesk$Flow", "arrived", "[J", true)
  | _ => ("TermsDesk$Flow", "earlier", "[J", true)
def tyX2 : Nat → FieldType := fun k => match k with
  | 0 => .object "TermsDesk$Terms"
  | 1 => .object "TermsDesk$Parts"
  | 2 => .object "TermsDesk$Joins"
  | 3 => .array .long
  | _ => .array .long
abbrev wsX20 : List Cond := u_ws RX2 TX2 5
theorem nmX2 : ∀ a, a < 5 → ∀ b, b < 5 → a ≠ b → (TX2 a).2.1 ≠ (TX2 b).2.1 := by decide +kernel
theorem tyX2_ok : ∀ k, k < 5 → parseFieldDescriptor (TX2 k).2.2.1 = some (tyX2 k) := by decide +kernel
abbrev cX2_init : ByteArray := prog_4_method_1_code
def yX2_init : MethodName := ⟨RX2, "<init>", "(LTermsDesk$Terms;LTermsDesk$Parts;LTermsDesk$Joins;)V"⟩
abbrev cX2_brought : ByteArray := prog_4_method_2_code
def yX2_brought : MethodName := ⟨RX2, "brought", "(III)J"⟩
abbrev cX2_run : ByteArray := prog_4_method_3_code
def yX2_run : MethodName := ⟨RX2, "run", "(I[IJ)V"⟩
abbrev cX2_arrive : ByteArray := prog_4_method_4_code
def yX2_arrive : MethodName := ⟨RX2, "arrive", "(IJJ)V"⟩
abbrev cX2_foughtAt : ByteArray := prog_4_method_5_code
def yX2_foughtAt : MethodName := ⟨RX2, "foughtAt", "(II)J"⟩
abbrev cX2_ofProduct : ByteArray := prog_4_method_6_code
def yX2_ofProduct : MethodName := ⟨RX2, "ofProduct", "(J)I"⟩
abbrev cX2_quarrelCount : ByteArray := prog_4_method_7_code
def yX2_quarrelCount : MethodName := ⟨RX2, "quarrelCount", "([IJ)I"⟩
abbrev cX2_quarrelAt : ByteArray := prog_4_method_8_code
def yX2_quarrelAt : MethodName := ⟨RX2, "quarrelAt", "(I)I"⟩
abbrev cX2_pairAt : ByteArray := prog_4_method_9_code
def yX2_pairAt : MethodName := ⟨RX2, "pairAt", "(JI)I"⟩
abbrev cX2_unlike : ByteArray := prog_4_method_10_code
def yX2_unlike : MethodName := ⟨RX2, "unlike", "(II)I"⟩
abbrev cX2_wayCount : ByteArray := prog_4_method_11_code
def yX2_wayCount : MethodName := ⟨RX2, "wayCount", "()I"⟩
def RX3 : String := "TermsDesk$Joins"
def TX3 : u_T := fun k => match k with
  | 0 => ("TermsDesk$Joins", "from", "[I", true)
  | 1 => ("TermsDesk$Joins", "to", "[I", true)
  | 2 => ("TermsDesk$Joins", "kind", "[I", true)
  | 3 => ("TermsDesk$Joins", "told", "I", false)
  | 4 => ("TermsDesk$Joins", "there", "J", false)
  | 5 => ("TermsDesk$Joins", "order", "[I", true)
  | 6 => ("TermsDesk$Joins", "sorted", "[I", true)
  | 7 => ("TermsDesk$Joins", "begin", "[I", true)
  | _ => ("TermsDesk$Joins", "end", "[I", true)
def tyX3 : Nat → FieldType := fun k => match k with
  | 0 => .array .int
  | 1 => .array .int
  | 2 => .array .int
  | 3 => .int
  | 4 => .long
  | 5 => .array .int
  | 6 => .array .int
  | 7 => .array .int
  | _ => .array .int
abbrev wsX30 : List Cond := u_ws RX3 TX3 9
theorem nmX3 : ∀ a, a < 9 → ∀ b, b < 9 → a ≠ b → (TX3 a).2.1 ≠ (TX3 b).2.1 := by decide +kernel
theorem tyX3_ok : ∀ k, k < 9 → parseFieldDescriptor (TX3 k).2.2.1 = some (tyX3 k) := by decide +kernel
abbrev cX3_init : ByteArray := prog_5_method_1_code
def yX3_init : MethodName := ⟨RX3, "<init>", "()V"⟩
abbrev cX3_isThere : ByteArray := prog_5_method_2_code
def yX3_isThere : MethodName := ⟨RX3, "isThere", "(I)Z"⟩
abbrev cX3_leads : ByteArray := prog_5_method_3_code
def yX3_leads : MethodName := ⟨RX3, "leads", "(II)Z"⟩
abbrev cX3_add : ByteArray := prog_5_method_4_code
def yX3_add : MethodName := ⟨RX3, "add", "(III)I"⟩
abbrev cX3_remove : ByteArray := prog_5_method_5_code
def yX3_remove : MethodName := ⟨RX3, "remove", "(I)V"⟩
abbrev cX3_sortJoins : ByteArray := prog_5_method_6_code
def yX3_sortJoins : MethodName := ⟨RX3, "sortJoins", "()V"⟩
abbrev cX3_orderParts : ByteArray := prog_5_method_7_code
def yX3_orderParts : MethodName := ⟨RX3, "orderParts", "()V"⟩
abbrev cX3_directlyIn : ByteArray := prog_5_method_8_code
def yX3_directlyIn : MethodName := ⟨RX3, "directlyIn", "(I)I"⟩
abbrev cX3_allIn : ByteArray := prog_5_method_9_code
def yX3_allIn : MethodName := ⟨RX3, "allIn", "(IJ)I"⟩
abbrev cX3_countInto : ByteArray := prog_5_method_10_code
def yX3_countInto : MethodName := ⟨RX3, "countInto", "(I)I"⟩
abbrev cX3_countOutOf : ByteArray := prog_5_method_11_code
def yX3_countOutOf : MethodName := ⟨RX3, "countOutOf", "(I)I"⟩
def RX4 : String := "TermsDesk$Mender"
def TX4 : u_T := fun k => match k with
  | 0 => ("TermsDesk$Mender", "parts", "LTermsDesk$Parts;", true)
  | 1 => ("TermsDesk$Mender", "joins", "LTermsDesk$Joins;", true)
  | 2 => ("TermsDesk$Mender", "changes", "LTermsDesk$Changes;", true)
  | 3 => ("TermsDesk$Mender", "flow", "LTermsDesk$Flow;", true)
  | _ => ("TermsDesk$Mender", "licence", "[I", true)
def tyX4 : Nat → FieldType := fun k => match k with
  | 0 => .object "TermsDesk$Parts"
  | 1 => .object "TermsDesk$Joins"
  | 2 => .object "TermsDesk$Changes"
  | 3 => .object "TermsDesk$Flow"
  | _ => .array .int
abbrev wsX40 : List Cond := u_ws RX4 TX4 5
theorem nmX4 : ∀ a, a < 5 → ∀ b, b < 5 → a ≠ b → (TX4 a).2.1 ≠ (TX4 b).2.1 := by decide +kernel
theorem tyX4_ok : ∀ k, k < 5 → parseFieldDescriptor (TX4 k).2.2.1 = some (tyX4 k) := by decide +kernel
abbrev cX4_init : ByteArray := prog_6_method_1_code
def yX4_init : MethodName := ⟨RX4, "<init>", "(LTermsDesk$Parts;LTermsDesk$Joins;LTermsDesk$Changes;LTermsDesk$Flow;)V"⟩
abbrev cX4_cheapestSet : ByteArray := prog_6_method_2_code
def yX4_cheapestSet : MethodName := ⟨RX4, "cheapestSet", "(I)I"⟩
abbrev cX4_endsQuarrels : ByteArray := prog_6_method_3_code
def yX4_endsQuarrels : MethodName := ⟨RX4, "endsQuarrels", "(II)Z"⟩
def RX5 : String := "TermsDesk$Parts"
def TX5 : u_T := fun k => match k with
  | 0 => ("TermsDesk$Parts", "choices", "[I", true)
  | 1 => ("TermsDesk$Parts", "choiceCount", "[I", true)
  | 2 => ("TermsDesk$Parts", "licence", "[I", true)
  | 3 => ("TermsDesk$Parts", "lifted", "[J", true)
  | 4 => ("TermsDesk$Parts", "told", "I", false)
  | _ => ("TermsDesk$Parts", "top", "I", false)
def tyX5 : Nat → FieldType := fun k => match k with
  | 0 => .array .int
  | 1 => .array .int
  | 2 => .array .int
  | 3 => .array .long
  | 4 => .int
  | _ => .int
abbrev wsX50 : List Cond := u_ws RX5 TX5 6
theorem nmX5 : ∀ a, a < 6 → ∀ b, b < 6 → a ≠ b → (TX5 a).2.1 ≠ (TX5 b).2.1 := by decide +kernel
theorem tyX5_ok : ∀ k, k < 6 → parseFieldDescriptor (TX5 k).2.2.1 = some (tyX5 k) := by decide +kernel
abbrev cX5_init : ByteArray := prog_7_method_1_code
def yX5_init : MethodName := ⟨RX5, "<init>", "()V"⟩
abbrev cX5_has : ByteArray := prog_7_method_2_code
def yX5_has : MethodName := ⟨RX5, "has", "(I)Z"⟩
abbrev cX5_choiceOf : ByteArray := prog_7_method_3_code
def yX5_choiceOf : MethodName := ⟨RX5, "choiceOf", "(II)I"⟩
abbrev cX5_add : ByteArray := prog_7_method_4_code
def yX5_add : MethodName := ⟨RX5, "add", "(III)I"⟩
def RX6 : String := "TermsDesk$Terms"
def TX6 : u_T := fun k => match k with
  | 0 => ("TermsDesk$Terms", "asked", "[J", true)
  | 1 => ("TermsDesk$Terms", "along", "[J", true)
  | _ => ("TermsDesk$Terms", "fought", "[J", true)
def tyX6 : Nat → FieldType := fun k => match k with
  | 0 => .array .long
  | 1 => .array .long
  | _ => .array .long
abbrev wsX60 : List Cond := u_ws RX6 TX6 3
theorem nmX6 : ∀ a, a < 3 → ∀ b, b < 3 → a ≠ b → (TX6 a).2.1 ≠ (TX6 b).2.1 := by decide +kernel
theorem tyX6_ok : ∀ k, k < 3 → parseFieldDescriptor (TX6 k).2.2.1 = some (tyX6 k) := by decide +kernel
abbrev cX6_init : ByteArray := prog_8_method_1_code
def yX6_init : MethodName := ⟨RX6, "<init>", "()V"⟩
abbrev cX6_tellAsk : ByteArray := prog_8_method_2_code
def yX6_tellAsk : MethodName := ⟨RX6, "tellAsk", "(III)V"⟩
abbrev cX6_spread : ByteArray := prog_8_method_3_code
def yX6_spread : MethodName := ⟨RX6, "spread", "([JII)V"⟩
abbrev cX6_tellBars : ByteArray := prog_8_method_4_code
def yX6_tellBars : MethodName := ⟨RX6, "tellBars", "(II)V"⟩
def RX7 : String := "TermsDesk$Tracer"
def TX7 : u_T := fun k => match k with
  | 0 => ("TermsDesk$Tracer", "terms", "LTermsDesk$Terms;", true)
  | 1 => ("TermsDesk$Tracer", "parts", "LTermsDesk$Parts;", true)
  | 2 => ("TermsDesk$Tracer", "joins", "LTermsDesk$Joins;", true)
  | 3 => ("TermsDesk$Tracer", "flow", "LTermsDesk$Flow;", true)
  | _ => ("TermsDesk$Tracer", "steps", "[I", true)
def tyX7 : Nat → FieldType := fun k => match k with
  | 0 => .object "TermsDesk$Terms"
  | 1 => .object "TermsDesk$Parts"
  | 2 => .object "TermsDesk$Joins"
  | 3 => .object "TermsDesk$Flow"
  | _ => .array .int
abbrev wsX70 : List Cond := u_ws RX7 TX7 5
theorem nmX7 : ∀ a, a < 5 → ∀ b, b < 5 → a ≠ b → (TX7 a).2.1 ≠ (TX7 b).2.1 := by decide +kernel
theorem tyX7_ok : ∀ k, k < 5 → parseFieldDescriptor (TX7 k).2.2.1 = some (tyX7 k) := by decide +kernel
abbrev cX7_init : ByteArray := prog_9_method_1_code
def yX7_init : MethodName := ⟨RX7, "<init>", "(LTermsDesk$Terms;LTermsDesk$Parts;LTermsDesk$Joins;LTermsDesk$Flow;)V"⟩
abbrev cX7_partOnWay : ByteArray := prog_9_method_2_code
def yX7_partOnWay : MethodName := ⟨RX7, "partOnWay", "(IIII)I"⟩
abbrev cX7_noticed : ByteArray := prog_9_method_3_code
def yX7_noticed : MethodName := ⟨RX7, "noticed", "(I)I"⟩
abbrev cX7_brings : ByteArray := prog_9_method_4_code
def yX7_brings : MethodName := ⟨RX7, "brings", "(III)Z"⟩
abbrev cX7_goes : ByteArray := prog_9_method_5_code
def yX7_goes : MethodName := ⟨RX7, "goes", "(II)Z"⟩
abbrev cX7_measure : ByteArray := prog_9_method_6_code
def yX7_measure : MethodName := ⟨RX7, "measure", "(II)V"⟩
abbrev cX7_measureInto : ByteArray := prog_9_method_7_code
def yX7_measureInto : MethodName := ⟨RX7, "measureInto", "(II)V"⟩
abbrev cX7_source : ByteArray := prog_9_method_8_code
def yX7_source : MethodName := ⟨RX7, "source", "(II)I"⟩
abbrev cX7_next : ByteArray := prog_9_method_9_code
def yX7_next : MethodName := ⟨RX7, "next", "(II)I"⟩
def RX8 : String := "TermsDesk"
def TX8 : u_T := fun k => match k with
  | 0 => ("TermsDesk", "terms", "LTermsDesk$Terms;", true)
  | 1 => ("TermsDesk", "parts", "LTermsDesk$Parts;", true)
  | 2 => ("TermsDesk", "joins", "LTermsDesk$Joins;", true)
  | 3 => ("TermsDesk", "changes", "LTermsDesk$Changes;", true)
  | 4 => ("TermsDesk", "flow", "LTermsDesk$Flow;", true)
  | 5 => ("TermsDesk", "chooser", "LTermsDesk$Chooser;", true)
  | 6 => ("TermsDesk", "mender", "LTermsDesk$Mender;", true)
  | _ => ("TermsDesk", "tracer", "LTermsDesk$Tracer;", true)
def tyX8 : Nat → FieldType := fun k => match k with
  | 0 => .object "TermsDesk$Terms"
  | 1 => .object "TermsDesk$Parts"
  | 2 => .object "TermsDesk$Joins"
  | 3 => .object "TermsDesk$Changes"
  | 4 => .object "TermsDesk$Flow"
  | 5 => .object "TermsDesk$Chooser"
  | 6 => .object "TermsDesk$Mender"
  | _ => .object "TermsDesk$Tracer"
abbrev wsX80 : List Cond := u_ws RX8 TX8 8
theorem nmX8 : ∀ a, a < 8 → ∀ b, b < 8 → a ≠ b → (TX8 a).2.1 ≠ (TX8 b).2.1 := by decide +kernel
theorem tyX8_ok : ∀ k, k < 8 → parseFieldDescriptor (TX8 k).2.2.1 = some (tyX8 k) := by decide +kernel
abbrev cX8_init : ByteArray := prog_1_method_1_code
def yX8_init : MethodName := ⟨RX8, "<init>", "()V"⟩
abbrev cX8_asks : ByteArray := prog_1_method_2_code
def yX8_asks : MethodName := ⟨RX8, "asks", "(IIII)Z"⟩
abbrev cX8_bars : ByteArray := prog_1_method_3_code
def yX8_bars : MethodName := ⟨RX8, "bars", "(II)Z"⟩
abbrev cX8_part : ByteArray := prog_1_method_4_code
def yX8_part : MethodName := ⟨RX8, "part", "(III)I"⟩
abbrev cX8_take : ByteArray := prog_1_method_5_code
def yX8_take : MethodName := ⟨RX8, "take", "(II)Z"⟩
abbrev cX8_join : ByteArray := prog_1_method_6_code
def yX8_join : MethodName := ⟨RX8, "join", "(III)I"⟩
abbrev cX8_cut : ByteArray := prog_1_method_7_code
def yX8_cut : MethodName := ⟨RX8, "cut", "(I)Z"⟩
abbrev cX8_except : ByteArray := prog_1_method_8_code
def yX8_except : MethodName := ⟨RX8, "except", "(III)Z"⟩
abbrev cX8_product : ByteArray := prog_1_method_9_code
def yX8_product : MethodName := ⟨RX8, "product", "(I)Z"⟩
abbrev cX8_change : ByteArray := prog_1_method_10_code
def yX8_change : MethodName := ⟨RX8, "change", "(IIII)I"⟩
abbrev cX8_come : ByteArray := prog_1_method_11_code
def yX8_come : MethodName := ⟨RX8, "come", "(III)I"⟩
abbrev cX8_quarrels : ByteArray := prog_1_method_12_code
def yX8_quarrels : MethodName := ⟨RX8, "quarrels", "(I)I"⟩
abbrev cX8_quarrel : ByteArray := prog_1_method_13_code
def yX8_quarrel : MethodName := ⟨RX8, "quarrel", "(II)I"⟩
abbrev cX8_judge : ByteArray := prog_1_method_14_code
def yX8_judge : MethodName := ⟨RX8, "judge", "(I)I"⟩
abbrev cX8_cheapest : ByteArray := prog_1_method_15_code
def yX8_cheapest : MethodName := ⟨RX8, "cheapest", "(I)I"⟩
abbrev cX8_price : ByteArray := prog_1_method_16_code
def yX8_price : MethodName := ⟨RX8, "price", "(I)I"⟩
abbrev cX8_way : ByteArray := prog_1_method_17_code
def yX8_way : MethodName := ⟨RX8, "way", "(IIIII)I"⟩
abbrev cX8_notice : ByteArray := prog_1_method_18_code
def yX8_notice : MethodName := ⟨RX8, "notice", "(II)I"⟩
abbrev cX8_differ : ByteArray := prog_1_method_19_code
def yX8_differ : MethodName := ⟨RX8, "differ", "(III)I"⟩
abbrev cX8_look : ByteArray := prog_1_method_20_code
def yX8_look : MethodName := ⟨RX8, "look", "(II)I"⟩
abbrev cX8_count : ByteArray := prog_1_method_21_code
def yX8_count : MethodName := ⟨RX8, "count", "(I)I"⟩
abbrev cX8_choiceOrNone : ByteArray := prog_1_method_22_code
def yX8_choiceOrNone : MethodName := ⟨RX8, "choiceOrNone", "(II)I"⟩
abbrev cX8_within : ByteArray := prog_1_method_23_code
def yX8_within : MethodName := ⟨RX8, "within", "(II)Z"⟩
abbrev cX8_isPair : ByteArray := prog_1_method_24_code
def yX8_isPair : MethodName := ⟨RX8, "isPair", "(II)Z"⟩
abbrev cX8_pairOf : ByteArray := prog_1_method_25_code
def yX8_pairOf : MethodName := ⟨RX8, "pairOf", "(II)I"⟩
abbrev cX8_holds : ByteArray := prog_1_method_26_code
def yX8_holds : MethodName := ⟨RX8, "holds", "(JI)Z"⟩
abbrev cX8_pairsOf : ByteArray := prog_1_method_27_code
def yX8_pairsOf : MethodName := ⟨RX8, "pairsOf", "(I)J"⟩
abbrev cX8_isRowOfChoices : ByteArray := prog_1_method_28_code
def yX8_isRowOfChoices : MethodName := ⟨RX8, "isRowOfChoices", "(III)Z"⟩
abbrev cX8_memberAt : ByteArray := prog_1_method_29_code
def yX8_memberAt : MethodName := ⟨RX8, "memberAt", "(II)I"⟩
def RX9 : String := "TermsDeskModel"
def TX9 : u_T := fun k => match k with
  | 0 => ("TermsDeskModel", "asked", "[I", true)
  | 1 => ("TermsDeskModel", "along", "[J", true)
  | 2 => ("TermsDeskModel", "barred", "[I", true)
  | 3 => ("TermsDeskModel", "parts", "I", false)
  | 4 => ("TermsDeskModel", "product", "I", false)
  | 5 => ("TermsDeskModel", "choice", "[I", true)
  | 6 => ("TermsDeskModel", "many", "[I", true)
  | 7 => ("TermsDeskModel", "taken", "[I", true)
  | 8 => ("TermsDeskModel", "lifted", "[J", true)
  | 9 => ("TermsDeskModel", "joins", "I", false)
  | 10 => ("TermsDeskModel", "from", "[I", true)
  | 11 => ("TermsDeskModel", "to", "[I", true)
  | 12 => ("TermsDeskModel", "kind", "[I", true)
  | 13 => ("TermsDeskModel", "isCut", "[Z", true)
  | 14 => ("TermsDeskModel", "changes", "I", false)
  | 15 => ("TermsDeskModel", "sort", "[I", true)
  | 16 => ("TermsDeskModel", "which", "[I", true)
  | 17 => ("TermsDeskModel", "gets", "[I", true)
  | 18 => ("TermsDeskModel", "cost", "[I", true)
  | 19 => ("TermsDeskModel", "isReached", "[Z", true)
  | 20 => ("TermsDeskModel", "isGone", "[Z", true)
  | 21 => ("TermsDeskModel", "has", "[I", true)
  | 22 => ("TermsDeskModel", "come", "[J", true)
  | 23 => ("TermsDeskModel", "orderMany", "I", false)
  | 24 => ("TermsDeskModel", "order", "[I", true)
  | 25 => ("TermsDeskModel", "level", "[I", true)
  | 26 => ("TermsDeskModel", "place", "[I", true)
  | 27 => ("TermsDeskModel", "best", "[I", true)
  | 28 => ("TermsDeskModel", "far", "[I", true)
  | _ => ("TermsDeskModel", "other", "[J", true)
def tyX9 : Nat → FieldType := fun k => match k with
  | 0 => .array .int
  | 1 => .array .long
  | 2 => .array .int
  | 3 => .int
  | 4 => .int
  | 5 => .array .int
  | 6 => .array .int
  | 7 => .array .int
  | 8 => .array .long
  | 9 => .int
  | 10 => .array .int
  | 11 => .array .int
  | 12 => .array .int
  | 13 => .array .boolean
  | 14 => .int
  | 15 => .array .int
  | 16 => .array .int
  | 17 => .array .int
  | 18 => .array .int
  | 19 => .array .boolean
  | 20 => .array .boolean
  | 21 => .array .int
  | 22 => .array .long
  | 23 => .int
  | 24 => .array .int
  | 25 => .array .int
  | 26 => .array .int
  | 27 => .array .int
  | 28 => .array .int
  | _ => .array .long
abbrev wsX90 : List Cond := u_ws RX9 TX9 30
theorem nmX9 : ∀ a, a < 30 → ∀ b, b < 30 → a ≠ b → (TX9 a).2.1 ≠ (TX9 b).2.1 := by decide +kernel
theorem tyX9_ok : ∀ k, k < 30 → parseFieldDescriptor (TX9 k).2.2.1 = some (tyX9 k) := by decide +kernel
abbrev cX9_init : ByteArray := prog_11_method_1_code
def yX9_init : MethodName := ⟨RX9, "<init>", "()V"⟩
abbrev cX9_lies : ByteArray := prog_11_method_2_code
def yX9_lies : MethodName := ⟨RX9, "lies", "(III)Z"⟩
abbrev cX9_isPart : ByteArray := prog_11_method_3_code
def yX9_isPart : MethodName := ⟨RX9, "isPart", "(I)Z"⟩
abbrev cX9_isLicence : ByteArray := prog_11_method_4_code
def yX9_isLicence : MethodName := ⟨RX9, "isLicence", "(I)Z"⟩
abbrev cX9_isShipping : ByteArray := prog_11_method_5_code
def yX9_isShipping : MethodName := ⟨RX9, "isShipping", "(I)Z"⟩
abbrev cX9_bit : ByteArray := prog_11_method_6_code
def yX9_bit : MethodName := ⟨RX9, "bit", "(II)J"⟩
abbrev cX9_asks : ByteArray := prog_11_method_7_code
def yX9_asks : MethodName := ⟨RX9, "asks", "(IIII)Z"⟩
abbrev cX9_bars : ByteArray := prog_11_method_8_code
def yX9_bars : MethodName := ⟨RX9, "bars", "(II)Z"⟩
abbrev cX9_part : ByteArray := prog_11_method_9_code
def yX9_part : MethodName := ⟨RX9, "part", "(III)I"⟩
abbrev cX9_take : ByteArray := prog_11_method_10_code
def yX9_take : MethodName := ⟨RX9, "take", "(II)Z"⟩
abbrev cX9_reaches : ByteArray := prog_11_method_11_code
def yX9_reaches : MethodName := ⟨RX9, "reaches", "(I)V"⟩
abbrev cX9_asItIs : ByteArray := prog_11_method_12_code
def yX9_asItIs : MethodName := ⟨RX9, "asItIs", "()V"⟩
abbrev cX9_join : ByteArray := prog_11_method_13_code
def yX9_join : MethodName := ⟨RX9, "join", "(III)I"⟩
abbrev cX9_cut : ByteArray := prog_11_method_14_code
def yX9_cut : MethodName := ⟨RX9, "cut", "(I)Z"⟩
abbrev cX9_except : ByteArray := prog_11_method_15_code
def yX9_except : MethodName := ⟨RX9, "except", "(III)Z"⟩
abbrev cX9_product : ByteArray := prog_11_method_16_code
def yX9_product : MethodName := ⟨RX9, "product", "(I)Z"⟩
abbrev cX9_change : ByteArray := prog_11_method_17_code
def yX9_change : MethodName := ⟨RX9, "change", "(IIII)I"⟩
abbrev cX9_orders : ByteArray := prog_11_method_18_code
def yX9_orders : MethodName := ⟨RX9, "orders", "()V"⟩
abbrev cX9_brings : ByteArray := prog_11_method_19_code
def yX9_brings : MethodName := ⟨RX9, "brings", "(II)J"⟩
abbrev cX9_comes : ByteArray := prog_11_method_20_code
def yX9_comes : MethodName := ⟨RX9, "comes", "(I)V"⟩
abbrev cX9_bits : ByteArray := prog_11_method_21_code
def yX9_bits : MethodName := ⟨RX9, "bits", "(J)I"⟩
abbrev cX9_bars_ : ByteArray := prog_11_method_22_code
def yX9_bars_ : MethodName := ⟨RX9, "bars", "(I)J"⟩
abbrev cX9_quarrelsNow : ByteArray := prog_11_method_23_code
def yX9_quarrelsNow : MethodName := ⟨RX9, "quarrelsNow", "()I"⟩
abbrev cX9_works : ByteArray := prog_11_method_24_code
def yX9_works : MethodName := ⟨RX9, "works", "(I)V"⟩
abbrev cX9_come : ByteArray := prog_11_method_25_code
def yX9_come : MethodName := ⟨RX9, "come", "(III)I"⟩
abbrev cX9_quarrels : ByteArray := prog_11_method_26_code
def yX9_quarrels : MethodName := ⟨RX9, "quarrels", "(I)I"⟩
abbrev cX9_quarrel : ByteArray := prog_11_method_27_code
def yX9_quarrel : MethodName := ⟨RX9, "quarrel", "(II)I"⟩
abbrev cX9_ways : ByteArray := prog_11_method_28_code
def yX9_ways : MethodName := ⟨RX9, "ways", "()I"⟩
abbrev cX9_judge : ByteArray := prog_11_method_29_code
def yX9_judge : MethodName := ⟨RX9, "judge", "(I)I"⟩
abbrev cX9_priceOf : ByteArray := prog_11_method_30_code
def yX9_priceOf : MethodName := ⟨RX9, "priceOf", "(I)I"⟩
abbrev cX9_price : ByteArray := prog_11_method_31_code
def yX9_price : MethodName := ⟨RX9, "price", "(I)I"⟩
abbrev cX9_quarrelsWith : ByteArray := prog_11_method_32_code
def yX9_quarrelsWith : MethodName := ⟨RX9, "quarrelsWith", "(II)I"⟩
abbrev cX9_isAhead : ByteArray := prog_11_method_33_code
def yX9_isAhead : MethodName := ⟨RX9, "isAhead", "(II)Z"⟩
abbrev cX9_cheapest : ByteArray := prog_11_method_34_code
def yX9_cheapest : MethodName := ⟨RX9, "cheapest", "(I)I"⟩
abbrev cX9_measures : ByteArray := prog_11_method_35_code
def yX9_measures : MethodName := ⟨RX9, "measures", "(III)V"⟩
abbrev cX9_hasBrought : ByteArray := prog_11_method_36_code
def yX9_hasBrought : MethodName := ⟨RX9, "hasBrought", "(IIII)Z"⟩
abbrev cX9_way : ByteArray := prog_11_method_37_code
def yX9_way : MethodName := ⟨RX9, "way", "(IIIII)I"⟩
abbrev cX9_notice : ByteArray := prog_11_method_38_code
def yX9_notice : MethodName := ⟨RX9, "notice", "(II)I"⟩
abbrev cX9_differ : ByteArray := prog_11_method_39_code
def yX9_differ : MethodName := ⟨RX9, "differ", "(III)I"⟩
abbrev cX9_look : ByteArray := prog_11_method_40_code
def yX9_look : MethodName := ⟨RX9, "look", "(II)I"⟩
abbrev cX9_count : ByteArray := prog_11_method_41_code
def yX9_count : MethodName := ⟨RX9, "count", "(I)I"⟩
def RJ6 : String := "java/lang/Integer"
def TJ6 : u_T := fun k => match k with
  | _ => ("", "", "", false)
def tyJ6 : Nat → FieldType := fun k => match k with
  | _ => .int
abbrev wsJ60 : List Cond := u_ws RJ6 TJ6 0
theorem nmJ6 : ∀ a, a < 0 → ∀ b, b < 0 → a ≠ b → (TJ6 a).2.1 ≠ (TJ6 b).2.1 := by decide +kernel
theorem tyJ6_ok : ∀ k, k < 0 → parseFieldDescriptor (TJ6 k).2.2.1 = some (tyJ6 k) := by decide +kernel
abbrev cJ6_compare_7cf53 : ByteArray := prog_12_method_40_code
def yJ6_compare_7cf53 : MethodName := ⟨RJ6, "compare", "(II)I"⟩
abbrev cJ6_lowestOneBit_0f7a4 : ByteArray := prog_12_method_46_code
def yJ6_lowestOneBit_0f7a4 : MethodName := ⟨RJ6, "lowestOneBit", "(I)I"⟩
abbrev cJ6_bitCount_0f7a4 : ByteArray := prog_12_method_49_code
def yJ6_bitCount_0f7a4 : MethodName := ⟨RJ6, "bitCount", "(I)I"⟩
def RJ13 : String := "java/lang/Long"
def TJ13 : u_T := fun k => match k with
  | _ => ("", "", "", false)
def tyJ13 : Nat → FieldType := fun k => match k with
  | _ => .int
abbrev wsJ130 : List Cond := u_ws RJ13 TJ13 0
theorem nmJ13 : ∀ a, a < 0 → ∀ b, b < 0 → a ≠ b → (TJ13 a).2.1 ≠ (TJ13 b).2.1 := by decide +kernel
theorem tyJ13_ok : ∀ k, k < 0 → parseFieldDescriptor (TJ13 k).2.2.1 = some (tyJ13 k) := by decide +kernel
abbrev cJ13_bitCount_95d88 : ByteArray := prog_13_method_50_code
def yJ13_bitCount_95d88 : MethodName := ⟨RJ13, "bitCount", "(J)I"⟩
def RJ9 : String := "java/lang/Math"
def TJ9 : u_T := fun k => match k with
  | _ => ("", "", "", false)
def tyJ9 : Nat → FieldType := fun k => match k with
  | _ => .int
abbrev wsJ90 : List Cond := u_ws RJ9 TJ9 0
theorem nmJ9 : ∀ a, a < 0 → ∀ b, b < 0 → a ≠ b → (TJ9 a).2.1 ≠ (TJ9 b).2.1 := by decide +kernel
theorem tyJ9_ok : ∀ k, k < 0 → parseFieldDescriptor (TJ9 k).2.2.1 = some (tyJ9 k) := by decide +kernel
abbrev cJ9_min_7cf53 : ByteArray := prog_14_method_69_code
def yJ9_min_7cf53 : MethodName := ⟨RJ9, "min", "(II)I"⟩
def RJ10 : String := "java/lang/System"
def TJ10 : u_T := fun k => match k with
  | _ => ("", "", "", false)
def tyJ10 : Nat → FieldType := fun k => match k with
  | _ => .int
abbrev wsJ100 : List Cond := u_ws RJ10 TJ10 0
theorem nmJ10 : ∀ a, a < 0 → ∀ b, b < 0 → a ≠ b → (TJ10 a).2.1 ≠ (TJ10 b).2.1 := by decide +kernel
theorem tyJ10_ok : ∀ k, k < 0 → parseFieldDescriptor (TJ10 k).2.2.1 = some (tyJ10 k) := by decide +kernel
def RL : String := "TermsDeskLaw"
abbrev cL_law : ByteArray := code
def yL_law : MethodName := ⟨RL, "law", "([I)Z"⟩
def wsX0_init : List Cond := .code yX0_init cX0_init 1 none :: ([.methodLink RX0 3 objectInit, .instanceMethod objectInit, .code objectInit ⟨#[0xb1]⟩ 1 none, .arrayClass .int, .fieldLink RX0 9 "TermsDesk$Changes" "what" "[I", .fieldLink RX0 15 "TermsDesk$Changes" "which" "[I", .fieldLink RX0 18 "TermsDesk$Changes" "licence" "[I", .fieldLink RX0 21 "TermsDesk$Changes" "cost" "[I"] ++ wsX00)
def wsX0_add : List Cond := .code yX0_add cX0_add 6 (some .int) :: ([.fieldLink RX0 24 "TermsDesk$Changes" "told" "I", .fieldLink RX0 9 "TermsDesk$Changes" "what" "[I", .fieldLink RX0 15 "TermsDesk$Changes" "which" "[I", .fieldLink RX0 18 "TermsDesk$Changes" "licence" "[I", .fieldLink RX0 21 "TermsDesk$Changes" "cost" "[I"] ++ wsX00)
def wsX8_holds : List Cond := .code yX8_holds cX8_holds 3 (some .boolean) :: ([])
def wsX0_priceOf : List Cond := .code yX0_priceOf cX0_priceOf 4 (some .int) :: ([.fieldLink RX0 24 "TermsDesk$Changes" "told" "I", .fieldLink RX0 21 "TermsDesk$Changes" "cost" "[I", .static yX8_holds, .initialized RX8, .code yX8_holds cX8_holds 3 (some .boolean)] ++ wsX00)
def wsJ6_compare_7cf53 : List Cond := .code yJ6_compare_7cf53 cJ6_compare_7cf53 2 (some .int) :: ([])
def wsJ6_bitCount_0f7a4 : List Cond := .code yJ6_bitCount_0f7a4 cJ6_bitCount_0f7a4 1 (some .int) :: ([.constant RJ6 265 (1431655765), .constant RJ6 266 (858993459), .constant RJ6 267 (252645135)])
def wsJ6_lowestOneBit_0f7a4 : List Cond := .code yJ6_lowestOneBit_0f7a4 cJ6_lowestOneBit_0f7a4 1 (some .int) :: ([])
def wsX0_isBetter : List Cond := .code yX0_isBetter cX0_isBetter 5 (some .boolean) :: ([.methodLink RX0 32 yX0_priceOf, .instanceMethod yX0_priceOf, .selects RX0 yX0_priceOf yX0_priceOf, .initialized RX0, .code yX0_priceOf cX0_priceOf 4 (some .int), .fieldLink RX0 24 "TermsDesk$Changes" "told" "I", .fieldLink RX0 21 "TermsDesk$Changes" "cost" "[I", .static yX8_holds, .initialized RX8, .code yX8_holds cX8_holds 3 (some .boolean), .methodLink RX0 36 yJ6_compare_7cf53, .static yJ6_compare_7cf53, .initialized RJ6, .code yJ6_compare_7cf53 cJ6_compare_7cf53 2 (some .int), .methodLink RX0 42 yJ6_bitCount_0f7a4, .static yJ6_bitCount_0f7a4, .code yJ6_bitCount_0f7a4 cJ6_bitCount_0f7a4 1 (some .int), .constant RJ6 265 (1431655765), .constant RJ6 266 (858993459), .constant RJ6 267 (252645135), .methodLink RX0 45 yJ6_lowestOneBit_0f7a4, .static yJ6_lowestOneBit_0f7a4, .code yJ6_lowestOneBit_0f7a4 cJ6_lowestOneBit_0f7a4 1 (some .int)] ++ wsX00)
def wsX1_init : List Cond := .code yX1_init cX1_init 4 none :: ([.methodLink RX1 3 objectInit, .instanceMethod objectInit, .code objectInit ⟨#[0xb1]⟩ 1 none, .arrayClass .int, .fieldLink RX1 9 "TermsDesk$Chooser" "line" "[I", .fieldLink RX1 15 "TermsDesk$Chooser" "place" "[I", .fieldLink RX1 18 "TermsDesk$Chooser" "bestPlace" "[I", .fieldLink RX1 21 "TermsDesk$Chooser" "quarrelsBefore" "[I", .fieldLink RX1 24 "TermsDesk$Chooser" "parts" "LTermsDesk$Parts;", .fieldLink RX1 28 "TermsDesk$Chooser" "joins" "LTermsDesk$Joins;", .fieldLink RX1 32 "TermsDesk$Chooser" "flow" "LTermsDesk$Flow;"] ++ wsX10)
def wsX3_allIn : List Cond := .code yX3_allIn cX3_allIn 9 (some .int) :: ([.fieldLink RX3 21 "TermsDesk$Joins" "order" "[I", .fieldLink RX3 27 "TermsDesk$Joins" "begin" "[I", .fieldLink RX3 30 "TermsDesk$Joins" "end" "[I", .fieldLink RX3 24 "TermsDesk$Joins" "sorted" "[I", .fieldLink RX3 9 "TermsDesk$Joins" "from" "[I", .static yX8_holds, .initialized RX8, .code yX8_holds cX8_holds 3 (some .boolean)] ++ wsX30)
def wsX2_ofProduct : List Cond := .code yX2_ofProduct cX2_ofProduct 3 (some .int) :: ([.fieldLink RX2 22 "TermsDesk$Flow" "parts" "LTermsDesk$Parts;", .fieldLink RX2 26 "TermsDesk$Flow" "joins" "LTermsDesk$Joins;", .methodLink RX2 92 yX3_allIn, .instanceMethod yX3_allIn, .selects RX3 yX3_allIn yX3_allIn, .initialized RX3, .code yX3_allIn cX3_allIn 9 (some .int), .fieldLink RX3 21 "TermsDesk$Joins" "order" "[I", .fieldLink RX3 27 "TermsDesk$Joins" "begin" "[I", .fieldLink RX3 30 "TermsDesk$Joins" "end" "[I", .fieldLink RX3 24 "TermsDesk$Joins" "sorted" "[I", .fieldLink RX3 9 "TermsDesk$Joins" "from" "[I", .static yX8_holds, .initialized RX8, .code yX8_holds cX8_holds 3 (some .boolean)] ++ wsX20 ++ wsX50 ++ wsX30)
def wsX1_lineUp : List Cond := .code yX1_lineUp cX1_lineUp 4 none :: ([.fieldLink RX1 63 "TermsDesk$Chooser" "length" "I", .fieldLink RX1 28 "TermsDesk$Chooser" "joins" "LTermsDesk$Joins;", .fieldLink RX1 15 "TermsDesk$Chooser" "place" "[I", .fieldLink RX1 9 "TermsDesk$Chooser" "line" "[I", .static yX8_holds, .initialized RX8, .code yX8_holds cX8_holds 3 (some .boolean)] ++ wsX10 ++ wsX30)
def wsX5_choiceOf : List Cond := .code yX5_choiceOf cX5_choiceOf 3 (some .int) :: ([.fieldLink RX5 9 "TermsDesk$Parts" "choices" "[I"] ++ wsX50)
def wsX8_pairOf : List Cond := .code yX8_pairOf cX8_pairOf 2 (some .int) :: ([])
def wsX8_pairsOf : List Cond := .code yX8_pairsOf cX8_pairsOf 1 (some .long) :: ([.constantLong RX8 216 (255), .methodLink RX8 80 yX8_pairOf, .static yX8_pairOf, .initialized RX8, .code yX8_pairOf cX8_pairOf 2 (some .int)])
def wsX2_brought : List Cond := .code yX2_brought cX2_brought 4 (some .long) :: ([.fieldLink RX2 18 "TermsDesk$Flow" "terms" "LTermsDesk$Terms;", .fieldLink RX2 22 "TermsDesk$Flow" "parts" "LTermsDesk$Parts;", .constantLong RX2 44 (-1), .static yX8_pairsOf, .initialized RX8, .code yX8_pairsOf cX8_pairsOf 1 (some .long), .constantLong RX8 216 (255), .methodLink RX8 80 yX8_pairOf, .static yX8_pairOf, .code yX8_pairOf cX8_pairOf 2 (some .int)] ++ wsX20 ++ wsX60 ++ wsX50)
def wsX2_arrive : List Cond := .code yX2_arrive cX2_arrive 10 none :: ([.fieldLink RX2 26 "TermsDesk$Flow" "joins" "LTermsDesk$Joins;", .fieldLink RX2 9 "TermsDesk$Flow" "arrived" "[J", .fieldLink RX2 18 "TermsDesk$Flow" "terms" "LTermsDesk$Terms;", .static yX8_holds, .initialized RX8, .code yX8_holds cX8_holds 3 (some .boolean)] ++ wsX20 ++ wsX30 ++ wsX60)
def wsX2_foughtAt : List Cond := .code yX2_foughtAt cX2_foughtAt 3 (some .long) :: ([.fieldLink RX2 9 "TermsDesk$Flow" "arrived" "[J", .fieldLink RX2 18 "TermsDesk$Flow" "terms" "LTermsDesk$Terms;"] ++ wsX20 ++ wsX60)
def wsJ13_bitCount_95d88 : List Cond := .code yJ13_bitCount_95d88 cJ13_bitCount_95d88 2 (some .int) :: ([.constantLong RJ13 314 (6148914691236517205), .constantLong RJ13 316 (3689348814741910323), .constantLong RJ13 318 (1085102592571150095)])
def wsX1_settle_r1 : List Cond := [Cond.fieldLink RX1 63 "TermsDesk$Chooser" "length" "I", Cond.fieldLink RX1 9 "TermsDesk$Chooser" "line" "[I", Cond.fieldLink RX1 24 "TermsDesk$Chooser" "parts" "LTermsDesk$Parts;", Cond.fieldLink RX1 15 "TermsDesk$Chooser" "place" "[I", Cond.fieldLink RX1 32 "TermsDesk$Chooser" "flow" "LTermsDesk$Flow;", Cond.fieldLink RX1 28 "TermsDesk$Chooser" "joins" "LTermsDesk$Joins;", Cond.fieldLink RX1 21 "TermsDesk$Chooser" "quarrelsBefore" "[I", Cond.fieldLink RX1 52 "TermsDesk$Chooser" "bestQuarrels" "I", Cond.methodLink RX1 88 yX5_choiceOf, Cond.instanceMethod yX5_choiceOf, Cond.selects RX5 yX5_choiceOf yX5_choiceOf, Cond.initialized RX5, Cond.code yX5_choiceOf cX5_choiceOf 3 (some .int), Cond.fieldLink RX5 9 "TermsDesk$Parts" "choices" "[I", Cond.methodLink RX1 93 yX2_brought, Cond.instanceMethod yX2_brought, Cond.selects RX2 yX2_brought yX2_brought, Cond.initialized RX2, Cond.code yX2_brought cX2_brought 4 (some .long), Cond.fieldLink RX2 18 "TermsDesk$Flow" "terms" "LTermsDesk$Terms;", Cond.fieldLink RX2 22 "TermsDesk$Flow" "parts" "LTermsDesk$Parts;", Cond.constantLong RX2 44 (-1), Cond.static yX8_pairsOf, Cond.initialized RX8]
def wsX1_settle_r2 : List Cond := [Cond.code yX8_pairsOf cX8_pairsOf 1 (some .long), Cond.constantLong RX8 216 (255), Cond.methodLink RX8 80 yX8_pairOf, Cond.static yX8_pairOf, Cond.code yX8_pairOf cX8_pairOf 2 (some .int), Cond.methodLink RX1 97 yX2_arrive, Cond.instanceMethod yX2_arrive, Cond.selects RX2 yX2_arrive yX2_arrive, Cond.code yX2_arrive cX2_arrive 10 none, Cond.fieldLink RX2 26 "TermsDesk$Flow" "joins" "LTermsDesk$Joins;", Cond.fieldLink RX2 9 "TermsDesk$Flow" "arrived" "[J", Cond.static yX8_holds, Cond.code yX8_holds cX8_holds 3 (some .boolean), Cond.methodLink RX1 101 yX2_foughtAt, Cond.instanceMethod yX2_foughtAt, Cond.selects RX2 yX2_foughtAt yX2_foughtAt, Cond.code yX2_foughtAt cX2_foughtAt 3 (some .long), Cond.methodLink RX1 105 yJ13_bitCount_95d88, Cond.static yJ13_bitCount_95d88, Cond.initialized RJ13, Cond.code yJ13_bitCount_95d88 cJ13_bitCount_95d88 2 (some .int), Cond.constantLong RJ13 314 (6148914691236517205), Cond.constantLong RJ13 316 (3689348814741910323), Cond.constantLong RJ13 318 (1085102592571150095)]
def wsX1_settle : List Cond := .code yX1_settle cX1_settle 6 (some .int) :: ((wsX1_settle_r1 ++ wsX1_settle_r2) ++ wsX10 ++ wsX30 ++ wsX50 ++ wsX20 ++ wsX60)
def wsX1_isBetter : List Cond := .code yX1_isBetter cX1_isBetter 4 (some .boolean) :: ([.fieldLink RX1 52 "TermsDesk$Chooser" "bestQuarrels" "I", .fieldLink RX1 56 "TermsDesk$Chooser" "bestPairs" "I", .fieldLink RX1 15 "TermsDesk$Chooser" "place" "[I", .fieldLink RX1 18 "TermsDesk$Chooser" "bestPlace" "[I"] ++ wsX10)
def wsX1_keepIfBetter : List Cond := .code yX1_keepIfBetter cX1_keepIfBetter 3 none :: ([.fieldLink RX1 21 "TermsDesk$Chooser" "quarrelsBefore" "[I", .fieldLink RX1 63 "TermsDesk$Chooser" "length" "I", .fieldLink RX1 32 "TermsDesk$Chooser" "flow" "LTermsDesk$Flow;", .fieldLink RX1 24 "TermsDesk$Chooser" "parts" "LTermsDesk$Parts;", .fieldLink RX1 52 "TermsDesk$Chooser" "bestQuarrels" "I", .fieldLink RX1 56 "TermsDesk$Chooser" "bestPairs" "I", .fieldLink RX1 15 "TermsDesk$Chooser" "place" "[I", .fieldLink RX1 18 "TermsDesk$Chooser" "bestPlace" "[I", .methodLink RX1 124 arraycopyName, .native arraycopyName, .static arraycopyName, .initialized "java/lang/System", .methodLink RX1 105 yJ13_bitCount_95d88, .static yJ13_bitCount_95d88, .initialized RJ13, .code yJ13_bitCount_95d88 cJ13_bitCount_95d88 2 (some .int), .constantLong RJ13 314 (6148914691236517205), .constantLong RJ13 316 (3689348814741910323), .constantLong RJ13 318 (1085102592571150095), .methodLink RX1 120 yX1_isBetter, .instanceMethod yX1_isBetter, .selects RX1 yX1_isBetter yX1_isBetter, .initialized RX1, .code yX1_isBetter cX1_isBetter 4 (some .boolean)] ++ wsX10 ++ wsX20 ++ wsX50)
def wsX1_advance : List Cond := .code yX1_advance cX1_advance 4 (some .int) :: ([.fieldLink RX1 9 "TermsDesk$Chooser" "line" "[I", .fieldLink RX1 15 "TermsDesk$Chooser" "place" "[I", .fieldLink RX1 24 "TermsDesk$Chooser" "parts" "LTermsDesk$Parts;"] ++ wsX10 ++ wsX50)
def wsX1_takeKept : List Cond := .code yX1_takeKept cX1_takeKept 3 none :: ([.fieldLink RX1 63 "TermsDesk$Chooser" "length" "I", .fieldLink RX1 9 "TermsDesk$Chooser" "line" "[I", .fieldLink RX1 24 "TermsDesk$Chooser" "parts" "LTermsDesk$Parts;", .fieldLink RX1 18 "TermsDesk$Chooser" "bestPlace" "[I", .methodLink RX1 88 yX5_choiceOf, .instanceMethod yX5_choiceOf, .selects RX5 yX5_choiceOf yX5_choiceOf, .initialized RX5, .code yX5_choiceOf cX5_choiceOf 3 (some .int), .fieldLink RX5 9 "TermsDesk$Parts" "choices" "[I"] ++ wsX10 ++ wsX50)
def wsX1_takeBest_r1 : List Cond := [Cond.fieldLink RX1 32 "TermsDesk$Chooser" "flow" "LTermsDesk$Flow;", Cond.fieldLink RX1 28 "TermsDesk$Chooser" "joins" "LTermsDesk$Joins;", Cond.fieldLink RX1 52 "TermsDesk$Chooser" "bestQuarrels" "I", Cond.fieldLink RX1 56 "TermsDesk$Chooser" "bestPairs" "I", Cond.fieldLink RX1 63 "TermsDesk$Chooser" "length" "I", Cond.methodLink RX1 69 Lib.Math.min.name, Cond.static Lib.Math.min.name, Cond.initialized "java/lang/Math", Cond.code Lib.Math.min.name Lib.Math.min.code 2 (some .int), Cond.methodLink RX1 42 yX2_ofProduct, Cond.instanceMethod yX2_ofProduct, Cond.selects RX2 yX2_ofProduct yX2_ofProduct, Cond.initialized RX2, Cond.code yX2_ofProduct cX2_ofProduct 3 (some .int), Cond.fieldLink RX2 22 "TermsDesk$Flow" "parts" "LTermsDesk$Parts;", Cond.fieldLink RX2 26 "TermsDesk$Flow" "joins" "LTermsDesk$Joins;", Cond.methodLink RX2 92 yX3_allIn, Cond.instanceMethod yX3_allIn, Cond.selects RX3 yX3_allIn yX3_allIn, Cond.initialized RX3, Cond.code yX3_allIn cX3_allIn 9 (some .int), Cond.fieldLink RX3 21 "TermsDesk$Joins" "order" "[I", Cond.fieldLink RX3 27 "TermsDesk$Joins" "begin" "[I", Cond.fieldLink RX3 30 "TermsDesk$Joins" "end" "[I"]
def wsX1_takeBest_r2 : List Cond := [Cond.fieldLink RX3 24 "TermsDesk$Joins" "sorted" "[I", Cond.fieldLink RX3 9 "TermsDesk$Joins" "from" "[I", Cond.static yX8_holds, Cond.initialized RX8, Cond.code yX8_holds cX8_holds 3 (some .boolean), Cond.methodLink RX1 48 yX1_lineUp, Cond.instanceMethod yX1_lineUp, Cond.selects RX1 yX1_lineUp yX1_lineUp, Cond.initialized RX1, Cond.code yX1_lineUp cX1_lineUp 4 none, Cond.fieldLink RX1 15 "TermsDesk$Chooser" "place" "[I", Cond.fieldLink RX1 9 "TermsDesk$Chooser" "line" "[I", Cond.methodLink RX1 59 yX1_settle, Cond.instanceMethod yX1_settle, Cond.selects RX1 yX1_settle yX1_settle, Cond.code yX1_settle cX1_settle 6 (some .int), Cond.fieldLink RX1 24 "TermsDesk$Chooser" "parts" "LTermsDesk$Parts;", Cond.fieldLink RX1 21 "TermsDesk$Chooser" "quarrelsBefore" "[I", Cond.methodLink RX1 88 yX5_choiceOf, Cond.instanceMethod yX5_choiceOf, Cond.selects RX5 yX5_choiceOf yX5_choiceOf, Cond.initialized RX5, Cond.code yX5_choiceOf cX5_choiceOf 3 (some .int), Cond.fieldLink RX5 9 "TermsDesk$Parts" "choices" "[I"]
def wsX1_takeBest_r3 : List Cond := [Cond.methodLink RX1 93 yX2_brought, Cond.instanceMethod yX2_brought, Cond.selects RX2 yX2_brought yX2_brought, Cond.code yX2_brought cX2_brought 4 (some .long), Cond.fieldLink RX2 18 "TermsDesk$Flow" "terms" "LTermsDesk$Terms;", Cond.constantLong RX2 44 (-1), Cond.static yX8_pairsOf, Cond.code yX8_pairsOf cX8_pairsOf 1 (some .long), Cond.constantLong RX8 216 (255), Cond.methodLink RX8 80 yX8_pairOf, Cond.static yX8_pairOf, Cond.code yX8_pairOf cX8_pairOf 2 (some .int), Cond.methodLink RX1 97 yX2_arrive, Cond.instanceMethod yX2_arrive, Cond.selects RX2 yX2_arrive yX2_arrive, Cond.code yX2_arrive cX2_arrive 10 none, Cond.fieldLink RX2 9 "TermsDesk$Flow" "arrived" "[J", Cond.methodLink RX1 101 yX2_foughtAt, Cond.instanceMethod yX2_foughtAt, Cond.selects RX2 yX2_foughtAt yX2_foughtAt, Cond.code yX2_foughtAt cX2_foughtAt 3 (some .long), Cond.methodLink RX1 105 yJ13_bitCount_95d88, Cond.static yJ13_bitCount_95d88, Cond.initialized RJ13]
def wsX1_takeBest_r4 : List Cond := [Cond.code yJ13_bitCount_95d88 cJ13_bitCount_95d88 2 (some .int), Cond.constantLong RJ13 314 (6148914691236517205), Cond.constantLong RJ13 316 (3689348814741910323), Cond.constantLong RJ13 318 (1085102592571150095), Cond.methodLink RX1 66 yX1_keepIfBetter, Cond.instanceMethod yX1_keepIfBetter, Cond.selects RX1 yX1_keepIfBetter yX1_keepIfBetter, Cond.code yX1_keepIfBetter cX1_keepIfBetter 3 none, Cond.fieldLink RX1 18 "TermsDesk$Chooser" "bestPlace" "[I", Cond.methodLink RX1 124 arraycopyName, Cond.native arraycopyName, Cond.static arraycopyName, Cond.initialized "java/lang/System", Cond.methodLink RX1 120 yX1_isBetter, Cond.instanceMethod yX1_isBetter, Cond.selects RX1 yX1_isBetter yX1_isBetter, Cond.code yX1_isBetter cX1_isBetter 4 (some .boolean), Cond.methodLink RX1 74 yX1_advance, Cond.instanceMethod yX1_advance, Cond.selects RX1 yX1_advance yX1_advance, Cond.code yX1_advance cX1_advance 4 (some .int), Cond.methodLink RX1 78 yX1_takeKept, Cond.instanceMethod yX1_takeKept, Cond.selects RX1 yX1_takeKept yX1_takeKept]
def wsX1_takeBest_r5 : List Cond := [Cond.code yX1_takeKept cX1_takeKept 3 none]
def wsX1_takeBest : List Cond := .code yX1_takeBest cX1_takeBest 5 (some .int) :: ((wsX1_takeBest_r1 ++ (wsX1_takeBest_r2 ++ (wsX1_takeBest_r3 ++ (wsX1_takeBest_r4 ++ wsX1_takeBest_r5)))) ++ wsX10 ++ wsX30 ++ wsX20 ++ wsX50 ++ wsX60)
def wsX2_init : List Cond := .code yX2_init cX2_init 4 none :: ([.methodLink RX2 3 objectInit, .instanceMethod objectInit, .code objectInit ⟨#[0xb1]⟩ 1 none, .arrayClass .long, .fieldLink RX2 9 "TermsDesk$Flow" "arrived" "[J", .fieldLink RX2 15 "TermsDesk$Flow" "earlier" "[J", .fieldLink RX2 18 "TermsDesk$Flow" "terms" "LTermsDesk$Terms;", .fieldLink RX2 22 "TermsDesk$Flow" "parts" "LTermsDesk$Parts;", .fieldLink RX2 26 "TermsDesk$Flow" "joins" "LTermsDesk$Joins;"] ++ wsX20)
def wsX2_run : List Cond := .code yX2_run cX2_run 7 none :: ([.fieldLink RX2 26 "TermsDesk$Flow" "joins" "LTermsDesk$Joins;", .methodLink RX2 52 yX2_brought, .instanceMethod yX2_brought, .selects RX2 yX2_brought yX2_brought, .initialized RX2, .code yX2_brought cX2_brought 4 (some .long), .fieldLink RX2 18 "TermsDesk$Flow" "terms" "LTermsDesk$Terms;", .fieldLink RX2 22 "TermsDesk$Flow" "parts" "LTermsDesk$Parts;", .constantLong RX2 44 (-1), .static yX8_pairsOf, .initialized RX8, .code yX8_pairsOf cX8_pairsOf 1 (some .long), .constantLong RX8 216 (255), .methodLink RX8 80 yX8_pairOf, .static yX8_pairOf, .code yX8_pairOf cX8_pairOf 2 (some .int), .methodLink RX2 56 yX2_arrive, .instanceMethod yX2_arrive, .selects RX2 yX2_arrive yX2_arrive, .code yX2_arrive cX2_arrive 10 none, .fieldLink RX2 9 "TermsDesk$Flow" "arrived" "[J", .static yX8_holds, .code yX8_holds cX8_holds 3 (some .boolean)] ++ wsX20 ++ wsX30 ++ wsX60 ++ wsX50)
def wsX2_quarrelCount_r1 : List Cond := [Cond.fieldLink RX2 22 "TermsDesk$Flow" "parts" "LTermsDesk$Parts;", Cond.methodLink RX2 96 yX2_ofProduct, Cond.instanceMethod yX2_ofProduct, Cond.selects RX2 yX2_ofProduct yX2_ofProduct, Cond.initialized RX2, Cond.code yX2_ofProduct cX2_ofProduct 3 (some .int), Cond.fieldLink RX2 26 "TermsDesk$Flow" "joins" "LTermsDesk$Joins;", Cond.methodLink RX2 92 yX3_allIn, Cond.instanceMethod yX3_allIn, Cond.selects RX3 yX3_allIn yX3_allIn, Cond.initialized RX3, Cond.code yX3_allIn cX3_allIn 9 (some .int), Cond.fieldLink RX3 21 "TermsDesk$Joins" "order" "[I", Cond.fieldLink RX3 27 "TermsDesk$Joins" "begin" "[I", Cond.fieldLink RX3 30 "TermsDesk$Joins" "end" "[I", Cond.fieldLink RX3 24 "TermsDesk$Joins" "sorted" "[I", Cond.fieldLink RX3 9 "TermsDesk$Joins" "from" "[I", Cond.static yX8_holds, Cond.initialized RX8, Cond.code yX8_holds cX8_holds 3 (some .boolean), Cond.methodLink RX2 100 yX2_foughtAt, Cond.instanceMethod yX2_foughtAt, Cond.selects RX2 yX2_foughtAt yX2_foughtAt, Cond.code yX2_foughtAt cX2_foughtAt 3 (some .long)]
def wsX2_quarrelCount_r2 : List Cond := [Cond.fieldLink RX2 9 "TermsDesk$Flow" "arrived" "[J", Cond.fieldLink RX2 18 "TermsDesk$Flow" "terms" "LTermsDesk$Terms;", Cond.methodLink RX2 104 yJ13_bitCount_95d88, Cond.static yJ13_bitCount_95d88, Cond.initialized RJ13, Cond.code yJ13_bitCount_95d88 cJ13_bitCount_95d88 2 (some .int), Cond.constantLong RJ13 314 (6148914691236517205), Cond.constantLong RJ13 316 (3689348814741910323), Cond.constantLong RJ13 318 (1085102592571150095)]
def wsX2_quarrelCount : List Cond := .code yX2_quarrelCount cX2_quarrelCount 7 (some .int) :: ((wsX2_quarrelCount_r1 ++ wsX2_quarrelCount_r2) ++ wsX20 ++ wsX50 ++ wsX30 ++ wsX60)
def wsX2_pairAt : List Cond := .code yX2_pairAt cX2_pairAt 5 (some .int) :: ([.static yX8_holds, .initialized RX8, .code yX8_holds cX8_holds 3 (some .boolean)])
def wsX2_quarrelAt_r1 : List Cond := [Cond.fieldLink RX2 26 "TermsDesk$Flow" "joins" "LTermsDesk$Joins;", Cond.fieldLink RX2 22 "TermsDesk$Flow" "parts" "LTermsDesk$Parts;", Cond.methodLink RX2 96 yX2_ofProduct, Cond.instanceMethod yX2_ofProduct, Cond.selects RX2 yX2_ofProduct yX2_ofProduct, Cond.initialized RX2, Cond.code yX2_ofProduct cX2_ofProduct 3 (some .int), Cond.methodLink RX2 92 yX3_allIn, Cond.instanceMethod yX3_allIn, Cond.selects RX3 yX3_allIn yX3_allIn, Cond.initialized RX3, Cond.code yX3_allIn cX3_allIn 9 (some .int), Cond.fieldLink RX3 21 "TermsDesk$Joins" "order" "[I", Cond.fieldLink RX3 27 "TermsDesk$Joins" "begin" "[I", Cond.fieldLink RX3 30 "TermsDesk$Joins" "end" "[I", Cond.fieldLink RX3 24 "TermsDesk$Joins" "sorted" "[I", Cond.fieldLink RX3 9 "TermsDesk$Joins" "from" "[I", Cond.static yX8_holds, Cond.initialized RX8, Cond.code yX8_holds cX8_holds 3 (some .boolean), Cond.methodLink RX2 100 yX2_foughtAt, Cond.instanceMethod yX2_foughtAt, Cond.selects RX2 yX2_foughtAt yX2_foughtAt, Cond.code yX2_foughtAt cX2_foughtAt 3 (some .long)]
def wsX2_quarrelAt_r2 : List Cond := [Cond.fieldLink RX2 9 "TermsDesk$Flow" "arrived" "[J", Cond.fieldLink RX2 18 "TermsDesk$Flow" "terms" "LTermsDesk$Terms;", Cond.methodLink RX2 104 yJ13_bitCount_95d88, Cond.static yJ13_bitCount_95d88, Cond.initialized RJ13, Cond.code yJ13_bitCount_95d88 cJ13_bitCount_95d88 2 (some .int), Cond.constantLong RJ13 314 (6148914691236517205), Cond.constantLong RJ13 316 (3689348814741910323), Cond.constantLong RJ13 318 (1085102592571150095), Cond.methodLink RX2 116 yX2_pairAt, Cond.static yX2_pairAt, Cond.code yX2_pairAt cX2_pairAt 5 (some .int)]
def wsX2_quarrelAt : List Cond := .code yX2_quarrelAt cX2_quarrelAt 8 (some .int) :: ((wsX2_quarrelAt_r1 ++ wsX2_quarrelAt_r2) ++ wsX20 ++ wsX30 ++ wsX50 ++ wsX60)
def wsX2_unlike_r1 : List Cond := [Cond.fieldLink RX2 22 "TermsDesk$Flow" "parts" "LTermsDesk$Parts;", Cond.fieldLink RX2 26 "TermsDesk$Flow" "joins" "LTermsDesk$Joins;", Cond.fieldLink RX2 9 "TermsDesk$Flow" "arrived" "[J", Cond.fieldLink RX2 15 "TermsDesk$Flow" "earlier" "[J", Cond.methodLink RX2 124 arraycopyName, Cond.native arraycopyName, Cond.static arraycopyName, Cond.initialized "java/lang/System", Cond.methodLink RX2 120 yX2_run, Cond.instanceMethod yX2_run, Cond.selects RX2 yX2_run yX2_run, Cond.initialized RX2, Cond.code yX2_run cX2_run 7 none, Cond.methodLink RX2 52 yX2_brought, Cond.instanceMethod yX2_brought, Cond.selects RX2 yX2_brought yX2_brought, Cond.code yX2_brought cX2_brought 4 (some .long), Cond.fieldLink RX2 18 "TermsDesk$Flow" "terms" "LTermsDesk$Terms;", Cond.constantLong RX2 44 (-1), Cond.static yX8_pairsOf, Cond.initialized RX8, Cond.code yX8_pairsOf cX8_pairsOf 1 (some .long), Cond.constantLong RX8 216 (255), Cond.methodLink RX8 80 yX8_pairOf]
def wsX2_unlike_r2 : List Cond := [Cond.static yX8_pairOf, Cond.code yX8_pairOf cX8_pairOf 2 (some .int), Cond.methodLink RX2 56 yX2_arrive, Cond.instanceMethod yX2_arrive, Cond.selects RX2 yX2_arrive yX2_arrive, Cond.code yX2_arrive cX2_arrive 10 none, Cond.static yX8_holds, Cond.code yX8_holds cX8_holds 3 (some .boolean), Cond.methodLink RX2 96 yX2_ofProduct, Cond.instanceMethod yX2_ofProduct, Cond.selects RX2 yX2_ofProduct yX2_ofProduct, Cond.code yX2_ofProduct cX2_ofProduct 3 (some .int), Cond.methodLink RX2 92 yX3_allIn, Cond.instanceMethod yX3_allIn, Cond.selects RX3 yX3_allIn yX3_allIn, Cond.initialized RX3, Cond.code yX3_allIn cX3_allIn 9 (some .int), Cond.fieldLink RX3 21 "TermsDesk$Joins" "order" "[I", Cond.fieldLink RX3 27 "TermsDesk$Joins" "begin" "[I", Cond.fieldLink RX3 30 "TermsDesk$Joins" "end" "[I", Cond.fieldLink RX3 24 "TermsDesk$Joins" "sorted" "[I", Cond.fieldLink RX3 9 "TermsDesk$Joins" "from" "[I"]
def wsX2_unlike : List Cond := .code yX2_unlike cX2_unlike 5 (some .int) :: ((wsX2_unlike_r1 ++ wsX2_unlike_r2) ++ wsX20 ++ wsX50 ++ wsX30 ++ wsX60)
def wsX2_wayCount : List Cond := .code yX2_wayCount cX2_wayCount 4 (some .int) :: ([.fieldLink RX2 26 "TermsDesk$Flow" "joins" "LTermsDesk$Joins;", .fieldLink RX2 22 "TermsDesk$Flow" "parts" "LTermsDesk$Parts;", .methodLink RX2 96 yX2_ofProduct, .instanceMethod yX2_ofProduct, .selects RX2 yX2_ofProduct yX2_ofProduct, .initialized RX2, .code yX2_ofProduct cX2_ofProduct 3 (some .int), .methodLink RX2 92 yX3_allIn, .instanceMethod yX3_allIn, .selects RX3 yX3_allIn yX3_allIn, .initialized RX3, .code yX3_allIn cX3_allIn 9 (some .int), .fieldLink RX3 21 "TermsDesk$Joins" "order" "[I", .fieldLink RX3 27 "TermsDesk$Joins" "begin" "[I", .fieldLink RX3 30 "TermsDesk$Joins" "end" "[I", .fieldLink RX3 24 "TermsDesk$Joins" "sorted" "[I", .fieldLink RX3 9 "TermsDesk$Joins" "from" "[I", .static yX8_holds, .initialized RX8, .code yX8_holds cX8_holds 3 (some .boolean)] ++ wsX20 ++ wsX30 ++ wsX50)
def wsX3_init : List Cond := .code yX3_init cX3_init 2 none :: ([.methodLink RX3 3 objectInit, .instanceMethod objectInit, .code objectInit ⟨#[0xb1]⟩ 1 none, .arrayClass .int, .fieldLink RX3 9 "TermsDesk$Joins" "from" "[I", .fieldLink RX3 15 "TermsDesk$Joins" "to" "[I", .fieldLink RX3 18 "TermsDesk$Joins" "kind" "[I", .fieldLink RX3 21 "TermsDesk$Joins" "order" "[I", .fieldLink RX3 24 "TermsDesk$Joins" "sorted" "[I", .fieldLink RX3 27 "TermsDesk$Joins" "begin" "[I", .fieldLink RX3 30 "TermsDesk$Joins" "end" "[I"] ++ wsX30)
def wsX8_within : List Cond := .code yX8_within cX8_within 2 (some .boolean) :: ([])
def wsX3_isThere : List Cond := .code yX3_isThere cX3_isThere 2 (some .boolean) :: ([.fieldLink RX3 33 "TermsDesk$Joins" "told" "I", .fieldLink RX3 41 "TermsDesk$Joins" "there" "J", .static yX8_within, .initialized RX8, .code yX8_within cX8_within 2 (some .boolean), .static yX8_holds, .code yX8_holds cX8_holds 3 (some .boolean)] ++ wsX30)
def wsX3_leads : List Cond := .code yX3_leads cX3_leads 4 (some .boolean) :: ([.fieldLink RX3 27 "TermsDesk$Joins" "begin" "[I", .fieldLink RX3 30 "TermsDesk$Joins" "end" "[I", .fieldLink RX3 9 "TermsDesk$Joins" "from" "[I", .fieldLink RX3 24 "TermsDesk$Joins" "sorted" "[I"] ++ wsX30)
def wsX3_sortJoins : List Cond := .code yX3_sortJoins cX3_sortJoins 4 none :: ([.fieldLink RX3 27 "TermsDesk$Joins" "begin" "[I", .fieldLink RX3 33 "TermsDesk$Joins" "told" "I", .fieldLink RX3 15 "TermsDesk$Joins" "to" "[I", .fieldLink RX3 41 "TermsDesk$Joins" "there" "J", .fieldLink RX3 24 "TermsDesk$Joins" "sorted" "[I", .fieldLink RX3 30 "TermsDesk$Joins" "end" "[I", .static yX8_holds, .initialized RX8, .code yX8_holds cX8_holds 3 (some .boolean)] ++ wsX30)
def wsX3_directlyIn : List Cond := .code yX3_directlyIn cX3_directlyIn 4 (some .int) :: ([.fieldLink RX3 27 "TermsDesk$Joins" "begin" "[I", .fieldLink RX3 30 "TermsDesk$Joins" "end" "[I", .fieldLink RX3 9 "TermsDesk$Joins" "from" "[I", .fieldLink RX3 24 "TermsDesk$Joins" "sorted" "[I"] ++ wsX30)
def wsX3_orderParts : List Cond := .code yX3_orderParts cX3_orderParts 5 none :: ([.fieldLink RX3 21 "TermsDesk$Joins" "order" "[I", .static yX8_holds, .initialized RX8, .code yX8_holds cX8_holds 3 (some .boolean), .methodLink RX3 57 yX3_directlyIn, .instanceMethod yX3_directlyIn, .selects RX3 yX3_directlyIn yX3_directlyIn, .initialized RX3, .code yX3_directlyIn cX3_directlyIn 4 (some .int), .fieldLink RX3 27 "TermsDesk$Joins" "begin" "[I", .fieldLink RX3 30 "TermsDesk$Joins" "end" "[I", .fieldLink RX3 9 "TermsDesk$Joins" "from" "[I", .fieldLink RX3 24 "TermsDesk$Joins" "sorted" "[I"] ++ wsX30)
def wsX3_add_r1 : List Cond := [Cond.fieldLink RX3 33 "TermsDesk$Joins" "told" "I", Cond.fieldLink RX3 9 "TermsDesk$Joins" "from" "[I", Cond.fieldLink RX3 15 "TermsDesk$Joins" "to" "[I", Cond.fieldLink RX3 18 "TermsDesk$Joins" "kind" "[I", Cond.fieldLink RX3 41 "TermsDesk$Joins" "there" "J", Cond.methodLink RX3 49 yX3_sortJoins, Cond.instanceMethod yX3_sortJoins, Cond.selects RX3 yX3_sortJoins yX3_sortJoins, Cond.initialized RX3, Cond.code yX3_sortJoins cX3_sortJoins 4 none, Cond.fieldLink RX3 27 "TermsDesk$Joins" "begin" "[I", Cond.fieldLink RX3 24 "TermsDesk$Joins" "sorted" "[I", Cond.fieldLink RX3 30 "TermsDesk$Joins" "end" "[I", Cond.static yX8_holds, Cond.initialized RX8, Cond.code yX8_holds cX8_holds 3 (some .boolean), Cond.methodLink RX3 52 yX3_orderParts, Cond.instanceMethod yX3_orderParts, Cond.selects RX3 yX3_orderParts yX3_orderParts, Cond.code yX3_orderParts cX3_orderParts 5 none, Cond.fieldLink RX3 21 "TermsDesk$Joins" "order" "[I", Cond.methodLink RX3 57 yX3_directlyIn, Cond.instanceMethod yX3_directlyIn, Cond.selects RX3 yX3_directlyIn yX3_directlyIn]
def wsX3_add_r2 : List Cond := [Cond.code yX3_directlyIn cX3_directlyIn 4 (some .int)]
def wsX3_add : List Cond := .code yX3_add cX3_add 5 (some .int) :: ((wsX3_add_r1 ++ wsX3_add_r2) ++ wsX30)
def wsX3_remove : List Cond := .code yX3_remove cX3_remove 2 none :: ([.fieldLink RX3 41 "TermsDesk$Joins" "there" "J", .constantLong RX3 55 (-1), .methodLink RX3 49 yX3_sortJoins, .instanceMethod yX3_sortJoins, .selects RX3 yX3_sortJoins yX3_sortJoins, .initialized RX3, .code yX3_sortJoins cX3_sortJoins 4 none, .fieldLink RX3 27 "TermsDesk$Joins" "begin" "[I", .fieldLink RX3 33 "TermsDesk$Joins" "told" "I", .fieldLink RX3 15 "TermsDesk$Joins" "to" "[I", .fieldLink RX3 24 "TermsDesk$Joins" "sorted" "[I", .fieldLink RX3 30 "TermsDesk$Joins" "end" "[I", .static yX8_holds, .initialized RX8, .code yX8_holds cX8_holds 3 (some .boolean)] ++ wsX30)
def wsX3_countInto : List Cond := .code yX3_countInto cX3_countInto 2 (some .int) :: ([.fieldLink RX3 30 "TermsDesk$Joins" "end" "[I", .fieldLink RX3 27 "TermsDesk$Joins" "begin" "[I"] ++ wsX30)
def wsX3_countOutOf : List Cond := .code yX3_countOutOf cX3_countOutOf 4 (some .int) :: ([.fieldLink RX3 33 "TermsDesk$Joins" "told" "I", .fieldLink RX3 9 "TermsDesk$Joins" "from" "[I", .fieldLink RX3 41 "TermsDesk$Joins" "there" "J", .static yX8_holds, .initialized RX8, .code yX8_holds cX8_holds 3 (some .boolean)] ++ wsX30)
def wsX4_init : List Cond := .code yX4_init cX4_init 5 none :: ([.methodLink RX4 3 objectInit, .instanceMethod objectInit, .code objectInit ⟨#[0xb1]⟩ 1 none, .arrayClass .int, .fieldLink RX4 9 "TermsDesk$Mender" "licence" "[I", .fieldLink RX4 15 "TermsDesk$Mender" "parts" "LTermsDesk$Parts;", .fieldLink RX4 19 "TermsDesk$Mender" "joins" "LTermsDesk$Joins;", .fieldLink RX4 23 "TermsDesk$Mender" "changes" "LTermsDesk$Changes;", .fieldLink RX4 27 "TermsDesk$Mender" "flow" "LTermsDesk$Flow;"] ++ wsX40)
def wsX4_endsQuarrels_r1 : List Cond := [Cond.fieldLink RX4 15 "TermsDesk$Mender" "parts" "LTermsDesk$Parts;", Cond.fieldLink RX4 9 "TermsDesk$Mender" "licence" "[I", Cond.methodLink RX4 47 arraycopyName, Cond.native arraycopyName, Cond.static arraycopyName, Cond.initialized "java/lang/System", Cond.fieldLink RX4 19 "TermsDesk$Mender" "joins" "LTermsDesk$Joins;", Cond.fieldLink RX4 23 "TermsDesk$Mender" "changes" "LTermsDesk$Changes;", Cond.constantLong RX4 70 (-1), Cond.fieldLink RX4 27 "TermsDesk$Mender" "flow" "LTermsDesk$Flow;", Cond.static yX8_holds, Cond.initialized RX8, Cond.code yX8_holds cX8_holds 3 (some .boolean), Cond.methodLink RX4 72 yX2_run, Cond.instanceMethod yX2_run, Cond.selects RX2 yX2_run yX2_run, Cond.initialized RX2, Cond.code yX2_run cX2_run 7 none, Cond.fieldLink RX2 26 "TermsDesk$Flow" "joins" "LTermsDesk$Joins;", Cond.methodLink RX2 52 yX2_brought, Cond.instanceMethod yX2_brought, Cond.selects RX2 yX2_brought yX2_brought, Cond.code yX2_brought cX2_brought 4 (some .long), Cond.fieldLink RX2 18 "TermsDesk$Flow" "terms" "LTermsDesk$Terms;"]
def wsX4_endsQuarrels_r2 : List Cond := [Cond.fieldLink RX2 22 "TermsDesk$Flow" "parts" "LTermsDesk$Parts;", Cond.constantLong RX2 44 (-1), Cond.static yX8_pairsOf, Cond.code yX8_pairsOf cX8_pairsOf 1 (some .long), Cond.constantLong RX8 216 (255), Cond.methodLink RX8 80 yX8_pairOf, Cond.static yX8_pairOf, Cond.code yX8_pairOf cX8_pairOf 2 (some .int), Cond.methodLink RX2 56 yX2_arrive, Cond.instanceMethod yX2_arrive, Cond.selects RX2 yX2_arrive yX2_arrive, Cond.code yX2_arrive cX2_arrive 10 none, Cond.fieldLink RX2 9 "TermsDesk$Flow" "arrived" "[J", Cond.methodLink RX4 78 yX2_quarrelCount, Cond.instanceMethod yX2_quarrelCount, Cond.selects RX2 yX2_quarrelCount yX2_quarrelCount, Cond.code yX2_quarrelCount cX2_quarrelCount 7 (some .int), Cond.methodLink RX2 96 yX2_ofProduct, Cond.instanceMethod yX2_ofProduct, Cond.selects RX2 yX2_ofProduct yX2_ofProduct, Cond.code yX2_ofProduct cX2_ofProduct 3 (some .int), Cond.methodLink RX2 92 yX3_allIn, Cond.instanceMethod yX3_allIn, Cond.selects RX3 yX3_allIn yX3_allIn]
def wsX4_endsQuarrels_r3 : List Cond := [Cond.initialized RX3, Cond.code yX3_allIn cX3_allIn 9 (some .int), Cond.fieldLink RX3 21 "TermsDesk$Joins" "order" "[I", Cond.fieldLink RX3 27 "TermsDesk$Joins" "begin" "[I", Cond.fieldLink RX3 30 "TermsDesk$Joins" "end" "[I", Cond.fieldLink RX3 24 "TermsDesk$Joins" "sorted" "[I", Cond.fieldLink RX3 9 "TermsDesk$Joins" "from" "[I", Cond.methodLink RX2 100 yX2_foughtAt, Cond.instanceMethod yX2_foughtAt, Cond.selects RX2 yX2_foughtAt yX2_foughtAt, Cond.code yX2_foughtAt cX2_foughtAt 3 (some .long), Cond.methodLink RX2 104 yJ13_bitCount_95d88, Cond.static yJ13_bitCount_95d88, Cond.initialized RJ13, Cond.code yJ13_bitCount_95d88 cJ13_bitCount_95d88 2 (some .int), Cond.constantLong RJ13 314 (6148914691236517205), Cond.constantLong RJ13 316 (3689348814741910323), Cond.constantLong RJ13 318 (1085102592571150095)]
def wsX4_endsQuarrels : List Cond := .code yX4_endsQuarrels cX4_endsQuarrels 6 (some .boolean) :: ((wsX4_endsQuarrels_r1 ++ (wsX4_endsQuarrels_r2 ++ wsX4_endsQuarrels_r3)) ++ wsX40 ++ wsX50 ++ wsX30 ++ wsX00 ++ wsX20 ++ wsX60)
def wsX4_cheapestSet_r1 : List Cond := [Cond.fieldLink RX4 23 "TermsDesk$Mender" "changes" "LTermsDesk$Changes;", Cond.methodLink RX4 37 yX0_isBetter, Cond.instanceMethod yX0_isBetter, Cond.selects RX0 yX0_isBetter yX0_isBetter, Cond.initialized RX0, Cond.code yX0_isBetter cX0_isBetter 5 (some .boolean), Cond.methodLink RX0 32 yX0_priceOf, Cond.instanceMethod yX0_priceOf, Cond.selects RX0 yX0_priceOf yX0_priceOf, Cond.code yX0_priceOf cX0_priceOf 4 (some .int), Cond.fieldLink RX0 24 "TermsDesk$Changes" "told" "I", Cond.fieldLink RX0 21 "TermsDesk$Changes" "cost" "[I", Cond.static yX8_holds, Cond.initialized RX8, Cond.code yX8_holds cX8_holds 3 (some .boolean), Cond.methodLink RX0 36 yJ6_compare_7cf53, Cond.static yJ6_compare_7cf53, Cond.initialized RJ6, Cond.code yJ6_compare_7cf53 cJ6_compare_7cf53 2 (some .int), Cond.methodLink RX0 42 yJ6_bitCount_0f7a4, Cond.static yJ6_bitCount_0f7a4, Cond.code yJ6_bitCount_0f7a4 cJ6_bitCount_0f7a4 1 (some .int), Cond.constant RJ6 265 (1431655765), Cond.constant RJ6 266 (858993459)]
def wsX4_cheapestSet_r2 : List Cond := [Cond.constant RJ6 267 (252645135), Cond.methodLink RX0 45 yJ6_lowestOneBit_0f7a4, Cond.static yJ6_lowestOneBit_0f7a4, Cond.code yJ6_lowestOneBit_0f7a4 cJ6_lowestOneBit_0f7a4 1 (some .int), Cond.methodLink RX4 41 yX4_endsQuarrels, Cond.instanceMethod yX4_endsQuarrels, Cond.selects RX4 yX4_endsQuarrels yX4_endsQuarrels, Cond.initialized RX4, Cond.code yX4_endsQuarrels cX4_endsQuarrels 6 (some .boolean), Cond.fieldLink RX4 15 "TermsDesk$Mender" "parts" "LTermsDesk$Parts;", Cond.fieldLink RX4 9 "TermsDesk$Mender" "licence" "[I", Cond.methodLink RX4 47 arraycopyName, Cond.native arraycopyName, Cond.static arraycopyName, Cond.initialized "java/lang/System", Cond.fieldLink RX4 19 "TermsDesk$Mender" "joins" "LTermsDesk$Joins;", Cond.constantLong RX4 70 (-1), Cond.fieldLink RX4 27 "TermsDesk$Mender" "flow" "LTermsDesk$Flow;", Cond.methodLink RX4 72 yX2_run, Cond.instanceMethod yX2_run, Cond.selects RX2 yX2_run yX2_run, Cond.initialized RX2, Cond.code yX2_run cX2_run 7 none, Cond.fieldLink RX2 26 "TermsDesk$Flow" "joins" "LTermsDesk$Joins;"]
def wsX4_cheapestSet_r3 : List Cond := [Cond.methodLink RX2 52 yX2_brought, Cond.instanceMethod yX2_brought, Cond.selects RX2 yX2_brought yX2_brought, Cond.code yX2_brought cX2_brought 4 (some .long), Cond.fieldLink RX2 18 "TermsDesk$Flow" "terms" "LTermsDesk$Terms;", Cond.fieldLink RX2 22 "TermsDesk$Flow" "parts" "LTermsDesk$Parts;", Cond.constantLong RX2 44 (-1), Cond.static yX8_pairsOf, Cond.code yX8_pairsOf cX8_pairsOf 1 (some .long), Cond.constantLong RX8 216 (255), Cond.methodLink RX8 80 yX8_pairOf, Cond.static yX8_pairOf, Cond.code yX8_pairOf cX8_pairOf 2 (some .int), Cond.methodLink RX2 56 yX2_arrive, Cond.instanceMethod yX2_arrive, Cond.selects RX2 yX2_arrive yX2_arrive, Cond.code yX2_arrive cX2_arrive 10 none, Cond.fieldLink RX2 9 "TermsDesk$Flow" "arrived" "[J", Cond.methodLink RX4 78 yX2_quarrelCount, Cond.instanceMethod yX2_quarrelCount, Cond.selects RX2 yX2_quarrelCount yX2_quarrelCount, Cond.code yX2_quarrelCount cX2_quarrelCount 7 (some .int), Cond.methodLink RX2 96 yX2_ofProduct, Cond.instanceMethod yX2_ofProduct]
def wsX4_cheapestSet_r4 : List Cond := [Cond.selects RX2 yX2_ofProduct yX2_ofProduct, Cond.code yX2_ofProduct cX2_ofProduct 3 (some .int), Cond.methodLink RX2 92 yX3_allIn, Cond.instanceMethod yX3_allIn, Cond.selects RX3 yX3_allIn yX3_allIn, Cond.initialized RX3, Cond.code yX3_allIn cX3_allIn 9 (some .int), Cond.fieldLink RX3 21 "TermsDesk$Joins" "order" "[I", Cond.fieldLink RX3 27 "TermsDesk$Joins" "begin" "[I", Cond.fieldLink RX3 30 "TermsDesk$Joins" "end" "[I", Cond.fieldLink RX3 24 "TermsDesk$Joins" "sorted" "[I", Cond.fieldLink RX3 9 "TermsDesk$Joins" "from" "[I", Cond.methodLink RX2 100 yX2_foughtAt, Cond.instanceMethod yX2_foughtAt, Cond.selects RX2 yX2_foughtAt yX2_foughtAt, Cond.code yX2_foughtAt cX2_foughtAt 3 (some .long), Cond.methodLink RX2 104 yJ13_bitCount_95d88, Cond.static yJ13_bitCount_95d88, Cond.initialized RJ13, Cond.code yJ13_bitCount_95d88 cJ13_bitCount_95d88 2 (some .int), Cond.constantLong RJ13 314 (6148914691236517205), Cond.constantLong RJ13 316 (3689348814741910323), Cond.constantLong RJ13 318 (1085102592571150095)]
def wsX4_cheapestSet : List Cond := .code yX4_cheapestSet cX4_cheapestSet 5 (some .int) :: ((wsX4_cheapestSet_r1 ++ (wsX4_cheapestSet_r2 ++ (wsX4_cheapestSet_r3 ++ wsX4_cheapestSet_r4))) ++ wsX40 ++ wsX00 ++ wsX50 ++ wsX30 ++ wsX20 ++ wsX60)
def wsX5_init : List Cond := .code yX5_init cX5_init 1 none :: ([.methodLink RX5 3 objectInit, .instanceMethod objectInit, .code objectInit ⟨#[0xb1]⟩ 1 none, .arrayClass .int, .fieldLink RX5 9 "TermsDesk$Parts" "choices" "[I", .fieldLink RX5 15 "TermsDesk$Parts" "choiceCount" "[I", .fieldLink RX5 18 "TermsDesk$Parts" "licence" "[I", .arrayClass .long, .fieldLink RX5 21 "TermsDesk$Parts" "lifted" "[J"] ++ wsX50)
def wsX5_has : List Cond := .code yX5_has cX5_has 2 (some .boolean) :: ([.fieldLink RX5 25 "TermsDesk$Parts" "told" "I", .static yX8_within, .initialized RX8, .code yX8_within cX8_within 2 (some .boolean)] ++ wsX50)
def wsX5_add : List Cond := .code yX5_add cX5_add 5 (some .int) :: ([.fieldLink RX5 25 "TermsDesk$Parts" "told" "I", .fieldLink RX5 9 "TermsDesk$Parts" "choices" "[I", .fieldLink RX5 15 "TermsDesk$Parts" "choiceCount" "[I", .fieldLink RX5 18 "TermsDesk$Parts" "licence" "[I"] ++ wsX50)
def wsX6_init : List Cond := .code yX6_init cX6_init 1 none :: ([.methodLink RX6 3 objectInit, .instanceMethod objectInit, .code objectInit ⟨#[0xb1]⟩ 1 none, .arrayClass .long, .fieldLink RX6 9 "TermsDesk$Terms" "asked" "[J", .fieldLink RX6 15 "TermsDesk$Terms" "along" "[J", .fieldLink RX6 18 "TermsDesk$Terms" "fought" "[J"] ++ wsX60)
def wsX6_spread : List Cond := .code yX6_spread cX6_spread 6 none :: ([.constantLong RX6 25 (-1), .static yX8_holds, .initialized RX8, .code yX8_holds cX8_holds 3 (some .boolean)])
def wsX6_tellAsk : List Cond := .code yX6_tellAsk cX6_tellAsk 4 none :: ([.fieldLink RX6 9 "TermsDesk$Terms" "asked" "[J", .fieldLink RX6 15 "TermsDesk$Terms" "along" "[J", .methodLink RX6 21 yX6_spread, .static yX6_spread, .initialized RX6, .code yX6_spread cX6_spread 6 none, .constantLong RX6 25 (-1), .static yX8_holds, .initialized RX8, .code yX8_holds cX8_holds 3 (some .boolean)] ++ wsX60)
def wsX6_tellBars : List Cond := .code yX6_tellBars cX6_tellBars 6 none :: ([.fieldLink RX6 18 "TermsDesk$Terms" "fought" "[J", .static yX8_pairOf, .initialized RX8, .code yX8_pairOf cX8_pairOf 2 (some .int)] ++ wsX60)
def wsX7_init : List Cond := .code yX7_init cX7_init 5 none :: ([.methodLink RX7 3 objectInit, .instanceMethod objectInit, .code objectInit ⟨#[0xb1]⟩ 1 none, .arrayClass .int, .fieldLink RX7 9 "TermsDesk$Tracer" "steps" "[I", .fieldLink RX7 15 "TermsDesk$Tracer" "terms" "LTermsDesk$Terms;", .fieldLink RX7 19 "TermsDesk$Tracer" "parts" "LTermsDesk$Parts;", .fieldLink RX7 23 "TermsDesk$Tracer" "joins" "LTermsDesk$Joins;", .fieldLink RX7 27 "TermsDesk$Tracer" "flow" "LTermsDesk$Flow;"] ++ wsX70)
def wsX7_goes : List Cond := .code yX7_goes cX7_goes 3 (some .boolean) :: ([.fieldLink RX7 15 "TermsDesk$Tracer" "terms" "LTermsDesk$Terms;", .fieldLink RX7 23 "TermsDesk$Tracer" "joins" "LTermsDesk$Joins;", .static yX8_holds, .initialized RX8, .code yX8_holds cX8_holds 3 (some .boolean)] ++ wsX70 ++ wsX60 ++ wsX30)
def wsX7_measureInto : List Cond := .code yX7_measureInto cX7_measureInto 7 none :: ([.fieldLink RX7 9 "TermsDesk$Tracer" "steps" "[I", .fieldLink RX7 23 "TermsDesk$Tracer" "joins" "LTermsDesk$Joins;", .methodLink RX7 100 yX7_goes, .instanceMethod yX7_goes, .selects RX7 yX7_goes yX7_goes, .initialized RX7, .code yX7_goes cX7_goes 3 (some .boolean), .fieldLink RX7 15 "TermsDesk$Tracer" "terms" "LTermsDesk$Terms;", .static yX8_holds, .initialized RX8, .code yX8_holds cX8_holds 3 (some .boolean)] ++ wsX70 ++ wsX30 ++ wsX60)
def wsX7_measure : List Cond := .code yX7_measure cX7_measure 5 none :: ([.fieldLink RX7 9 "TermsDesk$Tracer" "steps" "[I", .fieldLink RX7 23 "TermsDesk$Tracer" "joins" "LTermsDesk$Joins;", .methodLink RX7 85 yX7_measureInto, .instanceMethod yX7_measureInto, .selects RX7 yX7_measureInto yX7_measureInto, .initialized RX7, .code yX7_measureInto cX7_measureInto 7 none, .methodLink RX7 100 yX7_goes, .instanceMethod yX7_goes, .selects RX7 yX7_goes yX7_goes, .code yX7_goes cX7_goes 3 (some .boolean), .fieldLink RX7 15 "TermsDesk$Tracer" "terms" "LTermsDesk$Terms;", .static yX8_holds, .initialized RX8, .code yX8_holds cX8_holds 3 (some .boolean)] ++ wsX70 ++ wsX30 ++ wsX60)
def wsX7_brings : List Cond := .code yX7_brings cX7_brings 4 (some .boolean) :: ([.fieldLink RX7 27 "TermsDesk$Tracer" "flow" "LTermsDesk$Flow;", .fieldLink RX7 19 "TermsDesk$Tracer" "parts" "LTermsDesk$Parts;", .methodLink RX7 61 yX2_brought, .instanceMethod yX2_brought, .selects RX2 yX2_brought yX2_brought, .initialized RX2, .code yX2_brought cX2_brought 4 (some .long), .fieldLink RX2 18 "TermsDesk$Flow" "terms" "LTermsDesk$Terms;", .fieldLink RX2 22 "TermsDesk$Flow" "parts" "LTermsDesk$Parts;", .constantLong RX2 44 (-1), .static yX8_pairsOf, .initialized RX8, .code yX8_pairsOf cX8_pairsOf 1 (some .long), .constantLong RX8 216 (255), .methodLink RX8 80 yX8_pairOf, .static yX8_pairOf, .code yX8_pairOf cX8_pairOf 2 (some .int), .static yX8_holds, .code yX8_holds cX8_holds 3 (some .boolean)] ++ wsX70 ++ wsX50 ++ wsX20 ++ wsX60)
def wsX7_source_r1 : List Cond := [Cond.fieldLink RX7 19 "TermsDesk$Tracer" "parts" "LTermsDesk$Parts;", Cond.fieldLink RX7 9 "TermsDesk$Tracer" "steps" "[I", Cond.methodLink RX7 54 yX7_brings, Cond.instanceMethod yX7_brings, Cond.selects RX7 yX7_brings yX7_brings, Cond.initialized RX7, Cond.code yX7_brings cX7_brings 4 (some .boolean), Cond.fieldLink RX7 27 "TermsDesk$Tracer" "flow" "LTermsDesk$Flow;", Cond.methodLink RX7 61 yX2_brought, Cond.instanceMethod yX2_brought, Cond.selects RX2 yX2_brought yX2_brought, Cond.initialized RX2, Cond.code yX2_brought cX2_brought 4 (some .long), Cond.fieldLink RX2 18 "TermsDesk$Flow" "terms" "LTermsDesk$Terms;", Cond.fieldLink RX2 22 "TermsDesk$Flow" "parts" "LTermsDesk$Parts;", Cond.constantLong RX2 44 (-1), Cond.static yX8_pairsOf, Cond.initialized RX8, Cond.code yX8_pairsOf cX8_pairsOf 1 (some .long), Cond.constantLong RX8 216 (255), Cond.methodLink RX8 80 yX8_pairOf, Cond.static yX8_pairOf, Cond.code yX8_pairOf cX8_pairOf 2 (some .int), Cond.static yX8_holds]
def wsX7_source_r2 : List Cond := [Cond.code yX8_holds cX8_holds 3 (some .boolean)]
def wsX7_source : List Cond := .code yX7_source cX7_source 6 (some .int) :: ((wsX7_source_r1 ++ wsX7_source_r2) ++ wsX70 ++ wsX50 ++ wsX20 ++ wsX60)
def wsX7_next : List Cond := .code yX7_next cX7_next 7 (some .int) :: ([.fieldLink RX7 23 "TermsDesk$Tracer" "joins" "LTermsDesk$Joins;", .fieldLink RX7 9 "TermsDesk$Tracer" "steps" "[I", .methodLink RX7 108 yX3_isThere, .instanceMethod yX3_isThere, .selects RX3 yX3_isThere yX3_isThere, .initialized RX3, .code yX3_isThere cX3_isThere 2 (some .boolean), .fieldLink RX3 33 "TermsDesk$Joins" "told" "I", .fieldLink RX3 41 "TermsDesk$Joins" "there" "J", .static yX8_within, .initialized RX8, .code yX8_within cX8_within 2 (some .boolean), .static yX8_holds, .code yX8_holds cX8_holds 3 (some .boolean), .methodLink RX7 100 yX7_goes, .instanceMethod yX7_goes, .selects RX7 yX7_goes yX7_goes, .initialized RX7, .code yX7_goes cX7_goes 3 (some .boolean), .fieldLink RX7 15 "TermsDesk$Tracer" "terms" "LTermsDesk$Terms;"] ++ wsX70 ++ wsX30 ++ wsX60)
def wsX7_partOnWay_r1 : List Cond := [Cond.fieldLink RX7 9 "TermsDesk$Tracer" "steps" "[I", Cond.methodLink RX7 31 yX7_measure, Cond.instanceMethod yX7_measure, Cond.selects RX7 yX7_measure yX7_measure, Cond.initialized RX7, Cond.code yX7_measure cX7_measure 5 none, Cond.fieldLink RX7 23 "TermsDesk$Tracer" "joins" "LTermsDesk$Joins;", Cond.methodLink RX7 85 yX7_measureInto, Cond.instanceMethod yX7_measureInto, Cond.selects RX7 yX7_measureInto yX7_measureInto, Cond.code yX7_measureInto cX7_measureInto 7 none, Cond.methodLink RX7 100 yX7_goes, Cond.instanceMethod yX7_goes, Cond.selects RX7 yX7_goes yX7_goes, Cond.code yX7_goes cX7_goes 3 (some .boolean), Cond.fieldLink RX7 15 "TermsDesk$Tracer" "terms" "LTermsDesk$Terms;", Cond.static yX8_holds, Cond.initialized RX8, Cond.code yX8_holds cX8_holds 3 (some .boolean), Cond.methodLink RX7 35 yX7_source, Cond.instanceMethod yX7_source, Cond.selects RX7 yX7_source yX7_source, Cond.code yX7_source cX7_source 6 (some .int), Cond.fieldLink RX7 19 "TermsDesk$Tracer" "parts" "LTermsDesk$Parts;"]
def wsX7_partOnWay_r2 : List Cond := [Cond.methodLink RX7 54 yX7_brings, Cond.instanceMethod yX7_brings, Cond.selects RX7 yX7_brings yX7_brings, Cond.code yX7_brings cX7_brings 4 (some .boolean), Cond.fieldLink RX7 27 "TermsDesk$Tracer" "flow" "LTermsDesk$Flow;", Cond.methodLink RX7 61 yX2_brought, Cond.instanceMethod yX2_brought, Cond.selects RX2 yX2_brought yX2_brought, Cond.initialized RX2, Cond.code yX2_brought cX2_brought 4 (some .long), Cond.fieldLink RX2 18 "TermsDesk$Flow" "terms" "LTermsDesk$Terms;", Cond.fieldLink RX2 22 "TermsDesk$Flow" "parts" "LTermsDesk$Parts;", Cond.constantLong RX2 44 (-1), Cond.static yX8_pairsOf, Cond.code yX8_pairsOf cX8_pairsOf 1 (some .long), Cond.constantLong RX8 216 (255), Cond.methodLink RX8 80 yX8_pairOf, Cond.static yX8_pairOf, Cond.code yX8_pairOf cX8_pairOf 2 (some .int), Cond.methodLink RX7 39 yX7_next, Cond.instanceMethod yX7_next, Cond.selects RX7 yX7_next yX7_next, Cond.code yX7_next cX7_next 7 (some .int), Cond.methodLink RX7 108 yX3_isThere]
def wsX7_partOnWay_r3 : List Cond := [Cond.instanceMethod yX3_isThere, Cond.selects RX3 yX3_isThere yX3_isThere, Cond.initialized RX3, Cond.code yX3_isThere cX3_isThere 2 (some .boolean), Cond.fieldLink RX3 33 "TermsDesk$Joins" "told" "I", Cond.fieldLink RX3 41 "TermsDesk$Joins" "there" "J", Cond.static yX8_within, Cond.code yX8_within cX8_within 2 (some .boolean)]
def wsX7_partOnWay : List Cond := .code yX7_partOnWay cX7_partOnWay 7 (some .int) :: ((wsX7_partOnWay_r1 ++ (wsX7_partOnWay_r2 ++ wsX7_partOnWay_r3)) ++ wsX70 ++ wsX30 ++ wsX60 ++ wsX50 ++ wsX20)
def wsX7_noticed_r1 : List Cond := [Cond.fieldLink RX7 19 "TermsDesk$Tracer" "parts" "LTermsDesk$Parts;", Cond.fieldLink RX7 9 "TermsDesk$Tracer" "steps" "[I", Cond.static yX8_pairOf, Cond.initialized RX8, Cond.code yX8_pairOf cX8_pairOf 2 (some .int), Cond.methodLink RX7 31 yX7_measure, Cond.instanceMethod yX7_measure, Cond.selects RX7 yX7_measure yX7_measure, Cond.initialized RX7, Cond.code yX7_measure cX7_measure 5 none, Cond.fieldLink RX7 23 "TermsDesk$Tracer" "joins" "LTermsDesk$Joins;", Cond.methodLink RX7 85 yX7_measureInto, Cond.instanceMethod yX7_measureInto, Cond.selects RX7 yX7_measureInto yX7_measureInto, Cond.code yX7_measureInto cX7_measureInto 7 none, Cond.methodLink RX7 100 yX7_goes, Cond.instanceMethod yX7_goes, Cond.selects RX7 yX7_goes yX7_goes, Cond.code yX7_goes cX7_goes 3 (some .boolean), Cond.fieldLink RX7 15 "TermsDesk$Tracer" "terms" "LTermsDesk$Terms;", Cond.static yX8_holds, Cond.code yX8_holds cX8_holds 3 (some .boolean), Cond.methodLink RX7 54 yX7_brings, Cond.instanceMethod yX7_brings]
def wsX7_noticed_r2 : List Cond := [Cond.selects RX7 yX7_brings yX7_brings, Cond.code yX7_brings cX7_brings 4 (some .boolean), Cond.fieldLink RX7 27 "TermsDesk$Tracer" "flow" "LTermsDesk$Flow;", Cond.methodLink RX7 61 yX2_brought, Cond.instanceMethod yX2_brought, Cond.selects RX2 yX2_brought yX2_brought, Cond.initialized RX2, Cond.code yX2_brought cX2_brought 4 (some .long), Cond.fieldLink RX2 18 "TermsDesk$Flow" "terms" "LTermsDesk$Terms;", Cond.fieldLink RX2 22 "TermsDesk$Flow" "parts" "LTermsDesk$Parts;", Cond.constantLong RX2 44 (-1), Cond.static yX8_pairsOf, Cond.code yX8_pairsOf cX8_pairsOf 1 (some .long), Cond.constantLong RX8 216 (255), Cond.methodLink RX8 80 yX8_pairOf]
def wsX7_noticed : List Cond := .code yX7_noticed cX7_noticed 6 (some .int) :: ((wsX7_noticed_r1 ++ wsX7_noticed_r2) ++ wsX70 ++ wsX50 ++ wsX30 ++ wsX60 ++ wsX20)
def wsX8_init_r1 : List Cond := [Cond.methodLink RX8 3 objectInit, Cond.instanceMethod objectInit, Cond.code objectInit ⟨#[0xb1]⟩ 1 none, Cond.classLink RX8 9 RX6, Cond.instantiable RX6 3, Cond.initialized RX6, Cond.fieldLink RX8 12 "TermsDesk" "terms" "LTermsDesk$Terms;", Cond.classLink RX8 16 RX5, Cond.instantiable RX5 6, Cond.initialized RX5, Cond.fieldLink RX8 19 "TermsDesk" "parts" "LTermsDesk$Parts;", Cond.classLink RX8 23 RX3, Cond.instantiable RX3 9, Cond.initialized RX3, Cond.fieldLink RX8 26 "TermsDesk" "joins" "LTermsDesk$Joins;", Cond.classLink RX8 30 RX0, Cond.instantiable RX0 5, Cond.initialized RX0, Cond.fieldLink RX8 33 "TermsDesk" "changes" "LTermsDesk$Changes;", Cond.classLink RX8 37 RX2, Cond.instantiable RX2 5, Cond.initialized RX2, Cond.fieldLink RX8 42 "TermsDesk" "flow" "LTermsDesk$Flow;", Cond.classLink RX8 46 RX1]
def wsX8_init_r2 : List Cond := [Cond.instantiable RX1 10, Cond.initialized RX1, Cond.fieldLink RX8 51 "TermsDesk" "chooser" "LTermsDesk$Chooser;", Cond.classLink RX8 55 RX4, Cond.instantiable RX4 5, Cond.initialized RX4, Cond.fieldLink RX8 60 "TermsDesk" "mender" "LTermsDesk$Mender;", Cond.classLink RX8 64 RX7, Cond.instantiable RX7 5, Cond.initialized RX7, Cond.fieldLink RX8 69 "TermsDesk" "tracer" "LTermsDesk$Tracer;", Cond.instanceMethod yX6_init, Cond.code yX6_init cX6_init 1 none, Cond.methodLink RX6 3 objectInit, Cond.arrayClass .long, Cond.fieldLink RX6 9 "TermsDesk$Terms" "asked" "[J", Cond.fieldLink RX6 15 "TermsDesk$Terms" "along" "[J", Cond.fieldLink RX6 18 "TermsDesk$Terms" "fought" "[J", Cond.instanceMethod yX5_init, Cond.code yX5_init cX5_init 1 none, Cond.methodLink RX5 3 objectInit, Cond.arrayClass .int, Cond.fieldLink RX5 9 "TermsDesk$Parts" "choices" "[I", Cond.fieldLink RX5 15 "TermsDesk$Parts" "choiceCount" "[I"]
def wsX8_init_r3 : List Cond := [Cond.fieldLink RX5 18 "TermsDesk$Parts" "licence" "[I", Cond.fieldLink RX5 21 "TermsDesk$Parts" "lifted" "[J", Cond.methodLink RX8 25 yX3_init, Cond.instanceMethod yX3_init, Cond.code yX3_init cX3_init 2 none, Cond.methodLink RX3 3 objectInit, Cond.fieldLink RX3 9 "TermsDesk$Joins" "from" "[I", Cond.fieldLink RX3 15 "TermsDesk$Joins" "to" "[I", Cond.fieldLink RX3 18 "TermsDesk$Joins" "kind" "[I", Cond.fieldLink RX3 21 "TermsDesk$Joins" "order" "[I", Cond.fieldLink RX3 24 "TermsDesk$Joins" "sorted" "[I", Cond.fieldLink RX3 27 "TermsDesk$Joins" "begin" "[I", Cond.fieldLink RX3 30 "TermsDesk$Joins" "end" "[I", Cond.instanceMethod yX0_init, Cond.code yX0_init cX0_init 1 none, Cond.methodLink RX0 3 objectInit, Cond.fieldLink RX0 9 "TermsDesk$Changes" "what" "[I", Cond.fieldLink RX0 15 "TermsDesk$Changes" "which" "[I", Cond.fieldLink RX0 18 "TermsDesk$Changes" "licence" "[I", Cond.fieldLink RX0 21 "TermsDesk$Changes" "cost" "[I", Cond.methodLink RX8 39 yX2_init, Cond.instanceMethod yX2_init, Cond.code yX2_init cX2_init 4 none, Cond.methodLink RX2 3 objectInit]
def wsX8_init_r4 : List Cond := [Cond.fieldLink RX2 9 "TermsDesk$Flow" "arrived" "[J", Cond.fieldLink RX2 15 "TermsDesk$Flow" "earlier" "[J", Cond.fieldLink RX2 18 "TermsDesk$Flow" "terms" "LTermsDesk$Terms;", Cond.fieldLink RX2 22 "TermsDesk$Flow" "parts" "LTermsDesk$Parts;", Cond.fieldLink RX2 26 "TermsDesk$Flow" "joins" "LTermsDesk$Joins;", Cond.methodLink RX8 48 yX1_init, Cond.instanceMethod yX1_init, Cond.code yX1_init cX1_init 4 none, Cond.methodLink RX1 3 objectInit, Cond.fieldLink RX1 9 "TermsDesk$Chooser" "line" "[I", Cond.fieldLink RX1 15 "TermsDesk$Chooser" "place" "[I", Cond.fieldLink RX1 18 "TermsDesk$Chooser" "bestPlace" "[I", Cond.fieldLink RX1 21 "TermsDesk$Chooser" "quarrelsBefore" "[I", Cond.fieldLink RX1 24 "TermsDesk$Chooser" "parts" "LTermsDesk$Parts;", Cond.fieldLink RX1 28 "TermsDesk$Chooser" "joins" "LTermsDesk$Joins;", Cond.fieldLink RX1 32 "TermsDesk$Chooser" "flow" "LTermsDesk$Flow;", Cond.methodLink RX8 57 yX4_init, Cond.instanceMethod yX4_init, Cond.code yX4_init cX4_init 5 none, Cond.methodLink RX4 3 objectInit, Cond.fieldLink RX4 9 "TermsDesk$Mender" "licence" "[I", Cond.fieldLink RX4 15 "TermsDesk$Mender" "parts" "LTermsDesk$Parts;", Cond.fieldLink RX4 19 "TermsDesk$Mender" "joins" "LTermsDesk$Joins;", Cond.fieldLink RX4 23 "TermsDesk$Mender" "changes" "LTermsDesk$Changes;"]
def wsX8_init_r5 : List Cond := [Cond.fieldLink RX4 27 "TermsDesk$Mender" "flow" "LTermsDesk$Flow;", Cond.methodLink RX8 66 yX7_init, Cond.instanceMethod yX7_init, Cond.code yX7_init cX7_init 5 none, Cond.methodLink RX7 3 objectInit, Cond.fieldLink RX7 9 "TermsDesk$Tracer" "steps" "[I", Cond.fieldLink RX7 15 "TermsDesk$Tracer" "terms" "LTermsDesk$Terms;", Cond.fieldLink RX7 19 "TermsDesk$Tracer" "parts" "LTermsDesk$Parts;", Cond.fieldLink RX7 23 "TermsDesk$Tracer" "joins" "LTermsDesk$Joins;", Cond.fieldLink RX7 27 "TermsDesk$Tracer" "flow" "LTermsDesk$Flow;"]
def wsX8_init : List Cond := .code yX8_init cX8_init 1 none :: ((wsX8_init_r1 ++ (wsX8_init_r2 ++ (wsX8_init_r3 ++ (wsX8_init_r4 ++ wsX8_init_r5)))) ++ wsX60 ++ wsX80 ++ wsX50 ++ wsX30 ++ wsX00 ++ wsX20 ++ wsX10 ++ wsX40 ++ wsX70)
def wsX8_isPair : List Cond := .code yX8_isPair cX8_isPair 2 (some .boolean) :: ([.methodLink RX8 77 yX8_within, .static yX8_within, .initialized RX8, .code yX8_within cX8_within 2 (some .boolean)])
def wsX8_asks : List Cond := .code yX8_asks cX8_asks 5 (some .boolean) :: ([.fieldLink RX8 12 "TermsDesk" "terms" "LTermsDesk$Terms;", .methodLink RX8 73 yX8_isPair, .static yX8_isPair, .initialized RX8, .code yX8_isPair cX8_isPair 2 (some .boolean), .methodLink RX8 77 yX8_within, .static yX8_within, .code yX8_within cX8_within 2 (some .boolean), .methodLink RX8 80 yX8_pairOf, .static yX8_pairOf, .code yX8_pairOf cX8_pairOf 2 (some .int), .methodLink RX8 84 yX6_tellAsk, .instanceMethod yX6_tellAsk, .selects RX6 yX6_tellAsk yX6_tellAsk, .initialized RX6, .code yX6_tellAsk cX6_tellAsk 4 none, .fieldLink RX6 9 "TermsDesk$Terms" "asked" "[J", .fieldLink RX6 15 "TermsDesk$Terms" "along" "[J", .methodLink RX6 21 yX6_spread, .static yX6_spread, .code yX6_spread cX6_spread 6 none, .constantLong RX6 25 (-1), .static yX8_holds, .code yX8_holds cX8_holds 3 (some .boolean)] ++ wsX80 ++ wsX60)
def wsX8_bars : List Cond := .code yX8_bars cX8_bars 3 (some .boolean) :: ([.fieldLink RX8 12 "TermsDesk" "terms" "LTermsDesk$Terms;", .methodLink RX8 77 yX8_within, .static yX8_within, .initialized RX8, .code yX8_within cX8_within 2 (some .boolean), .methodLink RX8 88 yX6_tellBars, .instanceMethod yX6_tellBars, .selects RX6 yX6_tellBars yX6_tellBars, .initialized RX6, .code yX6_tellBars cX6_tellBars 6 none, .fieldLink RX6 18 "TermsDesk$Terms" "fought" "[J", .static yX8_pairOf, .code yX8_pairOf cX8_pairOf 2 (some .int)] ++ wsX80 ++ wsX60)
def wsX8_isRowOfChoices : List Cond := .code yX8_isRowOfChoices cX8_isRowOfChoices 3 (some .boolean) :: ([.methodLink RX8 77 yX8_within, .static yX8_within, .initialized RX8, .code yX8_within cX8_within 2 (some .boolean)])
def wsX8_part : List Cond := .code yX8_part cX8_part 4 (some .int) :: ([.fieldLink RX8 19 "TermsDesk" "parts" "LTermsDesk$Parts;", .methodLink RX8 92 yX8_isRowOfChoices, .static yX8_isRowOfChoices, .initialized RX8, .code yX8_isRowOfChoices cX8_isRowOfChoices 3 (some .boolean), .methodLink RX8 77 yX8_within, .static yX8_within, .code yX8_within cX8_within 2 (some .boolean), .methodLink RX8 100 yX5_add, .instanceMethod yX5_add, .selects RX5 yX5_add yX5_add, .initialized RX5, .code yX5_add cX5_add 5 (some .int), .fieldLink RX5 25 "TermsDesk$Parts" "told" "I", .fieldLink RX5 9 "TermsDesk$Parts" "choices" "[I", .fieldLink RX5 15 "TermsDesk$Parts" "choiceCount" "[I", .fieldLink RX5 18 "TermsDesk$Parts" "licence" "[I"] ++ wsX80 ++ wsX50)
def wsX8_take : List Cond := .code yX8_take cX8_take 4 (some .boolean) :: ([.fieldLink RX8 19 "TermsDesk" "parts" "LTermsDesk$Parts;", .methodLink RX8 104 yX5_has, .instanceMethod yX5_has, .selects RX5 yX5_has yX5_has, .initialized RX5, .code yX5_has cX5_has 2 (some .boolean), .fieldLink RX5 25 "TermsDesk$Parts" "told" "I", .static yX8_within, .initialized RX8, .code yX8_within cX8_within 2 (some .boolean), .methodLink RX8 77 yX8_within, .methodLink RX8 112 yX5_choiceOf, .instanceMethod yX5_choiceOf, .selects RX5 yX5_choiceOf yX5_choiceOf, .code yX5_choiceOf cX5_choiceOf 3 (some .int), .fieldLink RX5 9 "TermsDesk$Parts" "choices" "[I"] ++ wsX80 ++ wsX50)
def wsX8_join_r1 : List Cond := [Cond.fieldLink RX8 19 "TermsDesk" "parts" "LTermsDesk$Parts;", Cond.fieldLink RX8 26 "TermsDesk" "joins" "LTermsDesk$Joins;", Cond.methodLink RX8 104 yX5_has, Cond.instanceMethod yX5_has, Cond.selects RX5 yX5_has yX5_has, Cond.initialized RX5, Cond.code yX5_has cX5_has 2 (some .boolean), Cond.fieldLink RX5 25 "TermsDesk$Parts" "told" "I", Cond.static yX8_within, Cond.initialized RX8, Cond.code yX8_within cX8_within 2 (some .boolean), Cond.methodLink RX8 77 yX8_within, Cond.methodLink RX8 119 yX3_leads, Cond.instanceMethod yX3_leads, Cond.selects RX3 yX3_leads yX3_leads, Cond.initialized RX3, Cond.code yX3_leads cX3_leads 4 (some .boolean), Cond.fieldLink RX3 27 "TermsDesk$Joins" "begin" "[I", Cond.fieldLink RX3 30 "TermsDesk$Joins" "end" "[I", Cond.fieldLink RX3 9 "TermsDesk$Joins" "from" "[I", Cond.fieldLink RX3 24 "TermsDesk$Joins" "sorted" "[I", Cond.methodLink RX8 126 yX3_allIn, Cond.instanceMethod yX3_allIn, Cond.selects RX3 yX3_allIn yX3_allIn]
def wsX8_join_r2 : List Cond := [Cond.code yX3_allIn cX3_allIn 9 (some .int), Cond.fieldLink RX3 21 "TermsDesk$Joins" "order" "[I", Cond.static yX8_holds, Cond.code yX8_holds cX8_holds 3 (some .boolean), Cond.methodLink RX8 130 yX8_holds, Cond.methodLink RX8 134 yX3_add, Cond.instanceMethod yX3_add, Cond.selects RX3 yX3_add yX3_add, Cond.code yX3_add cX3_add 5 (some .int), Cond.fieldLink RX3 33 "TermsDesk$Joins" "told" "I", Cond.fieldLink RX3 15 "TermsDesk$Joins" "to" "[I", Cond.fieldLink RX3 18 "TermsDesk$Joins" "kind" "[I", Cond.fieldLink RX3 41 "TermsDesk$Joins" "there" "J", Cond.methodLink RX3 49 yX3_sortJoins, Cond.instanceMethod yX3_sortJoins, Cond.selects RX3 yX3_sortJoins yX3_sortJoins, Cond.code yX3_sortJoins cX3_sortJoins 4 none, Cond.methodLink RX3 52 yX3_orderParts, Cond.instanceMethod yX3_orderParts, Cond.selects RX3 yX3_orderParts yX3_orderParts, Cond.code yX3_orderParts cX3_orderParts 5 none, Cond.methodLink RX3 57 yX3_directlyIn, Cond.instanceMethod yX3_directlyIn, Cond.selects RX3 yX3_directlyIn yX3_directlyIn]
def wsX8_join_r3 : List Cond := [Cond.code yX3_directlyIn cX3_directlyIn 4 (some .int)]
def wsX8_join : List Cond := .code yX8_join cX8_join 4 (some .int) :: ((wsX8_join_r1 ++ (wsX8_join_r2 ++ wsX8_join_r3)) ++ wsX80 ++ wsX30 ++ wsX50)
def wsX8_cut_r1 : List Cond := [Cond.fieldLink RX8 26 "TermsDesk" "joins" "LTermsDesk$Joins;", Cond.methodLink RX8 135 yX3_isThere, Cond.instanceMethod yX3_isThere, Cond.selects RX3 yX3_isThere yX3_isThere, Cond.initialized RX3, Cond.code yX3_isThere cX3_isThere 2 (some .boolean), Cond.fieldLink RX3 33 "TermsDesk$Joins" "told" "I", Cond.fieldLink RX3 41 "TermsDesk$Joins" "there" "J", Cond.static yX8_within, Cond.initialized RX8, Cond.code yX8_within cX8_within 2 (some .boolean), Cond.static yX8_holds, Cond.code yX8_holds cX8_holds 3 (some .boolean), Cond.methodLink RX8 138 yX3_remove, Cond.instanceMethod yX3_remove, Cond.selects RX3 yX3_remove yX3_remove, Cond.code yX3_remove cX3_remove 2 none, Cond.constantLong RX3 55 (-1), Cond.methodLink RX3 49 yX3_sortJoins, Cond.instanceMethod yX3_sortJoins, Cond.selects RX3 yX3_sortJoins yX3_sortJoins, Cond.code yX3_sortJoins cX3_sortJoins 4 none, Cond.fieldLink RX3 27 "TermsDesk$Joins" "begin" "[I", Cond.fieldLink RX3 15 "TermsDesk$Joins" "to" "[I"]
def wsX8_cut_r2 : List Cond := [Cond.fieldLink RX3 24 "TermsDesk$Joins" "sorted" "[I", Cond.fieldLink RX3 30 "TermsDesk$Joins" "end" "[I"]
def wsX8_cut : List Cond := .code yX8_cut cX8_cut 2 (some .boolean) :: ((wsX8_cut_r1 ++ wsX8_cut_r2) ++ wsX80 ++ wsX30)
def wsX8_except : List Cond := .code yX8_except cX8_except 4 (some .boolean) :: ([.fieldLink RX8 19 "TermsDesk" "parts" "LTermsDesk$Parts;", .methodLink RX8 104 yX5_has, .instanceMethod yX5_has, .selects RX5 yX5_has yX5_has, .initialized RX5, .code yX5_has cX5_has 2 (some .boolean), .fieldLink RX5 25 "TermsDesk$Parts" "told" "I", .static yX8_within, .initialized RX8, .code yX8_within cX8_within 2 (some .boolean), .methodLink RX8 73 yX8_isPair, .static yX8_isPair, .code yX8_isPair cX8_isPair 2 (some .boolean), .methodLink RX8 77 yX8_within, .methodLink RX8 80 yX8_pairOf, .static yX8_pairOf, .code yX8_pairOf cX8_pairOf 2 (some .int), .methodLink RX8 130 yX8_holds, .static yX8_holds, .code yX8_holds cX8_holds 3 (some .boolean)] ++ wsX80 ++ wsX50)
def wsX8_product : List Cond := .code yX8_product cX8_product 2 (some .boolean) :: ([.fieldLink RX8 19 "TermsDesk" "parts" "LTermsDesk$Parts;", .methodLink RX8 104 yX5_has, .instanceMethod yX5_has, .selects RX5 yX5_has yX5_has, .initialized RX5, .code yX5_has cX5_has 2 (some .boolean), .fieldLink RX5 25 "TermsDesk$Parts" "told" "I", .static yX8_within, .initialized RX8, .code yX8_within cX8_within 2 (some .boolean)] ++ wsX80 ++ wsX50)
def wsX8_change : List Cond := .code yX8_change cX8_change 6 (some .int) :: ([.fieldLink RX8 19 "TermsDesk" "parts" "LTermsDesk$Parts;", .fieldLink RX8 26 "TermsDesk" "joins" "LTermsDesk$Joins;", .constant RX8 149 (100001), .fieldLink RX8 33 "TermsDesk" "changes" "LTermsDesk$Changes;", .methodLink RX8 104 yX5_has, .instanceMethod yX5_has, .selects RX5 yX5_has yX5_has, .initialized RX5, .code yX5_has cX5_has 2 (some .boolean), .fieldLink RX5 25 "TermsDesk$Parts" "told" "I", .static yX8_within, .initialized RX8, .code yX8_within cX8_within 2 (some .boolean), .methodLink RX8 77 yX8_within, .methodLink RX8 151 yX0_add, .instanceMethod yX0_add, .selects RX0 yX0_add yX0_add, .initialized RX0, .code yX0_add cX0_add 6 (some .int), .fieldLink RX0 24 "TermsDesk$Changes" "told" "I", .fieldLink RX0 9 "TermsDesk$Changes" "what" "[I", .fieldLink RX0 15 "TermsDesk$Changes" "which" "[I", .fieldLink RX0 18 "TermsDesk$Changes" "licence" "[I", .fieldLink RX0 21 "TermsDesk$Changes" "cost" "[I"] ++ wsX80 ++ wsX30 ++ wsX00 ++ wsX50)
def wsX8_come_r1 : List Cond := [Cond.fieldLink RX8 19 "TermsDesk" "parts" "LTermsDesk$Parts;", Cond.fieldLink RX8 42 "TermsDesk" "flow" "LTermsDesk$Flow;", Cond.fieldLink RX8 26 "TermsDesk" "joins" "LTermsDesk$Joins;", Cond.methodLink RX8 77 yX8_within, Cond.static yX8_within, Cond.initialized RX8, Cond.code yX8_within cX8_within 2 (some .boolean), Cond.methodLink RX8 104 yX5_has, Cond.instanceMethod yX5_has, Cond.selects RX5 yX5_has yX5_has, Cond.initialized RX5, Cond.code yX5_has cX5_has 2 (some .boolean), Cond.fieldLink RX5 25 "TermsDesk$Parts" "told" "I", Cond.methodLink RX8 154 yX2_run, Cond.instanceMethod yX2_run, Cond.selects RX2 yX2_run yX2_run, Cond.initialized RX2, Cond.code yX2_run cX2_run 7 none, Cond.fieldLink RX2 26 "TermsDesk$Flow" "joins" "LTermsDesk$Joins;", Cond.methodLink RX2 52 yX2_brought, Cond.instanceMethod yX2_brought, Cond.selects RX2 yX2_brought yX2_brought, Cond.code yX2_brought cX2_brought 4 (some .long), Cond.fieldLink RX2 18 "TermsDesk$Flow" "terms" "LTermsDesk$Terms;"]
def wsX8_come_r2 : List Cond := [Cond.fieldLink RX2 22 "TermsDesk$Flow" "parts" "LTermsDesk$Parts;", Cond.constantLong RX2 44 (-1), Cond.static yX8_pairsOf, Cond.code yX8_pairsOf cX8_pairsOf 1 (some .long), Cond.constantLong RX8 216 (255), Cond.methodLink RX8 80 yX8_pairOf, Cond.static yX8_pairOf, Cond.code yX8_pairOf cX8_pairOf 2 (some .int), Cond.methodLink RX2 56 yX2_arrive, Cond.instanceMethod yX2_arrive, Cond.selects RX2 yX2_arrive yX2_arrive, Cond.code yX2_arrive cX2_arrive 10 none, Cond.fieldLink RX2 9 "TermsDesk$Flow" "arrived" "[J", Cond.static yX8_holds, Cond.code yX8_holds cX8_holds 3 (some .boolean)]
def wsX8_come : List Cond := .code yX8_come cX8_come 4 (some .int) :: ((wsX8_come_r1 ++ wsX8_come_r2) ++ wsX80 ++ wsX50 ++ wsX30 ++ wsX20 ++ wsX60)
def wsX8_quarrels_r1 : List Cond := [Cond.fieldLink RX8 42 "TermsDesk" "flow" "LTermsDesk$Flow;", Cond.fieldLink RX8 19 "TermsDesk" "parts" "LTermsDesk$Parts;", Cond.fieldLink RX8 26 "TermsDesk" "joins" "LTermsDesk$Joins;", Cond.methodLink RX8 77 yX8_within, Cond.static yX8_within, Cond.initialized RX8, Cond.code yX8_within cX8_within 2 (some .boolean), Cond.methodLink RX8 154 yX2_run, Cond.instanceMethod yX2_run, Cond.selects RX2 yX2_run yX2_run, Cond.initialized RX2, Cond.code yX2_run cX2_run 7 none, Cond.fieldLink RX2 26 "TermsDesk$Flow" "joins" "LTermsDesk$Joins;", Cond.methodLink RX2 52 yX2_brought, Cond.instanceMethod yX2_brought, Cond.selects RX2 yX2_brought yX2_brought, Cond.code yX2_brought cX2_brought 4 (some .long), Cond.fieldLink RX2 18 "TermsDesk$Flow" "terms" "LTermsDesk$Terms;", Cond.fieldLink RX2 22 "TermsDesk$Flow" "parts" "LTermsDesk$Parts;", Cond.constantLong RX2 44 (-1), Cond.static yX8_pairsOf, Cond.code yX8_pairsOf cX8_pairsOf 1 (some .long), Cond.constantLong RX8 216 (255), Cond.methodLink RX8 80 yX8_pairOf]
def wsX8_quarrels_r2 : List Cond := [Cond.static yX8_pairOf, Cond.code yX8_pairOf cX8_pairOf 2 (some .int), Cond.methodLink RX2 56 yX2_arrive, Cond.instanceMethod yX2_arrive, Cond.selects RX2 yX2_arrive yX2_arrive, Cond.code yX2_arrive cX2_arrive 10 none, Cond.fieldLink RX2 9 "TermsDesk$Flow" "arrived" "[J", Cond.static yX8_holds, Cond.code yX8_holds cX8_holds 3 (some .boolean), Cond.methodLink RX8 161 yX2_quarrelCount, Cond.instanceMethod yX2_quarrelCount, Cond.selects RX2 yX2_quarrelCount yX2_quarrelCount, Cond.code yX2_quarrelCount cX2_quarrelCount 7 (some .int), Cond.methodLink RX2 96 yX2_ofProduct, Cond.instanceMethod yX2_ofProduct, Cond.selects RX2 yX2_ofProduct yX2_ofProduct, Cond.code yX2_ofProduct cX2_ofProduct 3 (some .int), Cond.methodLink RX2 92 yX3_allIn, Cond.instanceMethod yX3_allIn, Cond.selects RX3 yX3_allIn yX3_allIn, Cond.initialized RX3, Cond.code yX3_allIn cX3_allIn 9 (some .int), Cond.fieldLink RX3 21 "TermsDesk$Joins" "order" "[I", Cond.fieldLink RX3 27 "TermsDesk$Joins" "begin" "[I"]
def wsX8_quarrels_r3 : List Cond := [Cond.fieldLink RX3 30 "TermsDesk$Joins" "end" "[I", Cond.fieldLink RX3 24 "TermsDesk$Joins" "sorted" "[I", Cond.fieldLink RX3 9 "TermsDesk$Joins" "from" "[I", Cond.methodLink RX2 100 yX2_foughtAt, Cond.instanceMethod yX2_foughtAt, Cond.selects RX2 yX2_foughtAt yX2_foughtAt, Cond.code yX2_foughtAt cX2_foughtAt 3 (some .long), Cond.methodLink RX2 104 yJ13_bitCount_95d88, Cond.static yJ13_bitCount_95d88, Cond.initialized RJ13, Cond.code yJ13_bitCount_95d88 cJ13_bitCount_95d88 2 (some .int), Cond.constantLong RJ13 314 (6148914691236517205), Cond.constantLong RJ13 316 (3689348814741910323), Cond.constantLong RJ13 318 (1085102592571150095)]
def wsX8_quarrels : List Cond := .code yX8_quarrels cX8_quarrels 2 (some .int) :: ((wsX8_quarrels_r1 ++ (wsX8_quarrels_r2 ++ wsX8_quarrels_r3)) ++ wsX80 ++ wsX50 ++ wsX30 ++ wsX20 ++ wsX60)
def wsX8_quarrel_r1 : List Cond := [Cond.fieldLink RX8 42 "TermsDesk" "flow" "LTermsDesk$Flow;", Cond.fieldLink RX8 19 "TermsDesk" "parts" "LTermsDesk$Parts;", Cond.fieldLink RX8 26 "TermsDesk" "joins" "LTermsDesk$Joins;", Cond.methodLink RX8 77 yX8_within, Cond.static yX8_within, Cond.initialized RX8, Cond.code yX8_within cX8_within 2 (some .boolean), Cond.methodLink RX8 154 yX2_run, Cond.instanceMethod yX2_run, Cond.selects RX2 yX2_run yX2_run, Cond.initialized RX2, Cond.code yX2_run cX2_run 7 none, Cond.fieldLink RX2 26 "TermsDesk$Flow" "joins" "LTermsDesk$Joins;", Cond.methodLink RX2 52 yX2_brought, Cond.instanceMethod yX2_brought, Cond.selects RX2 yX2_brought yX2_brought, Cond.code yX2_brought cX2_brought 4 (some .long), Cond.fieldLink RX2 18 "TermsDesk$Flow" "terms" "LTermsDesk$Terms;", Cond.fieldLink RX2 22 "TermsDesk$Flow" "parts" "LTermsDesk$Parts;", Cond.constantLong RX2 44 (-1), Cond.static yX8_pairsOf, Cond.code yX8_pairsOf cX8_pairsOf 1 (some .long), Cond.constantLong RX8 216 (255), Cond.methodLink RX8 80 yX8_pairOf]
def wsX8_quarrel_r2 : List Cond := [Cond.static yX8_pairOf, Cond.code yX8_pairOf cX8_pairOf 2 (some .int), Cond.methodLink RX2 56 yX2_arrive, Cond.instanceMethod yX2_arrive, Cond.selects RX2 yX2_arrive yX2_arrive, Cond.code yX2_arrive cX2_arrive 10 none, Cond.fieldLink RX2 9 "TermsDesk$Flow" "arrived" "[J", Cond.static yX8_holds, Cond.code yX8_holds cX8_holds 3 (some .boolean), Cond.methodLink RX8 165 yX2_quarrelAt, Cond.instanceMethod yX2_quarrelAt, Cond.selects RX2 yX2_quarrelAt yX2_quarrelAt, Cond.code yX2_quarrelAt cX2_quarrelAt 8 (some .int), Cond.methodLink RX2 96 yX2_ofProduct, Cond.instanceMethod yX2_ofProduct, Cond.selects RX2 yX2_ofProduct yX2_ofProduct, Cond.code yX2_ofProduct cX2_ofProduct 3 (some .int), Cond.methodLink RX2 92 yX3_allIn, Cond.instanceMethod yX3_allIn, Cond.selects RX3 yX3_allIn yX3_allIn, Cond.initialized RX3, Cond.code yX3_allIn cX3_allIn 9 (some .int), Cond.fieldLink RX3 21 "TermsDesk$Joins" "order" "[I", Cond.fieldLink RX3 27 "TermsDesk$Joins" "begin" "[I"]
def wsX8_quarrel_r3 : List Cond := [Cond.fieldLink RX3 30 "TermsDesk$Joins" "end" "[I", Cond.fieldLink RX3 24 "TermsDesk$Joins" "sorted" "[I", Cond.fieldLink RX3 9 "TermsDesk$Joins" "from" "[I", Cond.methodLink RX2 100 yX2_foughtAt, Cond.instanceMethod yX2_foughtAt, Cond.selects RX2 yX2_foughtAt yX2_foughtAt, Cond.code yX2_foughtAt cX2_foughtAt 3 (some .long), Cond.methodLink RX2 104 yJ13_bitCount_95d88, Cond.static yJ13_bitCount_95d88, Cond.initialized RJ13, Cond.code yJ13_bitCount_95d88 cJ13_bitCount_95d88 2 (some .int), Cond.constantLong RJ13 314 (6148914691236517205), Cond.constantLong RJ13 316 (3689348814741910323), Cond.constantLong RJ13 318 (1085102592571150095), Cond.methodLink RX2 116 yX2_pairAt, Cond.static yX2_pairAt, Cond.code yX2_pairAt cX2_pairAt 5 (some .int)]
def wsX8_quarrel : List Cond := .code yX8_quarrel cX8_quarrel 3 (some .int) :: ((wsX8_quarrel_r1 ++ (wsX8_quarrel_r2 ++ wsX8_quarrel_r3)) ++ wsX80 ++ wsX50 ++ wsX30 ++ wsX20 ++ wsX60)
def wsX8_judge_r1 : List Cond := [Cond.fieldLink RX8 19 "TermsDesk" "parts" "LTermsDesk$Parts;", Cond.fieldLink RX8 42 "TermsDesk" "flow" "LTermsDesk$Flow;", Cond.fieldLink RX8 51 "TermsDesk" "chooser" "LTermsDesk$Chooser;", Cond.methodLink RX8 77 yX8_within, Cond.static yX8_within, Cond.initialized RX8, Cond.code yX8_within cX8_within 2 (some .boolean), Cond.methodLink RX8 169 yX2_wayCount, Cond.instanceMethod yX2_wayCount, Cond.selects RX2 yX2_wayCount yX2_wayCount, Cond.initialized RX2, Cond.code yX2_wayCount cX2_wayCount 4 (some .int), Cond.fieldLink RX2 26 "TermsDesk$Flow" "joins" "LTermsDesk$Joins;", Cond.fieldLink RX2 22 "TermsDesk$Flow" "parts" "LTermsDesk$Parts;", Cond.methodLink RX2 96 yX2_ofProduct, Cond.instanceMethod yX2_ofProduct, Cond.selects RX2 yX2_ofProduct yX2_ofProduct, Cond.code yX2_ofProduct cX2_ofProduct 3 (some .int), Cond.methodLink RX2 92 yX3_allIn, Cond.instanceMethod yX3_allIn, Cond.selects RX3 yX3_allIn yX3_allIn, Cond.initialized RX3, Cond.code yX3_allIn cX3_allIn 9 (some .int), Cond.fieldLink RX3 21 "TermsDesk$Joins" "order" "[I"]
def wsX8_judge_r2 : List Cond := [Cond.fieldLink RX3 27 "TermsDesk$Joins" "begin" "[I", Cond.fieldLink RX3 30 "TermsDesk$Joins" "end" "[I", Cond.fieldLink RX3 24 "TermsDesk$Joins" "sorted" "[I", Cond.fieldLink RX3 9 "TermsDesk$Joins" "from" "[I", Cond.static yX8_holds, Cond.code yX8_holds cX8_holds 3 (some .boolean), Cond.methodLink RX8 173 yX1_takeBest, Cond.instanceMethod yX1_takeBest, Cond.selects RX1 yX1_takeBest yX1_takeBest, Cond.initialized RX1, Cond.code yX1_takeBest cX1_takeBest 5 (some .int), Cond.fieldLink RX1 32 "TermsDesk$Chooser" "flow" "LTermsDesk$Flow;", Cond.fieldLink RX1 28 "TermsDesk$Chooser" "joins" "LTermsDesk$Joins;", Cond.fieldLink RX1 52 "TermsDesk$Chooser" "bestQuarrels" "I", Cond.fieldLink RX1 56 "TermsDesk$Chooser" "bestPairs" "I", Cond.fieldLink RX1 63 "TermsDesk$Chooser" "length" "I", Cond.methodLink RX1 69 Lib.Math.min.name, Cond.static Lib.Math.min.name, Cond.initialized "java/lang/Math", Cond.code Lib.Math.min.name Lib.Math.min.code 2 (some .int), Cond.methodLink RX1 42 yX2_ofProduct, Cond.methodLink RX1 48 yX1_lineUp, Cond.instanceMethod yX1_lineUp, Cond.selects RX1 yX1_lineUp yX1_lineUp]
def wsX8_judge_r3 : List Cond := [Cond.code yX1_lineUp cX1_lineUp 4 none, Cond.fieldLink RX1 15 "TermsDesk$Chooser" "place" "[I", Cond.fieldLink RX1 9 "TermsDesk$Chooser" "line" "[I", Cond.methodLink RX1 59 yX1_settle, Cond.instanceMethod yX1_settle, Cond.selects RX1 yX1_settle yX1_settle, Cond.code yX1_settle cX1_settle 6 (some .int), Cond.fieldLink RX1 24 "TermsDesk$Chooser" "parts" "LTermsDesk$Parts;", Cond.fieldLink RX1 21 "TermsDesk$Chooser" "quarrelsBefore" "[I", Cond.methodLink RX1 88 yX5_choiceOf, Cond.instanceMethod yX5_choiceOf, Cond.selects RX5 yX5_choiceOf yX5_choiceOf, Cond.initialized RX5, Cond.code yX5_choiceOf cX5_choiceOf 3 (some .int), Cond.fieldLink RX5 9 "TermsDesk$Parts" "choices" "[I", Cond.methodLink RX1 93 yX2_brought, Cond.instanceMethod yX2_brought, Cond.selects RX2 yX2_brought yX2_brought, Cond.code yX2_brought cX2_brought 4 (some .long), Cond.fieldLink RX2 18 "TermsDesk$Flow" "terms" "LTermsDesk$Terms;", Cond.constantLong RX2 44 (-1), Cond.static yX8_pairsOf, Cond.code yX8_pairsOf cX8_pairsOf 1 (some .long), Cond.constantLong RX8 216 (255)]
def wsX8_judge_r4 : List Cond := [Cond.methodLink RX8 80 yX8_pairOf, Cond.static yX8_pairOf, Cond.code yX8_pairOf cX8_pairOf 2 (some .int), Cond.methodLink RX1 97 yX2_arrive, Cond.instanceMethod yX2_arrive, Cond.selects RX2 yX2_arrive yX2_arrive, Cond.code yX2_arrive cX2_arrive 10 none, Cond.fieldLink RX2 9 "TermsDesk$Flow" "arrived" "[J", Cond.methodLink RX1 101 yX2_foughtAt, Cond.instanceMethod yX2_foughtAt, Cond.selects RX2 yX2_foughtAt yX2_foughtAt, Cond.code yX2_foughtAt cX2_foughtAt 3 (some .long), Cond.methodLink RX1 105 yJ13_bitCount_95d88, Cond.static yJ13_bitCount_95d88, Cond.initialized RJ13, Cond.code yJ13_bitCount_95d88 cJ13_bitCount_95d88 2 (some .int), Cond.constantLong RJ13 314 (6148914691236517205), Cond.constantLong RJ13 316 (3689348814741910323), Cond.constantLong RJ13 318 (1085102592571150095), Cond.methodLink RX1 66 yX1_keepIfBetter, Cond.instanceMethod yX1_keepIfBetter, Cond.selects RX1 yX1_keepIfBetter yX1_keepIfBetter, Cond.code yX1_keepIfBetter cX1_keepIfBetter 3 none, Cond.fieldLink RX1 18 "TermsDesk$Chooser" "bestPlace" "[I"]
def wsX8_judge_r5 : List Cond := [Cond.methodLink RX1 124 arraycopyName, Cond.native arraycopyName, Cond.static arraycopyName, Cond.initialized "java/lang/System", Cond.methodLink RX1 120 yX1_isBetter, Cond.instanceMethod yX1_isBetter, Cond.selects RX1 yX1_isBetter yX1_isBetter, Cond.code yX1_isBetter cX1_isBetter 4 (some .boolean), Cond.methodLink RX1 74 yX1_advance, Cond.instanceMethod yX1_advance, Cond.selects RX1 yX1_advance yX1_advance, Cond.code yX1_advance cX1_advance 4 (some .int), Cond.methodLink RX1 78 yX1_takeKept, Cond.instanceMethod yX1_takeKept, Cond.selects RX1 yX1_takeKept yX1_takeKept, Cond.code yX1_takeKept cX1_takeKept 3 none]
def wsX8_judge : List Cond := .code yX8_judge cX8_judge 2 (some .int) :: ((wsX8_judge_r1 ++ (wsX8_judge_r2 ++ (wsX8_judge_r3 ++ (wsX8_judge_r4 ++ wsX8_judge_r5)))) ++ wsX80 ++ wsX50 ++ wsX20 ++ wsX30 ++ wsX10 ++ wsX60)
def wsX8_cheapest_r1 : List Cond := [Cond.fieldLink RX8 60 "TermsDesk" "mender" "LTermsDesk$Mender;", Cond.methodLink RX8 77 yX8_within, Cond.static yX8_within, Cond.initialized RX8, Cond.code yX8_within cX8_within 2 (some .boolean), Cond.methodLink RX8 176 yX4_cheapestSet, Cond.instanceMethod yX4_cheapestSet, Cond.selects RX4 yX4_cheapestSet yX4_cheapestSet, Cond.initialized RX4, Cond.code yX4_cheapestSet cX4_cheapestSet 5 (some .int), Cond.fieldLink RX4 23 "TermsDesk$Mender" "changes" "LTermsDesk$Changes;", Cond.methodLink RX4 37 yX0_isBetter, Cond.instanceMethod yX0_isBetter, Cond.selects RX0 yX0_isBetter yX0_isBetter, Cond.initialized RX0, Cond.code yX0_isBetter cX0_isBetter 5 (some .boolean), Cond.methodLink RX0 32 yX0_priceOf, Cond.instanceMethod yX0_priceOf, Cond.selects RX0 yX0_priceOf yX0_priceOf, Cond.code yX0_priceOf cX0_priceOf 4 (some .int), Cond.fieldLink RX0 24 "TermsDesk$Changes" "told" "I", Cond.fieldLink RX0 21 "TermsDesk$Changes" "cost" "[I", Cond.static yX8_holds, Cond.code yX8_holds cX8_holds 3 (some .boolean)]
def wsX8_cheapest_r2 : List Cond := [Cond.methodLink RX0 36 yJ6_compare_7cf53, Cond.static yJ6_compare_7cf53, Cond.initialized RJ6, Cond.code yJ6_compare_7cf53 cJ6_compare_7cf53 2 (some .int), Cond.methodLink RX0 42 yJ6_bitCount_0f7a4, Cond.static yJ6_bitCount_0f7a4, Cond.code yJ6_bitCount_0f7a4 cJ6_bitCount_0f7a4 1 (some .int), Cond.constant RJ6 265 (1431655765), Cond.constant RJ6 266 (858993459), Cond.constant RJ6 267 (252645135), Cond.methodLink RX0 45 yJ6_lowestOneBit_0f7a4, Cond.static yJ6_lowestOneBit_0f7a4, Cond.code yJ6_lowestOneBit_0f7a4 cJ6_lowestOneBit_0f7a4 1 (some .int), Cond.methodLink RX4 41 yX4_endsQuarrels, Cond.instanceMethod yX4_endsQuarrels, Cond.selects RX4 yX4_endsQuarrels yX4_endsQuarrels, Cond.code yX4_endsQuarrels cX4_endsQuarrels 6 (some .boolean), Cond.fieldLink RX4 15 "TermsDesk$Mender" "parts" "LTermsDesk$Parts;", Cond.fieldLink RX4 9 "TermsDesk$Mender" "licence" "[I", Cond.methodLink RX4 47 arraycopyName, Cond.native arraycopyName, Cond.static arraycopyName, Cond.initialized "java/lang/System", Cond.fieldLink RX4 19 "TermsDesk$Mender" "joins" "LTermsDesk$Joins;"]
def wsX8_cheapest_r3 : List Cond := [Cond.constantLong RX4 70 (-1), Cond.fieldLink RX4 27 "TermsDesk$Mender" "flow" "LTermsDesk$Flow;", Cond.methodLink RX4 72 yX2_run, Cond.instanceMethod yX2_run, Cond.selects RX2 yX2_run yX2_run, Cond.initialized RX2, Cond.code yX2_run cX2_run 7 none, Cond.fieldLink RX2 26 "TermsDesk$Flow" "joins" "LTermsDesk$Joins;", Cond.methodLink RX2 52 yX2_brought, Cond.instanceMethod yX2_brought, Cond.selects RX2 yX2_brought yX2_brought, Cond.code yX2_brought cX2_brought 4 (some .long), Cond.fieldLink RX2 18 "TermsDesk$Flow" "terms" "LTermsDesk$Terms;", Cond.fieldLink RX2 22 "TermsDesk$Flow" "parts" "LTermsDesk$Parts;", Cond.constantLong RX2 44 (-1), Cond.static yX8_pairsOf, Cond.code yX8_pairsOf cX8_pairsOf 1 (some .long), Cond.constantLong RX8 216 (255), Cond.methodLink RX8 80 yX8_pairOf, Cond.static yX8_pairOf, Cond.code yX8_pairOf cX8_pairOf 2 (some .int), Cond.methodLink RX2 56 yX2_arrive, Cond.instanceMethod yX2_arrive, Cond.selects RX2 yX2_arrive yX2_arrive]
def wsX8_cheapest_r4 : List Cond := [Cond.code yX2_arrive cX2_arrive 10 none, Cond.fieldLink RX2 9 "TermsDesk$Flow" "arrived" "[J", Cond.methodLink RX4 78 yX2_quarrelCount, Cond.instanceMethod yX2_quarrelCount, Cond.selects RX2 yX2_quarrelCount yX2_quarrelCount, Cond.code yX2_quarrelCount cX2_quarrelCount 7 (some .int), Cond.methodLink RX2 96 yX2_ofProduct, Cond.instanceMethod yX2_ofProduct, Cond.selects RX2 yX2_ofProduct yX2_ofProduct, Cond.code yX2_ofProduct cX2_ofProduct 3 (some .int), Cond.methodLink RX2 92 yX3_allIn, Cond.instanceMethod yX3_allIn, Cond.selects RX3 yX3_allIn yX3_allIn, Cond.initialized RX3, Cond.code yX3_allIn cX3_allIn 9 (some .int), Cond.fieldLink RX3 21 "TermsDesk$Joins" "order" "[I", Cond.fieldLink RX3 27 "TermsDesk$Joins" "begin" "[I", Cond.fieldLink RX3 30 "TermsDesk$Joins" "end" "[I", Cond.fieldLink RX3 24 "TermsDesk$Joins" "sorted" "[I", Cond.fieldLink RX3 9 "TermsDesk$Joins" "from" "[I", Cond.methodLink RX2 100 yX2_foughtAt, Cond.instanceMethod yX2_foughtAt, Cond.selects RX2 yX2_foughtAt yX2_foughtAt, Cond.code yX2_foughtAt cX2_foughtAt 3 (some .long)]
def wsX8_cheapest_r5 : List Cond := [Cond.methodLink RX2 104 yJ13_bitCount_95d88, Cond.static yJ13_bitCount_95d88, Cond.initialized RJ13, Cond.code yJ13_bitCount_95d88 cJ13_bitCount_95d88 2 (some .int), Cond.constantLong RJ13 314 (6148914691236517205), Cond.constantLong RJ13 316 (3689348814741910323), Cond.constantLong RJ13 318 (1085102592571150095)]
def wsX8_cheapest : List Cond := .code yX8_cheapest cX8_cheapest 2 (some .int) :: ((wsX8_cheapest_r1 ++ (wsX8_cheapest_r2 ++ (wsX8_cheapest_r3 ++ (wsX8_cheapest_r4 ++ wsX8_cheapest_r5)))) ++ wsX80 ++ wsX40 ++ wsX00 ++ wsX50 ++ wsX30 ++ wsX20 ++ wsX60)
def wsX8_price : List Cond := .code yX8_price cX8_price 2 (some .int) :: ([.fieldLink RX8 33 "TermsDesk" "changes" "LTermsDesk$Changes;", .methodLink RX8 77 yX8_within, .static yX8_within, .initialized RX8, .code yX8_within cX8_within 2 (some .boolean), .methodLink RX8 179 yX0_priceOf, .instanceMethod yX0_priceOf, .selects RX0 yX0_priceOf yX0_priceOf, .initialized RX0, .code yX0_priceOf cX0_priceOf 4 (some .int), .fieldLink RX0 24 "TermsDesk$Changes" "told" "I", .fieldLink RX0 21 "TermsDesk$Changes" "cost" "[I", .static yX8_holds, .code yX8_holds cX8_holds 3 (some .boolean)] ++ wsX80 ++ wsX00)
def wsX8_way_r1 : List Cond := [Cond.fieldLink RX8 19 "TermsDesk" "parts" "LTermsDesk$Parts;", Cond.fieldLink RX8 69 "TermsDesk" "tracer" "LTermsDesk$Tracer;", Cond.methodLink RX8 77 yX8_within, Cond.static yX8_within, Cond.initialized RX8, Cond.code yX8_within cX8_within 2 (some .boolean), Cond.methodLink RX8 73 yX8_isPair, Cond.static yX8_isPair, Cond.code yX8_isPair cX8_isPair 2 (some .boolean), Cond.methodLink RX8 104 yX5_has, Cond.instanceMethod yX5_has, Cond.selects RX5 yX5_has yX5_has, Cond.initialized RX5, Cond.code yX5_has cX5_has 2 (some .boolean), Cond.fieldLink RX5 25 "TermsDesk$Parts" "told" "I", Cond.methodLink RX8 80 yX8_pairOf, Cond.static yX8_pairOf, Cond.code yX8_pairOf cX8_pairOf 2 (some .int), Cond.methodLink RX8 182 yX7_partOnWay, Cond.instanceMethod yX7_partOnWay, Cond.selects RX7 yX7_partOnWay yX7_partOnWay, Cond.initialized RX7, Cond.code yX7_partOnWay cX7_partOnWay 7 (some .int), Cond.fieldLink RX7 9 "TermsDesk$Tracer" "steps" "[I"]
def wsX8_way_r2 : List Cond := [Cond.methodLink RX7 31 yX7_measure, Cond.instanceMethod yX7_measure, Cond.selects RX7 yX7_measure yX7_measure, Cond.code yX7_measure cX7_measure 5 none, Cond.fieldLink RX7 23 "TermsDesk$Tracer" "joins" "LTermsDesk$Joins;", Cond.methodLink RX7 85 yX7_measureInto, Cond.instanceMethod yX7_measureInto, Cond.selects RX7 yX7_measureInto yX7_measureInto, Cond.code yX7_measureInto cX7_measureInto 7 none, Cond.methodLink RX7 100 yX7_goes, Cond.instanceMethod yX7_goes, Cond.selects RX7 yX7_goes yX7_goes, Cond.code yX7_goes cX7_goes 3 (some .boolean), Cond.fieldLink RX7 15 "TermsDesk$Tracer" "terms" "LTermsDesk$Terms;", Cond.static yX8_holds, Cond.code yX8_holds cX8_holds 3 (some .boolean), Cond.methodLink RX7 35 yX7_source, Cond.instanceMethod yX7_source, Cond.selects RX7 yX7_source yX7_source, Cond.code yX7_source cX7_source 6 (some .int), Cond.fieldLink RX7 19 "TermsDesk$Tracer" "parts" "LTermsDesk$Parts;", Cond.methodLink RX7 54 yX7_brings, Cond.instanceMethod yX7_brings, Cond.selects RX7 yX7_brings yX7_brings]
def wsX8_way_r3 : List Cond := [Cond.code yX7_brings cX7_brings 4 (some .boolean), Cond.fieldLink RX7 27 "TermsDesk$Tracer" "flow" "LTermsDesk$Flow;", Cond.methodLink RX7 61 yX2_brought, Cond.instanceMethod yX2_brought, Cond.selects RX2 yX2_brought yX2_brought, Cond.initialized RX2, Cond.code yX2_brought cX2_brought 4 (some .long), Cond.fieldLink RX2 18 "TermsDesk$Flow" "terms" "LTermsDesk$Terms;", Cond.fieldLink RX2 22 "TermsDesk$Flow" "parts" "LTermsDesk$Parts;", Cond.constantLong RX2 44 (-1), Cond.static yX8_pairsOf, Cond.code yX8_pairsOf cX8_pairsOf 1 (some .long), Cond.constantLong RX8 216 (255), Cond.methodLink RX7 39 yX7_next, Cond.instanceMethod yX7_next, Cond.selects RX7 yX7_next yX7_next, Cond.code yX7_next cX7_next 7 (some .int), Cond.methodLink RX7 108 yX3_isThere, Cond.instanceMethod yX3_isThere, Cond.selects RX3 yX3_isThere yX3_isThere, Cond.initialized RX3, Cond.code yX3_isThere cX3_isThere 2 (some .boolean), Cond.fieldLink RX3 33 "TermsDesk$Joins" "told" "I", Cond.fieldLink RX3 41 "TermsDesk$Joins" "there" "J"]
def wsX8_way : List Cond := .code yX8_way cX8_way 6 (some .int) :: ((wsX8_way_r1 ++ (wsX8_way_r2 ++ wsX8_way_r3)) ++ wsX80 ++ wsX50 ++ wsX70 ++ wsX30 ++ wsX60 ++ wsX20)
def wsX8_memberAt : List Cond := .code yX8_memberAt cX8_memberAt 4 (some .int) :: ([.methodLink RX8 130 yX8_holds, .static yX8_holds, .initialized RX8, .code yX8_holds cX8_holds 3 (some .boolean)])
def wsX8_notice_r1 : List Cond := [Cond.fieldLink RX8 19 "TermsDesk" "parts" "LTermsDesk$Parts;", Cond.fieldLink RX8 69 "TermsDesk" "tracer" "LTermsDesk$Tracer;", Cond.methodLink RX8 77 yX8_within, Cond.static yX8_within, Cond.initialized RX8, Cond.code yX8_within cX8_within 2 (some .boolean), Cond.methodLink RX8 185 yX7_noticed, Cond.instanceMethod yX7_noticed, Cond.selects RX7 yX7_noticed yX7_noticed, Cond.initialized RX7, Cond.code yX7_noticed cX7_noticed 6 (some .int), Cond.fieldLink RX7 19 "TermsDesk$Tracer" "parts" "LTermsDesk$Parts;", Cond.fieldLink RX7 9 "TermsDesk$Tracer" "steps" "[I", Cond.static yX8_pairOf, Cond.code yX8_pairOf cX8_pairOf 2 (some .int), Cond.methodLink RX7 31 yX7_measure, Cond.instanceMethod yX7_measure, Cond.selects RX7 yX7_measure yX7_measure, Cond.code yX7_measure cX7_measure 5 none, Cond.fieldLink RX7 23 "TermsDesk$Tracer" "joins" "LTermsDesk$Joins;", Cond.methodLink RX7 85 yX7_measureInto, Cond.instanceMethod yX7_measureInto, Cond.selects RX7 yX7_measureInto yX7_measureInto, Cond.code yX7_measureInto cX7_measureInto 7 none]
def wsX8_notice_r2 : List Cond := [Cond.methodLink RX7 100 yX7_goes, Cond.instanceMethod yX7_goes, Cond.selects RX7 yX7_goes yX7_goes, Cond.code yX7_goes cX7_goes 3 (some .boolean), Cond.fieldLink RX7 15 "TermsDesk$Tracer" "terms" "LTermsDesk$Terms;", Cond.static yX8_holds, Cond.code yX8_holds cX8_holds 3 (some .boolean), Cond.methodLink RX7 54 yX7_brings, Cond.instanceMethod yX7_brings, Cond.selects RX7 yX7_brings yX7_brings, Cond.code yX7_brings cX7_brings 4 (some .boolean), Cond.fieldLink RX7 27 "TermsDesk$Tracer" "flow" "LTermsDesk$Flow;", Cond.methodLink RX7 61 yX2_brought, Cond.instanceMethod yX2_brought, Cond.selects RX2 yX2_brought yX2_brought, Cond.initialized RX2, Cond.code yX2_brought cX2_brought 4 (some .long), Cond.fieldLink RX2 18 "TermsDesk$Flow" "terms" "LTermsDesk$Terms;", Cond.fieldLink RX2 22 "TermsDesk$Flow" "parts" "LTermsDesk$Parts;", Cond.constantLong RX2 44 (-1), Cond.static yX8_pairsOf, Cond.code yX8_pairsOf cX8_pairsOf 1 (some .long), Cond.constantLong RX8 216 (255), Cond.methodLink RX8 80 yX8_pairOf]
def wsX8_notice_r3 : List Cond := [Cond.methodLink RX8 188 yX8_memberAt, Cond.static yX8_memberAt, Cond.code yX8_memberAt cX8_memberAt 4 (some .int), Cond.methodLink RX8 130 yX8_holds]
def wsX8_notice : List Cond := .code yX8_notice cX8_notice 3 (some .int) :: ((wsX8_notice_r1 ++ (wsX8_notice_r2 ++ wsX8_notice_r3)) ++ wsX80 ++ wsX50 ++ wsX70 ++ wsX30 ++ wsX60 ++ wsX20)
def wsX8_differ_r1 : List Cond := [Cond.fieldLink RX8 42 "TermsDesk" "flow" "LTermsDesk$Flow;", Cond.methodLink RX8 77 yX8_within, Cond.static yX8_within, Cond.initialized RX8, Cond.code yX8_within cX8_within 2 (some .boolean), Cond.methodLink RX8 191 yX2_unlike, Cond.instanceMethod yX2_unlike, Cond.selects RX2 yX2_unlike yX2_unlike, Cond.initialized RX2, Cond.code yX2_unlike cX2_unlike 5 (some .int), Cond.fieldLink RX2 22 "TermsDesk$Flow" "parts" "LTermsDesk$Parts;", Cond.fieldLink RX2 26 "TermsDesk$Flow" "joins" "LTermsDesk$Joins;", Cond.fieldLink RX2 9 "TermsDesk$Flow" "arrived" "[J", Cond.fieldLink RX2 15 "TermsDesk$Flow" "earlier" "[J", Cond.methodLink RX2 124 arraycopyName, Cond.native arraycopyName, Cond.static arraycopyName, Cond.initialized "java/lang/System", Cond.methodLink RX2 120 yX2_run, Cond.instanceMethod yX2_run, Cond.selects RX2 yX2_run yX2_run, Cond.code yX2_run cX2_run 7 none, Cond.methodLink RX2 52 yX2_brought, Cond.instanceMethod yX2_brought]
def wsX8_differ_r2 : List Cond := [Cond.selects RX2 yX2_brought yX2_brought, Cond.code yX2_brought cX2_brought 4 (some .long), Cond.fieldLink RX2 18 "TermsDesk$Flow" "terms" "LTermsDesk$Terms;", Cond.constantLong RX2 44 (-1), Cond.static yX8_pairsOf, Cond.code yX8_pairsOf cX8_pairsOf 1 (some .long), Cond.constantLong RX8 216 (255), Cond.methodLink RX8 80 yX8_pairOf, Cond.static yX8_pairOf, Cond.code yX8_pairOf cX8_pairOf 2 (some .int), Cond.methodLink RX2 56 yX2_arrive, Cond.instanceMethod yX2_arrive, Cond.selects RX2 yX2_arrive yX2_arrive, Cond.code yX2_arrive cX2_arrive 10 none, Cond.static yX8_holds, Cond.code yX8_holds cX8_holds 3 (some .boolean), Cond.methodLink RX2 96 yX2_ofProduct, Cond.instanceMethod yX2_ofProduct, Cond.selects RX2 yX2_ofProduct yX2_ofProduct, Cond.code yX2_ofProduct cX2_ofProduct 3 (some .int), Cond.methodLink RX2 92 yX3_allIn, Cond.instanceMethod yX3_allIn, Cond.selects RX3 yX3_allIn yX3_allIn, Cond.initialized RX3]
def wsX8_differ_r3 : List Cond := [Cond.code yX3_allIn cX3_allIn 9 (some .int), Cond.fieldLink RX3 21 "TermsDesk$Joins" "order" "[I", Cond.fieldLink RX3 27 "TermsDesk$Joins" "begin" "[I", Cond.fieldLink RX3 30 "TermsDesk$Joins" "end" "[I", Cond.fieldLink RX3 24 "TermsDesk$Joins" "sorted" "[I", Cond.fieldLink RX3 9 "TermsDesk$Joins" "from" "[I", Cond.methodLink RX8 188 yX8_memberAt, Cond.static yX8_memberAt, Cond.code yX8_memberAt cX8_memberAt 4 (some .int), Cond.methodLink RX8 130 yX8_holds]
def wsX8_differ : List Cond := .code yX8_differ cX8_differ 4 (some .int) :: ((wsX8_differ_r1 ++ (wsX8_differ_r2 ++ wsX8_differ_r3)) ++ wsX80 ++ wsX20 ++ wsX50 ++ wsX30 ++ wsX60)
def wsX8_choiceOrNone : List Cond := .code yX8_choiceOrNone cX8_choiceOrNone 3 (some .int) :: ([.fieldLink RX8 19 "TermsDesk" "parts" "LTermsDesk$Parts;", .methodLink RX8 112 yX5_choiceOf, .instanceMethod yX5_choiceOf, .selects RX5 yX5_choiceOf yX5_choiceOf, .initialized RX5, .code yX5_choiceOf cX5_choiceOf 3 (some .int), .fieldLink RX5 9 "TermsDesk$Parts" "choices" "[I"] ++ wsX80 ++ wsX50)
def wsX8_look_r1 : List Cond := [Cond.fieldLink RX8 19 "TermsDesk" "parts" "LTermsDesk$Parts;", Cond.fieldLink RX8 42 "TermsDesk" "flow" "LTermsDesk$Flow;", Cond.fieldLink RX8 26 "TermsDesk" "joins" "LTermsDesk$Joins;", Cond.methodLink RX8 104 yX5_has, Cond.instanceMethod yX5_has, Cond.selects RX5 yX5_has yX5_has, Cond.initialized RX5, Cond.code yX5_has cX5_has 2 (some .boolean), Cond.fieldLink RX5 25 "TermsDesk$Parts" "told" "I", Cond.static yX8_within, Cond.initialized RX8, Cond.code yX8_within cX8_within 2 (some .boolean), Cond.methodLink RX8 194 yX2_ofProduct, Cond.instanceMethod yX2_ofProduct, Cond.selects RX2 yX2_ofProduct yX2_ofProduct, Cond.initialized RX2, Cond.code yX2_ofProduct cX2_ofProduct 3 (some .int), Cond.fieldLink RX2 22 "TermsDesk$Flow" "parts" "LTermsDesk$Parts;", Cond.fieldLink RX2 26 "TermsDesk$Flow" "joins" "LTermsDesk$Joins;", Cond.methodLink RX2 92 yX3_allIn, Cond.instanceMethod yX3_allIn, Cond.selects RX3 yX3_allIn yX3_allIn, Cond.initialized RX3, Cond.code yX3_allIn cX3_allIn 9 (some .int)]
def wsX8_look_r2 : List Cond := [Cond.fieldLink RX3 21 "TermsDesk$Joins" "order" "[I", Cond.fieldLink RX3 27 "TermsDesk$Joins" "begin" "[I", Cond.fieldLink RX3 30 "TermsDesk$Joins" "end" "[I", Cond.fieldLink RX3 24 "TermsDesk$Joins" "sorted" "[I", Cond.fieldLink RX3 9 "TermsDesk$Joins" "from" "[I", Cond.static yX8_holds, Cond.code yX8_holds cX8_holds 3 (some .boolean), Cond.methodLink RX8 130 yX8_holds, Cond.methodLink RX8 198 yX3_countInto, Cond.instanceMethod yX3_countInto, Cond.selects RX3 yX3_countInto yX3_countInto, Cond.code yX3_countInto cX3_countInto 2 (some .int), Cond.methodLink RX8 201 yX3_countOutOf, Cond.instanceMethod yX3_countOutOf, Cond.selects RX3 yX3_countOutOf yX3_countOutOf, Cond.code yX3_countOutOf cX3_countOutOf 4 (some .int), Cond.fieldLink RX3 33 "TermsDesk$Joins" "told" "I", Cond.fieldLink RX3 41 "TermsDesk$Joins" "there" "J", Cond.methodLink RX8 204 yX8_choiceOrNone, Cond.instanceMethod yX8_choiceOrNone, Cond.selects RX8 yX8_choiceOrNone yX8_choiceOrNone, Cond.code yX8_choiceOrNone cX8_choiceOrNone 3 (some .int), Cond.methodLink RX8 112 yX5_choiceOf, Cond.instanceMethod yX5_choiceOf]
def wsX8_look_r3 : List Cond := [Cond.selects RX5 yX5_choiceOf yX5_choiceOf, Cond.code yX5_choiceOf cX5_choiceOf 3 (some .int), Cond.fieldLink RX5 9 "TermsDesk$Parts" "choices" "[I"]
def wsX8_look : List Cond := .code yX8_look cX8_look 3 (some .int) :: ((wsX8_look_r1 ++ (wsX8_look_r2 ++ wsX8_look_r3)) ++ wsX80 ++ wsX50 ++ wsX30 ++ wsX20)
def wsX8_count_r1 : List Cond := [Cond.fieldLink RX8 19 "TermsDesk" "parts" "LTermsDesk$Parts;", Cond.fieldLink RX8 26 "TermsDesk" "joins" "LTermsDesk$Joins;", Cond.fieldLink RX8 42 "TermsDesk" "flow" "LTermsDesk$Flow;", Cond.fieldLink RX8 33 "TermsDesk" "changes" "LTermsDesk$Changes;", Cond.methodLink RX8 207 yJ13_bitCount_95d88, Cond.static yJ13_bitCount_95d88, Cond.initialized RJ13, Cond.code yJ13_bitCount_95d88 cJ13_bitCount_95d88 2 (some .int), Cond.constantLong RJ13 314 (6148914691236517205), Cond.constantLong RJ13 316 (3689348814741910323), Cond.constantLong RJ13 318 (1085102592571150095), Cond.methodLink RX8 194 yX2_ofProduct, Cond.instanceMethod yX2_ofProduct, Cond.selects RX2 yX2_ofProduct yX2_ofProduct, Cond.initialized RX2, Cond.code yX2_ofProduct cX2_ofProduct 3 (some .int), Cond.fieldLink RX2 22 "TermsDesk$Flow" "parts" "LTermsDesk$Parts;", Cond.fieldLink RX2 26 "TermsDesk$Flow" "joins" "LTermsDesk$Joins;", Cond.methodLink RX2 92 yX3_allIn, Cond.instanceMethod yX3_allIn, Cond.selects RX3 yX3_allIn yX3_allIn, Cond.initialized RX3, Cond.code yX3_allIn cX3_allIn 9 (some .int), Cond.fieldLink RX3 21 "TermsDesk$Joins" "order" "[I"]
def wsX8_count_r2 : List Cond := [Cond.fieldLink RX3 27 "TermsDesk$Joins" "begin" "[I", Cond.fieldLink RX3 30 "TermsDesk$Joins" "end" "[I", Cond.fieldLink RX3 24 "TermsDesk$Joins" "sorted" "[I", Cond.fieldLink RX3 9 "TermsDesk$Joins" "from" "[I", Cond.static yX8_holds, Cond.initialized RX8, Cond.code yX8_holds cX8_holds 3 (some .boolean), Cond.methodLink RX8 212 yJ6_bitCount_0f7a4, Cond.static yJ6_bitCount_0f7a4, Cond.initialized RJ6, Cond.code yJ6_bitCount_0f7a4 cJ6_bitCount_0f7a4 1 (some .int), Cond.constant RJ6 265 (1431655765), Cond.constant RJ6 266 (858993459), Cond.constant RJ6 267 (252645135), Cond.methodLink RX8 169 yX2_wayCount, Cond.instanceMethod yX2_wayCount, Cond.selects RX2 yX2_wayCount yX2_wayCount, Cond.code yX2_wayCount cX2_wayCount 4 (some .int), Cond.methodLink RX2 96 yX2_ofProduct]
def wsX8_count : List Cond := .code yX8_count cX8_count 2 (some .int) :: ((wsX8_count_r1 ++ wsX8_count_r2) ++ wsX80 ++ wsX50 ++ wsX30 ++ wsX00 ++ wsX20)
def wsX9_init_r1 : List Cond := [Cond.methodLink RX9 1 objectInit, Cond.instanceMethod objectInit, Cond.code objectInit ⟨#[0xb1]⟩ 1 none, Cond.arrayClass .int, Cond.fieldLink RX9 7 "TermsDeskModel" "asked" "[I", Cond.arrayClass .long, Cond.fieldLink RX9 13 "TermsDeskModel" "along" "[J", Cond.fieldLink RX9 17 "TermsDeskModel" "barred" "[I", Cond.fieldLink RX9 20 "TermsDeskModel" "choice" "[I", Cond.fieldLink RX9 23 "TermsDeskModel" "many" "[I", Cond.fieldLink RX9 26 "TermsDeskModel" "taken" "[I", Cond.fieldLink RX9 29 "TermsDeskModel" "lifted" "[J", Cond.fieldLink RX9 32 "TermsDeskModel" "from" "[I", Cond.fieldLink RX9 35 "TermsDeskModel" "to" "[I", Cond.fieldLink RX9 38 "TermsDeskModel" "kind" "[I", Cond.arrayClass .boolean, Cond.fieldLink RX9 41 "TermsDeskModel" "isCut" "[Z", Cond.fieldLink RX9 45 "TermsDeskModel" "sort" "[I", Cond.fieldLink RX9 48 "TermsDeskModel" "which" "[I", Cond.fieldLink RX9 51 "TermsDeskModel" "gets" "[I", Cond.fieldLink RX9 54 "TermsDeskModel" "cost" "[I", Cond.fieldLink RX9 57 "TermsDeskModel" "isReached" "[Z", Cond.fieldLink RX9 60 "TermsDeskModel" "isGone" "[Z", Cond.fieldLink RX9 63 "TermsDeskModel" "has" "[I"]
def wsX9_init_r2 : List Cond := [Cond.fieldLink RX9 66 "TermsDeskModel" "come" "[J", Cond.fieldLink RX9 69 "TermsDeskModel" "order" "[I", Cond.fieldLink RX9 72 "TermsDeskModel" "level" "[I", Cond.fieldLink RX9 75 "TermsDeskModel" "place" "[I", Cond.fieldLink RX9 78 "TermsDeskModel" "best" "[I", Cond.fieldLink RX9 81 "TermsDeskModel" "far" "[I", Cond.fieldLink RX9 84 "TermsDeskModel" "other" "[J"]
def wsX9_init : List Cond := .code yX9_init cX9_init 1 none :: ((wsX9_init_r1 ++ wsX9_init_r2) ++ wsX90)
def wsX9_lies : List Cond := .code yX9_lies cX9_lies 3 (some .boolean) :: ([])
def wsX9_isPart : List Cond := .code yX9_isPart cX9_isPart 2 (some .boolean) :: ([.fieldLink RX9 87 "TermsDeskModel" "parts" "I", .methodLink RX9 91 yX9_lies, .static yX9_lies, .initialized RX9, .code yX9_lies cX9_lies 3 (some .boolean)] ++ wsX90)
def wsX9_isLicence : List Cond := .code yX9_isLicence cX9_isLicence 1 (some .boolean) :: ([.methodLink RX9 91 yX9_lies, .static yX9_lies, .initialized RX9, .code yX9_lies cX9_lies 3 (some .boolean)])
def wsX9_isShipping : List Cond := .code yX9_isShipping cX9_isShipping 1 (some .boolean) :: ([.methodLink RX9 91 yX9_lies, .static yX9_lies, .initialized RX9, .code yX9_lies cX9_lies 3 (some .boolean)])
def wsX9_bit : List Cond := .code yX9_bit cX9_bit 2 (some .long) :: ([])
def wsX9_asks : List Cond := .code yX9_asks cX9_asks 6 (some .boolean) :: ([.fieldLink RX9 7 "TermsDeskModel" "asked" "[I", .fieldLink RX9 13 "TermsDeskModel" "along" "[J", .constantLong RX9 103 (-1), .methodLink RX9 95 yX9_isLicence, .static yX9_isLicence, .initialized RX9, .code yX9_isLicence cX9_isLicence 1 (some .boolean), .methodLink RX9 91 yX9_lies, .static yX9_lies, .code yX9_lies cX9_lies 3 (some .boolean), .methodLink RX9 99 yX9_bit, .static yX9_bit, .code yX9_bit cX9_bit 2 (some .long)] ++ wsX90)
def wsX9_bars : List Cond := .code yX9_bars cX9_bars 3 (some .boolean) :: ([.fieldLink RX9 17 "TermsDeskModel" "barred" "[I", .methodLink RX9 95 yX9_isLicence, .static yX9_isLicence, .initialized RX9, .code yX9_isLicence cX9_isLicence 1 (some .boolean), .methodLink RX9 91 yX9_lies, .static yX9_lies, .code yX9_lies cX9_lies 3 (some .boolean)] ++ wsX90)
def wsX9_part : List Cond := .code yX9_part cX9_part 4 (some .int) :: ([.fieldLink RX9 87 "TermsDeskModel" "parts" "I", .fieldLink RX9 20 "TermsDeskModel" "choice" "[I", .fieldLink RX9 23 "TermsDeskModel" "many" "[I", .methodLink RX9 95 yX9_isLicence, .static yX9_isLicence, .initialized RX9, .code yX9_isLicence cX9_isLicence 1 (some .boolean), .methodLink RX9 91 yX9_lies, .static yX9_lies, .code yX9_lies cX9_lies 3 (some .boolean)] ++ wsX90)
def wsX9_take : List Cond := .code yX9_take cX9_take 3 (some .boolean) :: ([.fieldLink RX9 23 "TermsDeskModel" "many" "[I", .fieldLink RX9 26 "TermsDeskModel" "taken" "[I", .methodLink RX9 105 yX9_isPart, .instanceMethod yX9_isPart, .selects RX9 yX9_isPart yX9_isPart, .initialized RX9, .code yX9_isPart cX9_isPart 2 (some .boolean), .fieldLink RX9 87 "TermsDeskModel" "parts" "I", .methodLink RX9 91 yX9_lies, .static yX9_lies, .code yX9_lies cX9_lies 3 (some .boolean)] ++ wsX90)
def wsX9_reaches : List Cond := .code yX9_reaches cX9_reaches 4 none :: ([.fieldLink RX9 57 "TermsDeskModel" "isReached" "[Z", .fieldLink RX9 108 "TermsDeskModel" "joins" "I", .fieldLink RX9 60 "TermsDeskModel" "isGone" "[Z", .fieldLink RX9 35 "TermsDeskModel" "to" "[I", .fieldLink RX9 32 "TermsDeskModel" "from" "[I"] ++ wsX90)
def wsX9_asItIs : List Cond := .code yX9_asItIs cX9_asItIs 2 none :: ([.fieldLink RX9 108 "TermsDeskModel" "joins" "I", .fieldLink RX9 60 "TermsDeskModel" "isGone" "[Z", .fieldLink RX9 41 "TermsDeskModel" "isCut" "[Z", .fieldLink RX9 87 "TermsDeskModel" "parts" "I", .fieldLink RX9 63 "TermsDeskModel" "has" "[I", .fieldLink RX9 20 "TermsDeskModel" "choice" "[I", .fieldLink RX9 26 "TermsDeskModel" "taken" "[I"] ++ wsX90)
def wsX9_join_r1 : List Cond := [Cond.fieldLink RX9 108 "TermsDeskModel" "joins" "I", Cond.fieldLink RX9 41 "TermsDeskModel" "isCut" "[Z", Cond.fieldLink RX9 32 "TermsDeskModel" "from" "[I", Cond.fieldLink RX9 35 "TermsDeskModel" "to" "[I", Cond.fieldLink RX9 57 "TermsDeskModel" "isReached" "[Z", Cond.fieldLink RX9 38 "TermsDeskModel" "kind" "[I", Cond.methodLink RX9 105 yX9_isPart, Cond.instanceMethod yX9_isPart, Cond.selects RX9 yX9_isPart yX9_isPart, Cond.initialized RX9, Cond.code yX9_isPart cX9_isPart 2 (some .boolean), Cond.fieldLink RX9 87 "TermsDeskModel" "parts" "I", Cond.methodLink RX9 91 yX9_lies, Cond.static yX9_lies, Cond.code yX9_lies cX9_lies 3 (some .boolean), Cond.methodLink RX9 111 yX9_asItIs, Cond.instanceMethod yX9_asItIs, Cond.selects RX9 yX9_asItIs yX9_asItIs, Cond.code yX9_asItIs cX9_asItIs 2 none, Cond.fieldLink RX9 60 "TermsDeskModel" "isGone" "[Z", Cond.fieldLink RX9 63 "TermsDeskModel" "has" "[I", Cond.fieldLink RX9 20 "TermsDeskModel" "choice" "[I", Cond.fieldLink RX9 26 "TermsDeskModel" "taken" "[I", Cond.methodLink RX9 114 yX9_reaches]
def wsX9_join_r2 : List Cond := [Cond.instanceMethod yX9_reaches, Cond.selects RX9 yX9_reaches yX9_reaches, Cond.code yX9_reaches cX9_reaches 4 none]
def wsX9_join : List Cond := .code yX9_join cX9_join 5 (some .int) :: ((wsX9_join_r1 ++ wsX9_join_r2) ++ wsX90)
def wsX9_cut : List Cond := .code yX9_cut cX9_cut 2 (some .boolean) :: ([.fieldLink RX9 108 "TermsDeskModel" "joins" "I", .fieldLink RX9 41 "TermsDeskModel" "isCut" "[Z", .methodLink RX9 91 yX9_lies, .static yX9_lies, .initialized RX9, .code yX9_lies cX9_lies 3 (some .boolean)] ++ wsX90)
def wsX9_except : List Cond := .code yX9_except cX9_except 4 (some .boolean) :: ([.fieldLink RX9 29 "TermsDeskModel" "lifted" "[J", .methodLink RX9 105 yX9_isPart, .instanceMethod yX9_isPart, .selects RX9 yX9_isPart yX9_isPart, .initialized RX9, .code yX9_isPart cX9_isPart 2 (some .boolean), .fieldLink RX9 87 "TermsDeskModel" "parts" "I", .methodLink RX9 91 yX9_lies, .static yX9_lies, .code yX9_lies cX9_lies 3 (some .boolean), .methodLink RX9 95 yX9_isLicence, .static yX9_isLicence, .code yX9_isLicence cX9_isLicence 1 (some .boolean), .methodLink RX9 99 yX9_bit, .static yX9_bit, .code yX9_bit cX9_bit 2 (some .long)] ++ wsX90)
def wsX9_product : List Cond := .code yX9_product cX9_product 2 (some .boolean) :: ([.fieldLink RX9 118 "TermsDeskModel" "product" "I", .methodLink RX9 105 yX9_isPart, .instanceMethod yX9_isPart, .selects RX9 yX9_isPart yX9_isPart, .initialized RX9, .code yX9_isPart cX9_isPart 2 (some .boolean), .fieldLink RX9 87 "TermsDeskModel" "parts" "I", .methodLink RX9 91 yX9_lies, .static yX9_lies, .code yX9_lies cX9_lies 3 (some .boolean)] ++ wsX90)
def wsX9_change : List Cond := .code yX9_change cX9_change 5 (some .int) :: ([.fieldLink RX9 121 "TermsDeskModel" "changes" "I", .constant RX9 124 (100000), .fieldLink RX9 108 "TermsDeskModel" "joins" "I", .fieldLink RX9 45 "TermsDeskModel" "sort" "[I", .fieldLink RX9 48 "TermsDeskModel" "which" "[I", .fieldLink RX9 51 "TermsDeskModel" "gets" "[I", .fieldLink RX9 54 "TermsDeskModel" "cost" "[I", .methodLink RX9 91 yX9_lies, .static yX9_lies, .initialized RX9, .code yX9_lies cX9_lies 3 (some .boolean), .methodLink RX9 105 yX9_isPart, .instanceMethod yX9_isPart, .selects RX9 yX9_isPart yX9_isPart, .code yX9_isPart cX9_isPart 2 (some .boolean), .fieldLink RX9 87 "TermsDeskModel" "parts" "I", .methodLink RX9 95 yX9_isLicence, .static yX9_isLicence, .code yX9_isLicence cX9_isLicence 1 (some .boolean)] ++ wsX90)
def wsX9_orders : List Cond := .code yX9_orders cX9_orders 3 none :: ([.fieldLink RX9 72 "TermsDeskModel" "level" "[I", .fieldLink RX9 87 "TermsDeskModel" "parts" "I", .fieldLink RX9 108 "TermsDeskModel" "joins" "I", .fieldLink RX9 60 "TermsDeskModel" "isGone" "[Z", .fieldLink RX9 35 "TermsDeskModel" "to" "[I", .fieldLink RX9 32 "TermsDeskModel" "from" "[I", .fieldLink RX9 125 "TermsDeskModel" "orderMany" "I", .fieldLink RX9 69 "TermsDeskModel" "order" "[I"] ++ wsX90)
def wsX9_brings : List Cond := .code yX9_brings cX9_brings 3 (some .long) :: ([.fieldLink RX9 7 "TermsDeskModel" "asked" "[I", .fieldLink RX9 63 "TermsDeskModel" "has" "[I", .fieldLink RX9 29 "TermsDeskModel" "lifted" "[J", .constantLong RX9 103 (-1)] ++ wsX90)
def wsX9_comes : List Cond := .code yX9_comes cX9_comes 4 none :: ([.fieldLink RX9 87 "TermsDeskModel" "parts" "I", .fieldLink RX9 66 "TermsDeskModel" "come" "[J", .fieldLink RX9 125 "TermsDeskModel" "orderMany" "I", .fieldLink RX9 69 "TermsDeskModel" "order" "[I", .fieldLink RX9 35 "TermsDeskModel" "to" "[I", .fieldLink RX9 32 "TermsDeskModel" "from" "[I", .fieldLink RX9 13 "TermsDeskModel" "along" "[J", .fieldLink RX9 38 "TermsDeskModel" "kind" "[I", .methodLink RX9 128 yX9_brings, .instanceMethod yX9_brings, .selects RX9 yX9_brings yX9_brings, .initialized RX9, .code yX9_brings cX9_brings 3 (some .long), .fieldLink RX9 7 "TermsDeskModel" "asked" "[I", .fieldLink RX9 63 "TermsDeskModel" "has" "[I", .fieldLink RX9 29 "TermsDeskModel" "lifted" "[J", .constantLong RX9 103 (-1)] ++ wsX90)
def wsX9_bits : List Cond := .code yX9_bits cX9_bits 5 (some .int) :: ([])
def wsX9_bars_ : List Cond := .code yX9_bars_ cX9_bars_ 5 (some .long) :: ([.fieldLink RX9 17 "TermsDeskModel" "barred" "[I"] ++ wsX90)
def wsX9_quarrelsNow : List Cond := .code yX9_quarrelsNow cX9_quarrelsNow 3 (some .int) :: ([.fieldLink RX9 87 "TermsDeskModel" "parts" "I", .fieldLink RX9 57 "TermsDeskModel" "isReached" "[Z", .fieldLink RX9 66 "TermsDeskModel" "come" "[J", .fieldLink RX9 63 "TermsDeskModel" "has" "[I", .methodLink RX9 131 yX9_bars_, .instanceMethod yX9_bars_, .selects RX9 yX9_bars_ yX9_bars_, .initialized RX9, .code yX9_bars_ cX9_bars_ 5 (some .long), .fieldLink RX9 17 "TermsDeskModel" "barred" "[I", .methodLink RX9 135 yX9_bits, .static yX9_bits, .code yX9_bits cX9_bits 5 (some .int)] ++ wsX90)
def wsX9_works_r1 : List Cond := [Cond.fieldLink RX9 118 "TermsDeskModel" "product" "I", Cond.methodLink RX9 111 yX9_asItIs, Cond.instanceMethod yX9_asItIs, Cond.selects RX9 yX9_asItIs yX9_asItIs, Cond.initialized RX9, Cond.code yX9_asItIs cX9_asItIs 2 none, Cond.fieldLink RX9 108 "TermsDeskModel" "joins" "I", Cond.fieldLink RX9 60 "TermsDeskModel" "isGone" "[Z", Cond.fieldLink RX9 41 "TermsDeskModel" "isCut" "[Z", Cond.fieldLink RX9 87 "TermsDeskModel" "parts" "I", Cond.fieldLink RX9 63 "TermsDeskModel" "has" "[I", Cond.fieldLink RX9 20 "TermsDeskModel" "choice" "[I", Cond.fieldLink RX9 26 "TermsDeskModel" "taken" "[I", Cond.methodLink RX9 139 yX9_orders, Cond.instanceMethod yX9_orders, Cond.selects RX9 yX9_orders yX9_orders, Cond.code yX9_orders cX9_orders 3 none, Cond.fieldLink RX9 72 "TermsDeskModel" "level" "[I", Cond.fieldLink RX9 35 "TermsDeskModel" "to" "[I", Cond.fieldLink RX9 32 "TermsDeskModel" "from" "[I", Cond.fieldLink RX9 125 "TermsDeskModel" "orderMany" "I", Cond.fieldLink RX9 69 "TermsDeskModel" "order" "[I", Cond.methodLink RX9 114 yX9_reaches, Cond.instanceMethod yX9_reaches]
def wsX9_works_r2 : List Cond := [Cond.selects RX9 yX9_reaches yX9_reaches, Cond.code yX9_reaches cX9_reaches 4 none, Cond.fieldLink RX9 57 "TermsDeskModel" "isReached" "[Z", Cond.methodLink RX9 142 yX9_comes, Cond.instanceMethod yX9_comes, Cond.selects RX9 yX9_comes yX9_comes, Cond.code yX9_comes cX9_comes 4 none, Cond.fieldLink RX9 66 "TermsDeskModel" "come" "[J", Cond.fieldLink RX9 13 "TermsDeskModel" "along" "[J", Cond.fieldLink RX9 38 "TermsDeskModel" "kind" "[I", Cond.methodLink RX9 128 yX9_brings, Cond.instanceMethod yX9_brings, Cond.selects RX9 yX9_brings yX9_brings, Cond.code yX9_brings cX9_brings 3 (some .long), Cond.fieldLink RX9 7 "TermsDeskModel" "asked" "[I", Cond.fieldLink RX9 29 "TermsDeskModel" "lifted" "[J", Cond.constantLong RX9 103 (-1)]
def wsX9_works : List Cond := .code yX9_works cX9_works 2 none :: ((wsX9_works_r1 ++ wsX9_works_r2) ++ wsX90)
def wsX9_come_r1 : List Cond := [Cond.fieldLink RX9 66 "TermsDeskModel" "come" "[J", Cond.constantLong RX9 151 (255), Cond.methodLink RX9 145 yX9_isShipping, Cond.static yX9_isShipping, Cond.initialized RX9, Cond.code yX9_isShipping cX9_isShipping 1 (some .boolean), Cond.methodLink RX9 91 yX9_lies, Cond.static yX9_lies, Cond.code yX9_lies cX9_lies 3 (some .boolean), Cond.methodLink RX9 105 yX9_isPart, Cond.instanceMethod yX9_isPart, Cond.selects RX9 yX9_isPart yX9_isPart, Cond.code yX9_isPart cX9_isPart 2 (some .boolean), Cond.fieldLink RX9 87 "TermsDeskModel" "parts" "I", Cond.methodLink RX9 95 yX9_isLicence, Cond.static yX9_isLicence, Cond.code yX9_isLicence cX9_isLicence 1 (some .boolean), Cond.methodLink RX9 148 yX9_works, Cond.instanceMethod yX9_works, Cond.selects RX9 yX9_works yX9_works, Cond.code yX9_works cX9_works 2 none, Cond.fieldLink RX9 118 "TermsDeskModel" "product" "I", Cond.methodLink RX9 111 yX9_asItIs, Cond.instanceMethod yX9_asItIs]
def wsX9_come_r2 : List Cond := [Cond.selects RX9 yX9_asItIs yX9_asItIs, Cond.code yX9_asItIs cX9_asItIs 2 none, Cond.fieldLink RX9 108 "TermsDeskModel" "joins" "I", Cond.fieldLink RX9 60 "TermsDeskModel" "isGone" "[Z", Cond.fieldLink RX9 41 "TermsDeskModel" "isCut" "[Z", Cond.fieldLink RX9 63 "TermsDeskModel" "has" "[I", Cond.fieldLink RX9 20 "TermsDeskModel" "choice" "[I", Cond.fieldLink RX9 26 "TermsDeskModel" "taken" "[I", Cond.methodLink RX9 139 yX9_orders, Cond.instanceMethod yX9_orders, Cond.selects RX9 yX9_orders yX9_orders, Cond.code yX9_orders cX9_orders 3 none, Cond.fieldLink RX9 72 "TermsDeskModel" "level" "[I", Cond.fieldLink RX9 35 "TermsDeskModel" "to" "[I", Cond.fieldLink RX9 32 "TermsDeskModel" "from" "[I", Cond.fieldLink RX9 125 "TermsDeskModel" "orderMany" "I", Cond.fieldLink RX9 69 "TermsDeskModel" "order" "[I", Cond.methodLink RX9 114 yX9_reaches, Cond.instanceMethod yX9_reaches, Cond.selects RX9 yX9_reaches yX9_reaches, Cond.code yX9_reaches cX9_reaches 4 none, Cond.fieldLink RX9 57 "TermsDeskModel" "isReached" "[Z", Cond.methodLink RX9 142 yX9_comes, Cond.instanceMethod yX9_comes]
def wsX9_come_r3 : List Cond := [Cond.selects RX9 yX9_comes yX9_comes, Cond.code yX9_comes cX9_comes 4 none, Cond.fieldLink RX9 13 "TermsDeskModel" "along" "[J", Cond.fieldLink RX9 38 "TermsDeskModel" "kind" "[I", Cond.methodLink RX9 128 yX9_brings, Cond.instanceMethod yX9_brings, Cond.selects RX9 yX9_brings yX9_brings, Cond.code yX9_brings cX9_brings 3 (some .long), Cond.fieldLink RX9 7 "TermsDeskModel" "asked" "[I", Cond.fieldLink RX9 29 "TermsDeskModel" "lifted" "[J", Cond.constantLong RX9 103 (-1)]
def wsX9_come : List Cond := .code yX9_come cX9_come 4 (some .int) :: ((wsX9_come_r1 ++ (wsX9_come_r2 ++ wsX9_come_r3)) ++ wsX90)
def wsX9_quarrels_r1 : List Cond := [Cond.methodLink RX9 145 yX9_isShipping, Cond.static yX9_isShipping, Cond.initialized RX9, Cond.code yX9_isShipping cX9_isShipping 1 (some .boolean), Cond.methodLink RX9 91 yX9_lies, Cond.static yX9_lies, Cond.code yX9_lies cX9_lies 3 (some .boolean), Cond.methodLink RX9 148 yX9_works, Cond.instanceMethod yX9_works, Cond.selects RX9 yX9_works yX9_works, Cond.code yX9_works cX9_works 2 none, Cond.fieldLink RX9 118 "TermsDeskModel" "product" "I", Cond.methodLink RX9 111 yX9_asItIs, Cond.instanceMethod yX9_asItIs, Cond.selects RX9 yX9_asItIs yX9_asItIs, Cond.code yX9_asItIs cX9_asItIs 2 none, Cond.fieldLink RX9 108 "TermsDeskModel" "joins" "I", Cond.fieldLink RX9 60 "TermsDeskModel" "isGone" "[Z", Cond.fieldLink RX9 41 "TermsDeskModel" "isCut" "[Z", Cond.fieldLink RX9 87 "TermsDeskModel" "parts" "I", Cond.fieldLink RX9 63 "TermsDeskModel" "has" "[I", Cond.fieldLink RX9 20 "TermsDeskModel" "choice" "[I", Cond.fieldLink RX9 26 "TermsDeskModel" "taken" "[I", Cond.methodLink RX9 139 yX9_orders]
def wsX9_quarrels_r2 : List Cond := [Cond.instanceMethod yX9_orders, Cond.selects RX9 yX9_orders yX9_orders, Cond.code yX9_orders cX9_orders 3 none, Cond.fieldLink RX9 72 "TermsDeskModel" "level" "[I", Cond.fieldLink RX9 35 "TermsDeskModel" "to" "[I", Cond.fieldLink RX9 32 "TermsDeskModel" "from" "[I", Cond.fieldLink RX9 125 "TermsDeskModel" "orderMany" "I", Cond.fieldLink RX9 69 "TermsDeskModel" "order" "[I", Cond.methodLink RX9 114 yX9_reaches, Cond.instanceMethod yX9_reaches, Cond.selects RX9 yX9_reaches yX9_reaches, Cond.code yX9_reaches cX9_reaches 4 none, Cond.fieldLink RX9 57 "TermsDeskModel" "isReached" "[Z", Cond.methodLink RX9 142 yX9_comes, Cond.instanceMethod yX9_comes, Cond.selects RX9 yX9_comes yX9_comes, Cond.code yX9_comes cX9_comes 4 none, Cond.fieldLink RX9 66 "TermsDeskModel" "come" "[J", Cond.fieldLink RX9 13 "TermsDeskModel" "along" "[J", Cond.fieldLink RX9 38 "TermsDeskModel" "kind" "[I", Cond.methodLink RX9 128 yX9_brings, Cond.instanceMethod yX9_brings, Cond.selects RX9 yX9_brings yX9_brings, Cond.code yX9_brings cX9_brings 3 (some .long)]
def wsX9_quarrels_r3 : List Cond := [Cond.fieldLink RX9 7 "TermsDeskModel" "asked" "[I", Cond.fieldLink RX9 29 "TermsDeskModel" "lifted" "[J", Cond.constantLong RX9 103 (-1), Cond.methodLink RX9 153 yX9_quarrelsNow, Cond.instanceMethod yX9_quarrelsNow, Cond.selects RX9 yX9_quarrelsNow yX9_quarrelsNow, Cond.code yX9_quarrelsNow cX9_quarrelsNow 3 (some .int), Cond.methodLink RX9 131 yX9_bars_, Cond.instanceMethod yX9_bars_, Cond.selects RX9 yX9_bars_ yX9_bars_, Cond.code yX9_bars_ cX9_bars_ 5 (some .long), Cond.fieldLink RX9 17 "TermsDeskModel" "barred" "[I", Cond.methodLink RX9 135 yX9_bits, Cond.static yX9_bits, Cond.code yX9_bits cX9_bits 5 (some .int)]
def wsX9_quarrels : List Cond := .code yX9_quarrels cX9_quarrels 2 (some .int) :: ((wsX9_quarrels_r1 ++ (wsX9_quarrels_r2 ++ wsX9_quarrels_r3)) ++ wsX90)
def wsX9_quarrel_r1 : List Cond := [Cond.fieldLink RX9 87 "TermsDeskModel" "parts" "I", Cond.fieldLink RX9 57 "TermsDeskModel" "isReached" "[Z", Cond.fieldLink RX9 66 "TermsDeskModel" "come" "[J", Cond.fieldLink RX9 63 "TermsDeskModel" "has" "[I", Cond.methodLink RX9 145 yX9_isShipping, Cond.static yX9_isShipping, Cond.initialized RX9, Cond.code yX9_isShipping cX9_isShipping 1 (some .boolean), Cond.methodLink RX9 91 yX9_lies, Cond.static yX9_lies, Cond.code yX9_lies cX9_lies 3 (some .boolean), Cond.methodLink RX9 148 yX9_works, Cond.instanceMethod yX9_works, Cond.selects RX9 yX9_works yX9_works, Cond.code yX9_works cX9_works 2 none, Cond.fieldLink RX9 118 "TermsDeskModel" "product" "I", Cond.methodLink RX9 111 yX9_asItIs, Cond.instanceMethod yX9_asItIs, Cond.selects RX9 yX9_asItIs yX9_asItIs, Cond.code yX9_asItIs cX9_asItIs 2 none, Cond.fieldLink RX9 108 "TermsDeskModel" "joins" "I", Cond.fieldLink RX9 60 "TermsDeskModel" "isGone" "[Z", Cond.fieldLink RX9 41 "TermsDeskModel" "isCut" "[Z", Cond.fieldLink RX9 20 "TermsDeskModel" "choice" "[I"]
def wsX9_quarrel_r2 : List Cond := [Cond.fieldLink RX9 26 "TermsDeskModel" "taken" "[I", Cond.methodLink RX9 139 yX9_orders, Cond.instanceMethod yX9_orders, Cond.selects RX9 yX9_orders yX9_orders, Cond.code yX9_orders cX9_orders 3 none, Cond.fieldLink RX9 72 "TermsDeskModel" "level" "[I", Cond.fieldLink RX9 35 "TermsDeskModel" "to" "[I", Cond.fieldLink RX9 32 "TermsDeskModel" "from" "[I", Cond.fieldLink RX9 125 "TermsDeskModel" "orderMany" "I", Cond.fieldLink RX9 69 "TermsDeskModel" "order" "[I", Cond.methodLink RX9 114 yX9_reaches, Cond.instanceMethod yX9_reaches, Cond.selects RX9 yX9_reaches yX9_reaches, Cond.code yX9_reaches cX9_reaches 4 none, Cond.methodLink RX9 142 yX9_comes, Cond.instanceMethod yX9_comes, Cond.selects RX9 yX9_comes yX9_comes, Cond.code yX9_comes cX9_comes 4 none, Cond.fieldLink RX9 13 "TermsDeskModel" "along" "[J", Cond.fieldLink RX9 38 "TermsDeskModel" "kind" "[I", Cond.methodLink RX9 128 yX9_brings, Cond.instanceMethod yX9_brings, Cond.selects RX9 yX9_brings yX9_brings, Cond.code yX9_brings cX9_brings 3 (some .long)]
def wsX9_quarrel_r3 : List Cond := [Cond.fieldLink RX9 7 "TermsDeskModel" "asked" "[I", Cond.fieldLink RX9 29 "TermsDeskModel" "lifted" "[J", Cond.constantLong RX9 103 (-1), Cond.methodLink RX9 131 yX9_bars_, Cond.instanceMethod yX9_bars_, Cond.selects RX9 yX9_bars_ yX9_bars_, Cond.code yX9_bars_ cX9_bars_ 5 (some .long), Cond.fieldLink RX9 17 "TermsDeskModel" "barred" "[I"]
def wsX9_quarrel : List Cond := .code yX9_quarrel cX9_quarrel 8 (some .int) :: ((wsX9_quarrel_r1 ++ (wsX9_quarrel_r2 ++ wsX9_quarrel_r3)) ++ wsX90)
def wsX9_ways : List Cond := .code yX9_ways cX9_ways 4 (some .int) :: ([.fieldLink RX9 118 "TermsDeskModel" "product" "I", .fieldLink RX9 87 "TermsDeskModel" "parts" "I", .fieldLink RX9 57 "TermsDeskModel" "isReached" "[Z", .constantLong RX9 157 (6561), .fieldLink RX9 23 "TermsDeskModel" "many" "[I", .methodLink RX9 111 yX9_asItIs, .instanceMethod yX9_asItIs, .selects RX9 yX9_asItIs yX9_asItIs, .initialized RX9, .code yX9_asItIs cX9_asItIs 2 none, .fieldLink RX9 108 "TermsDeskModel" "joins" "I", .fieldLink RX9 60 "TermsDeskModel" "isGone" "[Z", .fieldLink RX9 41 "TermsDeskModel" "isCut" "[Z", .fieldLink RX9 63 "TermsDeskModel" "has" "[I", .fieldLink RX9 20 "TermsDeskModel" "choice" "[I", .fieldLink RX9 26 "TermsDeskModel" "taken" "[I", .methodLink RX9 114 yX9_reaches, .instanceMethod yX9_reaches, .selects RX9 yX9_reaches yX9_reaches, .code yX9_reaches cX9_reaches 4 none, .fieldLink RX9 35 "TermsDeskModel" "to" "[I", .fieldLink RX9 32 "TermsDeskModel" "from" "[I"] ++ wsX90)
def wsX9_judge_r1 : List Cond := [Cond.fieldLink RX9 87 "TermsDeskModel" "parts" "I", Cond.fieldLink RX9 75 "TermsDeskModel" "place" "[I", Cond.fieldLink RX9 26 "TermsDeskModel" "taken" "[I", Cond.fieldLink RX9 57 "TermsDeskModel" "isReached" "[Z", Cond.fieldLink RX9 23 "TermsDeskModel" "many" "[I", Cond.fieldLink RX9 63 "TermsDeskModel" "has" "[I", Cond.fieldLink RX9 20 "TermsDeskModel" "choice" "[I", Cond.fieldLink RX9 66 "TermsDeskModel" "come" "[J", Cond.fieldLink RX9 118 "TermsDeskModel" "product" "I", Cond.fieldLink RX9 78 "TermsDeskModel" "best" "[I", Cond.methodLink RX9 145 yX9_isShipping, Cond.static yX9_isShipping, Cond.initialized RX9, Cond.code yX9_isShipping cX9_isShipping 1 (some .boolean), Cond.methodLink RX9 91 yX9_lies, Cond.static yX9_lies, Cond.code yX9_lies cX9_lies 3 (some .boolean), Cond.methodLink RX9 159 yX9_ways, Cond.instanceMethod yX9_ways, Cond.selects RX9 yX9_ways yX9_ways, Cond.code yX9_ways cX9_ways 4 (some .int), Cond.constantLong RX9 157 (6561), Cond.methodLink RX9 111 yX9_asItIs, Cond.instanceMethod yX9_asItIs]
def wsX9_judge_r2 : List Cond := [Cond.selects RX9 yX9_asItIs yX9_asItIs, Cond.code yX9_asItIs cX9_asItIs 2 none, Cond.fieldLink RX9 108 "TermsDeskModel" "joins" "I", Cond.fieldLink RX9 60 "TermsDeskModel" "isGone" "[Z", Cond.fieldLink RX9 41 "TermsDeskModel" "isCut" "[Z", Cond.methodLink RX9 114 yX9_reaches, Cond.instanceMethod yX9_reaches, Cond.selects RX9 yX9_reaches yX9_reaches, Cond.code yX9_reaches cX9_reaches 4 none, Cond.fieldLink RX9 35 "TermsDeskModel" "to" "[I", Cond.fieldLink RX9 32 "TermsDeskModel" "from" "[I", Cond.methodLink RX9 148 yX9_works, Cond.instanceMethod yX9_works, Cond.selects RX9 yX9_works yX9_works, Cond.code yX9_works cX9_works 2 none, Cond.methodLink RX9 139 yX9_orders, Cond.instanceMethod yX9_orders, Cond.selects RX9 yX9_orders yX9_orders, Cond.code yX9_orders cX9_orders 3 none, Cond.fieldLink RX9 72 "TermsDeskModel" "level" "[I", Cond.fieldLink RX9 125 "TermsDeskModel" "orderMany" "I", Cond.fieldLink RX9 69 "TermsDeskModel" "order" "[I", Cond.methodLink RX9 142 yX9_comes, Cond.instanceMethod yX9_comes]
def wsX9_judge_r3 : List Cond := [Cond.selects RX9 yX9_comes yX9_comes, Cond.code yX9_comes cX9_comes 4 none, Cond.fieldLink RX9 13 "TermsDeskModel" "along" "[J", Cond.fieldLink RX9 38 "TermsDeskModel" "kind" "[I", Cond.methodLink RX9 128 yX9_brings, Cond.instanceMethod yX9_brings, Cond.selects RX9 yX9_brings yX9_brings, Cond.code yX9_brings cX9_brings 3 (some .long), Cond.fieldLink RX9 7 "TermsDeskModel" "asked" "[I", Cond.fieldLink RX9 29 "TermsDeskModel" "lifted" "[J", Cond.constantLong RX9 103 (-1), Cond.methodLink RX9 153 yX9_quarrelsNow, Cond.instanceMethod yX9_quarrelsNow, Cond.selects RX9 yX9_quarrelsNow yX9_quarrelsNow, Cond.code yX9_quarrelsNow cX9_quarrelsNow 3 (some .int), Cond.methodLink RX9 131 yX9_bars_, Cond.instanceMethod yX9_bars_, Cond.selects RX9 yX9_bars_ yX9_bars_, Cond.code yX9_bars_ cX9_bars_ 5 (some .long), Cond.fieldLink RX9 17 "TermsDeskModel" "barred" "[I", Cond.methodLink RX9 135 yX9_bits, Cond.static yX9_bits, Cond.code yX9_bits cX9_bits 5 (some .int)]
def wsX9_judge : List Cond := .code yX9_judge cX9_judge 10 (some .int) :: ((wsX9_judge_r1 ++ (wsX9_judge_r2 ++ wsX9_judge_r3)) ++ wsX90)
def wsX9_priceOf : List Cond := .code yX9_priceOf cX9_priceOf 4 (some .int) :: ([.fieldLink RX9 121 "TermsDeskModel" "changes" "I", .fieldLink RX9 54 "TermsDeskModel" "cost" "[I"] ++ wsX90)
def wsX9_price : List Cond := .code yX9_price cX9_price 2 (some .int) :: ([.fieldLink RX9 121 "TermsDeskModel" "changes" "I", .methodLink RX9 91 yX9_lies, .static yX9_lies, .initialized RX9, .code yX9_lies cX9_lies 3 (some .boolean), .methodLink RX9 162 yX9_priceOf, .instanceMethod yX9_priceOf, .selects RX9 yX9_priceOf yX9_priceOf, .code yX9_priceOf cX9_priceOf 4 (some .int), .fieldLink RX9 54 "TermsDeskModel" "cost" "[I"] ++ wsX90)
def wsX9_quarrelsWith_r1 : List Cond := [Cond.fieldLink RX9 121 "TermsDeskModel" "changes" "I", Cond.fieldLink RX9 45 "TermsDeskModel" "sort" "[I", Cond.fieldLink RX9 63 "TermsDeskModel" "has" "[I", Cond.fieldLink RX9 48 "TermsDeskModel" "which" "[I", Cond.fieldLink RX9 51 "TermsDeskModel" "gets" "[I", Cond.fieldLink RX9 60 "TermsDeskModel" "isGone" "[Z", Cond.fieldLink RX9 118 "TermsDeskModel" "product" "I", Cond.methodLink RX9 111 yX9_asItIs, Cond.instanceMethod yX9_asItIs, Cond.selects RX9 yX9_asItIs yX9_asItIs, Cond.initialized RX9, Cond.code yX9_asItIs cX9_asItIs 2 none, Cond.fieldLink RX9 108 "TermsDeskModel" "joins" "I", Cond.fieldLink RX9 41 "TermsDeskModel" "isCut" "[Z", Cond.fieldLink RX9 87 "TermsDeskModel" "parts" "I", Cond.fieldLink RX9 20 "TermsDeskModel" "choice" "[I", Cond.fieldLink RX9 26 "TermsDeskModel" "taken" "[I", Cond.methodLink RX9 139 yX9_orders, Cond.instanceMethod yX9_orders, Cond.selects RX9 yX9_orders yX9_orders, Cond.code yX9_orders cX9_orders 3 none, Cond.fieldLink RX9 72 "TermsDeskModel" "level" "[I", Cond.fieldLink RX9 35 "TermsDeskModel" "to" "[I", Cond.fieldLink RX9 32 "TermsDeskModel" "from" "[I"]
def wsX9_quarrelsWith_r2 : List Cond := [Cond.fieldLink RX9 125 "TermsDeskModel" "orderMany" "I", Cond.fieldLink RX9 69 "TermsDeskModel" "order" "[I", Cond.methodLink RX9 114 yX9_reaches, Cond.instanceMethod yX9_reaches, Cond.selects RX9 yX9_reaches yX9_reaches, Cond.code yX9_reaches cX9_reaches 4 none, Cond.fieldLink RX9 57 "TermsDeskModel" "isReached" "[Z", Cond.methodLink RX9 142 yX9_comes, Cond.instanceMethod yX9_comes, Cond.selects RX9 yX9_comes yX9_comes, Cond.code yX9_comes cX9_comes 4 none, Cond.fieldLink RX9 66 "TermsDeskModel" "come" "[J", Cond.fieldLink RX9 13 "TermsDeskModel" "along" "[J", Cond.fieldLink RX9 38 "TermsDeskModel" "kind" "[I", Cond.methodLink RX9 128 yX9_brings, Cond.instanceMethod yX9_brings, Cond.selects RX9 yX9_brings yX9_brings, Cond.code yX9_brings cX9_brings 3 (some .long), Cond.fieldLink RX9 7 "TermsDeskModel" "asked" "[I", Cond.fieldLink RX9 29 "TermsDeskModel" "lifted" "[J", Cond.constantLong RX9 103 (-1), Cond.methodLink RX9 153 yX9_quarrelsNow, Cond.instanceMethod yX9_quarrelsNow, Cond.selects RX9 yX9_quarrelsNow yX9_quarrelsNow]
def wsX9_quarrelsWith_r3 : List Cond := [Cond.code yX9_quarrelsNow cX9_quarrelsNow 3 (some .int), Cond.methodLink RX9 131 yX9_bars_, Cond.instanceMethod yX9_bars_, Cond.selects RX9 yX9_bars_ yX9_bars_, Cond.code yX9_bars_ cX9_bars_ 5 (some .long), Cond.fieldLink RX9 17 "TermsDeskModel" "barred" "[I", Cond.methodLink RX9 135 yX9_bits, Cond.static yX9_bits, Cond.code yX9_bits cX9_bits 5 (some .int)]
def wsX9_quarrelsWith : List Cond := .code yX9_quarrelsWith cX9_quarrelsWith 4 (some .int) :: ((wsX9_quarrelsWith_r1 ++ (wsX9_quarrelsWith_r2 ++ wsX9_quarrelsWith_r3)) ++ wsX90)
def wsX9_isAhead : List Cond := .code yX9_isAhead cX9_isAhead 3 (some .boolean) :: ([.methodLink RX9 135 yX9_bits, .static yX9_bits, .initialized RX9, .code yX9_bits cX9_bits 5 (some .int)])
def wsX9_cheapest_r1 : List Cond := [Cond.fieldLink RX9 121 "TermsDeskModel" "changes" "I", Cond.methodLink RX9 145 yX9_isShipping, Cond.static yX9_isShipping, Cond.initialized RX9, Cond.code yX9_isShipping cX9_isShipping 1 (some .boolean), Cond.methodLink RX9 91 yX9_lies, Cond.static yX9_lies, Cond.code yX9_lies cX9_lies 3 (some .boolean), Cond.methodLink RX9 162 yX9_priceOf, Cond.instanceMethod yX9_priceOf, Cond.selects RX9 yX9_priceOf yX9_priceOf, Cond.code yX9_priceOf cX9_priceOf 4 (some .int), Cond.fieldLink RX9 54 "TermsDeskModel" "cost" "[I", Cond.methodLink RX9 166 yX9_isAhead, Cond.static yX9_isAhead, Cond.code yX9_isAhead cX9_isAhead 3 (some .boolean), Cond.methodLink RX9 135 yX9_bits, Cond.static yX9_bits, Cond.code yX9_bits cX9_bits 5 (some .int), Cond.methodLink RX9 170 yX9_quarrelsWith, Cond.instanceMethod yX9_quarrelsWith, Cond.selects RX9 yX9_quarrelsWith yX9_quarrelsWith, Cond.code yX9_quarrelsWith cX9_quarrelsWith 4 (some .int), Cond.fieldLink RX9 45 "TermsDeskModel" "sort" "[I"]
def wsX9_cheapest_r2 : List Cond := [Cond.fieldLink RX9 63 "TermsDeskModel" "has" "[I", Cond.fieldLink RX9 48 "TermsDeskModel" "which" "[I", Cond.fieldLink RX9 51 "TermsDeskModel" "gets" "[I", Cond.fieldLink RX9 60 "TermsDeskModel" "isGone" "[Z", Cond.fieldLink RX9 118 "TermsDeskModel" "product" "I", Cond.methodLink RX9 111 yX9_asItIs, Cond.instanceMethod yX9_asItIs, Cond.selects RX9 yX9_asItIs yX9_asItIs, Cond.code yX9_asItIs cX9_asItIs 2 none, Cond.fieldLink RX9 108 "TermsDeskModel" "joins" "I", Cond.fieldLink RX9 41 "TermsDeskModel" "isCut" "[Z", Cond.fieldLink RX9 87 "TermsDeskModel" "parts" "I", Cond.fieldLink RX9 20 "TermsDeskModel" "choice" "[I", Cond.fieldLink RX9 26 "TermsDeskModel" "taken" "[I", Cond.methodLink RX9 139 yX9_orders, Cond.instanceMethod yX9_orders, Cond.selects RX9 yX9_orders yX9_orders, Cond.code yX9_orders cX9_orders 3 none, Cond.fieldLink RX9 72 "TermsDeskModel" "level" "[I", Cond.fieldLink RX9 35 "TermsDeskModel" "to" "[I", Cond.fieldLink RX9 32 "TermsDeskModel" "from" "[I", Cond.fieldLink RX9 125 "TermsDeskModel" "orderMany" "I", Cond.fieldLink RX9 69 "TermsDeskModel" "order" "[I", Cond.methodLink RX9 114 yX9_reaches]
def wsX9_cheapest_r3 : List Cond := [Cond.instanceMethod yX9_reaches, Cond.selects RX9 yX9_reaches yX9_reaches, Cond.code yX9_reaches cX9_reaches 4 none, Cond.fieldLink RX9 57 "TermsDeskModel" "isReached" "[Z", Cond.methodLink RX9 142 yX9_comes, Cond.instanceMethod yX9_comes, Cond.selects RX9 yX9_comes yX9_comes, Cond.code yX9_comes cX9_comes 4 none, Cond.fieldLink RX9 66 "TermsDeskModel" "come" "[J", Cond.fieldLink RX9 13 "TermsDeskModel" "along" "[J", Cond.fieldLink RX9 38 "TermsDeskModel" "kind" "[I", Cond.methodLink RX9 128 yX9_brings, Cond.instanceMethod yX9_brings, Cond.selects RX9 yX9_brings yX9_brings, Cond.code yX9_brings cX9_brings 3 (some .long), Cond.fieldLink RX9 7 "TermsDeskModel" "asked" "[I", Cond.fieldLink RX9 29 "TermsDeskModel" "lifted" "[J", Cond.constantLong RX9 103 (-1), Cond.methodLink RX9 153 yX9_quarrelsNow, Cond.instanceMethod yX9_quarrelsNow, Cond.selects RX9 yX9_quarrelsNow yX9_quarrelsNow, Cond.code yX9_quarrelsNow cX9_quarrelsNow 3 (some .int), Cond.methodLink RX9 131 yX9_bars_, Cond.instanceMethod yX9_bars_]
def wsX9_cheapest_r4 : List Cond := [Cond.selects RX9 yX9_bars_ yX9_bars_, Cond.code yX9_bars_ cX9_bars_ 5 (some .long), Cond.fieldLink RX9 17 "TermsDeskModel" "barred" "[I"]
def wsX9_cheapest : List Cond := .code yX9_cheapest cX9_cheapest 5 (some .int) :: ((wsX9_cheapest_r1 ++ (wsX9_cheapest_r2 ++ (wsX9_cheapest_r3 ++ wsX9_cheapest_r4))) ++ wsX90)
def wsX9_measures : List Cond := .code yX9_measures cX9_measures 6 none :: ([.fieldLink RX9 81 "TermsDeskModel" "far" "[I", .fieldLink RX9 87 "TermsDeskModel" "parts" "I", .fieldLink RX9 108 "TermsDeskModel" "joins" "I", .fieldLink RX9 60 "TermsDeskModel" "isGone" "[Z", .fieldLink RX9 13 "TermsDeskModel" "along" "[J", .fieldLink RX9 38 "TermsDeskModel" "kind" "[I", .fieldLink RX9 35 "TermsDeskModel" "to" "[I", .fieldLink RX9 32 "TermsDeskModel" "from" "[I", .methodLink RX9 99 yX9_bit, .static yX9_bit, .initialized RX9, .code yX9_bit cX9_bit 2 (some .long)] ++ wsX90)
def wsX9_hasBrought : List Cond := .code yX9_hasBrought cX9_hasBrought 5 (some .boolean) :: ([.methodLink RX9 128 yX9_brings, .instanceMethod yX9_brings, .selects RX9 yX9_brings yX9_brings, .initialized RX9, .code yX9_brings cX9_brings 3 (some .long), .fieldLink RX9 7 "TermsDeskModel" "asked" "[I", .fieldLink RX9 63 "TermsDeskModel" "has" "[I", .fieldLink RX9 29 "TermsDeskModel" "lifted" "[J", .constantLong RX9 103 (-1), .methodLink RX9 99 yX9_bit, .static yX9_bit, .code yX9_bit cX9_bit 2 (some .long)] ++ wsX90)
def wsX9_way_r1 : List Cond := [Cond.fieldLink RX9 87 "TermsDeskModel" "parts" "I", Cond.fieldLink RX9 81 "TermsDeskModel" "far" "[I", Cond.fieldLink RX9 108 "TermsDeskModel" "joins" "I", Cond.fieldLink RX9 60 "TermsDeskModel" "isGone" "[Z", Cond.fieldLink RX9 32 "TermsDeskModel" "from" "[I", Cond.fieldLink RX9 13 "TermsDeskModel" "along" "[J", Cond.fieldLink RX9 38 "TermsDeskModel" "kind" "[I", Cond.fieldLink RX9 35 "TermsDeskModel" "to" "[I", Cond.methodLink RX9 145 yX9_isShipping, Cond.static yX9_isShipping, Cond.initialized RX9, Cond.code yX9_isShipping cX9_isShipping 1 (some .boolean), Cond.methodLink RX9 91 yX9_lies, Cond.static yX9_lies, Cond.code yX9_lies cX9_lies 3 (some .boolean), Cond.methodLink RX9 95 yX9_isLicence, Cond.static yX9_isLicence, Cond.code yX9_isLicence cX9_isLicence 1 (some .boolean), Cond.methodLink RX9 105 yX9_isPart, Cond.instanceMethod yX9_isPart, Cond.selects RX9 yX9_isPart yX9_isPart, Cond.code yX9_isPart cX9_isPart 2 (some .boolean), Cond.methodLink RX9 111 yX9_asItIs, Cond.instanceMethod yX9_asItIs]
def wsX9_way_r2 : List Cond := [Cond.selects RX9 yX9_asItIs yX9_asItIs, Cond.code yX9_asItIs cX9_asItIs 2 none, Cond.fieldLink RX9 41 "TermsDeskModel" "isCut" "[Z", Cond.fieldLink RX9 63 "TermsDeskModel" "has" "[I", Cond.fieldLink RX9 20 "TermsDeskModel" "choice" "[I", Cond.fieldLink RX9 26 "TermsDeskModel" "taken" "[I", Cond.methodLink RX9 174 yX9_measures, Cond.instanceMethod yX9_measures, Cond.selects RX9 yX9_measures yX9_measures, Cond.code yX9_measures cX9_measures 6 none, Cond.methodLink RX9 99 yX9_bit, Cond.static yX9_bit, Cond.code yX9_bit cX9_bit 2 (some .long), Cond.methodLink RX9 178 yX9_hasBrought, Cond.instanceMethod yX9_hasBrought, Cond.selects RX9 yX9_hasBrought yX9_hasBrought, Cond.code yX9_hasBrought cX9_hasBrought 5 (some .boolean), Cond.methodLink RX9 128 yX9_brings, Cond.instanceMethod yX9_brings, Cond.selects RX9 yX9_brings yX9_brings, Cond.code yX9_brings cX9_brings 3 (some .long), Cond.fieldLink RX9 7 "TermsDeskModel" "asked" "[I", Cond.fieldLink RX9 29 "TermsDeskModel" "lifted" "[J", Cond.constantLong RX9 103 (-1)]
def wsX9_way : List Cond := .code yX9_way cX9_way 10 (some .int) :: ((wsX9_way_r1 ++ wsX9_way_r2) ++ wsX90)
def wsX9_notice_r1 : List Cond := [Cond.fieldLink RX9 87 "TermsDeskModel" "parts" "I", Cond.fieldLink RX9 63 "TermsDeskModel" "has" "[I", Cond.fieldLink RX9 118 "TermsDeskModel" "product" "I", Cond.fieldLink RX9 81 "TermsDeskModel" "far" "[I", Cond.methodLink RX9 145 yX9_isShipping, Cond.static yX9_isShipping, Cond.initialized RX9, Cond.code yX9_isShipping cX9_isShipping 1 (some .boolean), Cond.methodLink RX9 91 yX9_lies, Cond.static yX9_lies, Cond.code yX9_lies cX9_lies 3 (some .boolean), Cond.methodLink RX9 111 yX9_asItIs, Cond.instanceMethod yX9_asItIs, Cond.selects RX9 yX9_asItIs yX9_asItIs, Cond.code yX9_asItIs cX9_asItIs 2 none, Cond.fieldLink RX9 108 "TermsDeskModel" "joins" "I", Cond.fieldLink RX9 60 "TermsDeskModel" "isGone" "[Z", Cond.fieldLink RX9 41 "TermsDeskModel" "isCut" "[Z", Cond.fieldLink RX9 20 "TermsDeskModel" "choice" "[I", Cond.fieldLink RX9 26 "TermsDeskModel" "taken" "[I", Cond.methodLink RX9 178 yX9_hasBrought, Cond.instanceMethod yX9_hasBrought, Cond.selects RX9 yX9_hasBrought yX9_hasBrought, Cond.code yX9_hasBrought cX9_hasBrought 5 (some .boolean)]
def wsX9_notice_r2 : List Cond := [Cond.methodLink RX9 128 yX9_brings, Cond.instanceMethod yX9_brings, Cond.selects RX9 yX9_brings yX9_brings, Cond.code yX9_brings cX9_brings 3 (some .long), Cond.fieldLink RX9 7 "TermsDeskModel" "asked" "[I", Cond.fieldLink RX9 29 "TermsDeskModel" "lifted" "[J", Cond.constantLong RX9 103 (-1), Cond.methodLink RX9 99 yX9_bit, Cond.static yX9_bit, Cond.code yX9_bit cX9_bit 2 (some .long), Cond.methodLink RX9 174 yX9_measures, Cond.instanceMethod yX9_measures, Cond.selects RX9 yX9_measures yX9_measures, Cond.code yX9_measures cX9_measures 6 none, Cond.fieldLink RX9 13 "TermsDeskModel" "along" "[J", Cond.fieldLink RX9 38 "TermsDeskModel" "kind" "[I", Cond.fieldLink RX9 35 "TermsDeskModel" "to" "[I", Cond.fieldLink RX9 32 "TermsDeskModel" "from" "[I"]
def wsX9_notice : List Cond := .code yX9_notice cX9_notice 5 (some .int) :: ((wsX9_notice_r1 ++ wsX9_notice_r2) ++ wsX90)
def wsX9_differ_r1 : List Cond := [Cond.fieldLink RX9 87 "TermsDeskModel" "parts" "I", Cond.fieldLink RX9 84 "TermsDeskModel" "other" "[J", Cond.fieldLink RX9 66 "TermsDeskModel" "come" "[J", Cond.fieldLink RX9 57 "TermsDeskModel" "isReached" "[Z", Cond.methodLink RX9 145 yX9_isShipping, Cond.static yX9_isShipping, Cond.initialized RX9, Cond.code yX9_isShipping cX9_isShipping 1 (some .boolean), Cond.methodLink RX9 91 yX9_lies, Cond.static yX9_lies, Cond.code yX9_lies cX9_lies 3 (some .boolean), Cond.methodLink RX9 148 yX9_works, Cond.instanceMethod yX9_works, Cond.selects RX9 yX9_works yX9_works, Cond.code yX9_works cX9_works 2 none, Cond.fieldLink RX9 118 "TermsDeskModel" "product" "I", Cond.methodLink RX9 111 yX9_asItIs, Cond.instanceMethod yX9_asItIs, Cond.selects RX9 yX9_asItIs yX9_asItIs, Cond.code yX9_asItIs cX9_asItIs 2 none, Cond.fieldLink RX9 108 "TermsDeskModel" "joins" "I", Cond.fieldLink RX9 60 "TermsDeskModel" "isGone" "[Z", Cond.fieldLink RX9 41 "TermsDeskModel" "isCut" "[Z", Cond.fieldLink RX9 63 "TermsDeskModel" "has" "[I"]
def wsX9_differ_r2 : List Cond := [Cond.fieldLink RX9 20 "TermsDeskModel" "choice" "[I", Cond.fieldLink RX9 26 "TermsDeskModel" "taken" "[I", Cond.methodLink RX9 139 yX9_orders, Cond.instanceMethod yX9_orders, Cond.selects RX9 yX9_orders yX9_orders, Cond.code yX9_orders cX9_orders 3 none, Cond.fieldLink RX9 72 "TermsDeskModel" "level" "[I", Cond.fieldLink RX9 35 "TermsDeskModel" "to" "[I", Cond.fieldLink RX9 32 "TermsDeskModel" "from" "[I", Cond.fieldLink RX9 125 "TermsDeskModel" "orderMany" "I", Cond.fieldLink RX9 69 "TermsDeskModel" "order" "[I", Cond.methodLink RX9 114 yX9_reaches, Cond.instanceMethod yX9_reaches, Cond.selects RX9 yX9_reaches yX9_reaches, Cond.code yX9_reaches cX9_reaches 4 none, Cond.methodLink RX9 142 yX9_comes, Cond.instanceMethod yX9_comes, Cond.selects RX9 yX9_comes yX9_comes, Cond.code yX9_comes cX9_comes 4 none, Cond.fieldLink RX9 13 "TermsDeskModel" "along" "[J", Cond.fieldLink RX9 38 "TermsDeskModel" "kind" "[I", Cond.methodLink RX9 128 yX9_brings, Cond.instanceMethod yX9_brings, Cond.selects RX9 yX9_brings yX9_brings]
def wsX9_differ_r3 : List Cond := [Cond.code yX9_brings cX9_brings 3 (some .long), Cond.fieldLink RX9 7 "TermsDeskModel" "asked" "[I", Cond.fieldLink RX9 29 "TermsDeskModel" "lifted" "[J", Cond.constantLong RX9 103 (-1)]
def wsX9_differ : List Cond := .code yX9_differ cX9_differ 6 (some .int) :: ((wsX9_differ_r1 ++ (wsX9_differ_r2 ++ wsX9_differ_r3)) ++ wsX90)
def wsX9_look_r1 : List Cond := [Cond.fieldLink RX9 23 "TermsDeskModel" "many" "[I", Cond.fieldLink RX9 20 "TermsDeskModel" "choice" "[I", Cond.fieldLink RX9 26 "TermsDeskModel" "taken" "[I", Cond.fieldLink RX9 118 "TermsDeskModel" "product" "I", Cond.fieldLink RX9 57 "TermsDeskModel" "isReached" "[Z", Cond.fieldLink RX9 108 "TermsDeskModel" "joins" "I", Cond.fieldLink RX9 41 "TermsDeskModel" "isCut" "[Z", Cond.fieldLink RX9 35 "TermsDeskModel" "to" "[I", Cond.fieldLink RX9 32 "TermsDeskModel" "from" "[I", Cond.methodLink RX9 105 yX9_isPart, Cond.instanceMethod yX9_isPart, Cond.selects RX9 yX9_isPart yX9_isPart, Cond.initialized RX9, Cond.code yX9_isPart cX9_isPart 2 (some .boolean), Cond.fieldLink RX9 87 "TermsDeskModel" "parts" "I", Cond.methodLink RX9 91 yX9_lies, Cond.static yX9_lies, Cond.code yX9_lies cX9_lies 3 (some .boolean), Cond.methodLink RX9 111 yX9_asItIs, Cond.instanceMethod yX9_asItIs, Cond.selects RX9 yX9_asItIs yX9_asItIs, Cond.code yX9_asItIs cX9_asItIs 2 none, Cond.fieldLink RX9 60 "TermsDeskModel" "isGone" "[Z", Cond.fieldLink RX9 63 "TermsDeskModel" "has" "[I"]
def wsX9_look_r2 : List Cond := [Cond.methodLink RX9 114 yX9_reaches, Cond.instanceMethod yX9_reaches, Cond.selects RX9 yX9_reaches yX9_reaches, Cond.code yX9_reaches cX9_reaches 4 none]
def wsX9_look : List Cond := .code yX9_look cX9_look 5 (some .int) :: ((wsX9_look_r1 ++ wsX9_look_r2) ++ wsX90)
def wsX9_count_r1 : List Cond := [Cond.fieldLink RX9 87 "TermsDeskModel" "parts" "I", Cond.fieldLink RX9 108 "TermsDeskModel" "joins" "I", Cond.fieldLink RX9 41 "TermsDeskModel" "isCut" "[Z", Cond.fieldLink RX9 118 "TermsDeskModel" "product" "I", Cond.fieldLink RX9 57 "TermsDeskModel" "isReached" "[Z", Cond.fieldLink RX9 121 "TermsDeskModel" "changes" "I", Cond.methodLink RX9 111 yX9_asItIs, Cond.instanceMethod yX9_asItIs, Cond.selects RX9 yX9_asItIs yX9_asItIs, Cond.initialized RX9, Cond.code yX9_asItIs cX9_asItIs 2 none, Cond.fieldLink RX9 60 "TermsDeskModel" "isGone" "[Z", Cond.fieldLink RX9 63 "TermsDeskModel" "has" "[I", Cond.fieldLink RX9 20 "TermsDeskModel" "choice" "[I", Cond.fieldLink RX9 26 "TermsDeskModel" "taken" "[I", Cond.methodLink RX9 114 yX9_reaches, Cond.instanceMethod yX9_reaches, Cond.selects RX9 yX9_reaches yX9_reaches, Cond.code yX9_reaches cX9_reaches 4 none, Cond.fieldLink RX9 35 "TermsDeskModel" "to" "[I", Cond.fieldLink RX9 32 "TermsDeskModel" "from" "[I", Cond.methodLink RX9 159 yX9_ways, Cond.instanceMethod yX9_ways, Cond.selects RX9 yX9_ways yX9_ways]
def wsX9_count_r2 : List Cond := [Cond.code yX9_ways cX9_ways 4 (some .int), Cond.constantLong RX9 157 (6561), Cond.fieldLink RX9 23 "TermsDeskModel" "many" "[I"]
def wsX9_count : List Cond := .code yX9_count cX9_count 4 (some .int) :: ((wsX9_count_r1 ++ wsX9_count_r2) ++ wsX90)
def wsJ9_min_7cf53 : List Cond := .code yJ9_min_7cf53 cJ9_min_7cf53 2 (some .int) :: ([])
theorem dX0_init_0 : decode cX0_init 0 = .ok (.aload_n 0, 1) := by decide +kernel
theorem dX0_init_1 : decode cX0_init 1 = .ok (.invokespecial 3, 3) := by decide +kernel
theorem dX0_init_4 : decode cX0_init 4 = .ok (.aload_n 0, 1) := by decide +kernel
theorem dX0_init_5 : decode cX0_init 5 = .ok (.bipush 10, 2) := by decide +kernel
theorem dX0_init_7 : decode cX0_init 7 = .ok (.newarray .int, 2) := by decide +kernel
theorem dX0_init_9 : decode cX0_init 9 = .ok (.putfield 9, 3) := by decide +kernel
theorem dX0_init_12 : decode cX0_init 12 = .ok (.aload_n 0, 1) := by decide +kernel
theorem dX0_init_13 : decode cX0_init 13 = .ok (.bipush 10, 2) := by decide +kernel
theorem dX0_init_15 : decode cX0_init 15 = .ok (.newarray .int, 2) := by decide +kernel
theorem dX0_init_17 : decode cX0_init 17 = .ok (.putfield 15, 3) := by decide +kernel
theorem dX0_init_20 : decode cX0_init 20 = .ok (.aload_n 0, 1) := by decide +kernel
theorem dX0_init_21 : decode cX0_init 21 = .ok (.bipush 10, 2) := by decide +kernel
theorem dX0_init_23 : decode cX0_init 23 = .ok (.newarray .int, 2) := by decide +kernel
theorem dX0_init_25 : decode cX0_init 25 = .ok (.putfield 18, 3) := by decide +kernel
theorem dX0_init_28 : decode cX0_init 28 = .ok (.aload_n 0, 1) := by decide +kernel
theorem dX0_init_29 : decode cX0_init 29 = .ok (.bipush 10, 2) := by decide +kernel
theorem dX0_init_31 : decode cX0_init 31 = .ok (.newarray .int, 2) := by decide +kernel
theorem dX0_init_33 : decode cX0_init 33 = .ok (.putfield 21, 3) := by decide +kernel
theorem dX0_init_36 : decode cX0_init 36 = .ok (.return_, 1) := by decide +kernel
theorem dX0_add_0 : decode cX0_add 0 = .ok (.aload_n 0, 1) := by decide +kernel
theorem dX0_add_1 : decode cX0_add 1 = .ok (.getfield 24, 3) := by decide +kernel
theorem dX0_add_4 : decode cX0_add 4 = .ok (.istore 5, 2) := by decide +kernel
theorem dX0_add_6 : decode cX0_add 6 = .ok (.aload_n 0, 1) := by decide +kernel
theorem dX0_add_7 : decode cX0_add 7 = .ok (.dup, 1) := by decide +kernel
theorem dX0_add_8 : decode cX0_add 8 = .ok (.getfield 24, 3) := by decide +kernel
theorem dX0_add_11 : decode cX0_add 11 = .ok (.iconst 1, 1) := by decide +kernel
theorem dX0_add_12 : decode cX0_add 12 = .ok (.iadd, 1) := by decide +kernel
theorem dX0_add_13 : decode cX0_add 13 = .ok (.putfield 24, 3) := by decide +kernel
theorem dX0_add_16 : decode cX0_add 16 = .ok (.aload_n 0, 1) := by decide +kernel
theorem dX0_add_17 : decode cX0_add 17 = .ok (.getfield 9, 3) := by decide +kernel
theorem dX0_add_20 : decode cX0_add 20 = .ok (.iload 5, 2) := by decide +kernel
theorem dX0_add_22 : decode cX0_add 22 = .ok (.iload_n 1, 1) := by decide +kernel
theorem dX0_add_23 : decode cX0_add 23 = .ok (.iastore, 1) := by decide +kernel
theorem dX0_add_24 : decode cX0_add 24 = .ok (.aload_n 0, 1) := by decide +kernel
theorem dX0_add_25 : decode cX0_add 25 = .ok (.getfield 15, 3) := by decide +kernel
theorem dX0_add_28 : decode cX0_add 28 = .ok (.iload 5, 2) := by decide +kernel
theorem dX0_add_30 : decode cX0_add 30 = .ok (.iload_n 2, 1) := by decide +kernel
theorem dX0_add_31 : decode cX0_add 31 = .ok (.iastore, 1) := by decide +kernel
theorem dX0_add_32 : decode cX0_add 32 = .ok (.aload_n 0, 1) := by decide +kernel
theorem dX0_add_33 : decode cX0_add 33 = .ok (.getfield 18, 3) := by decide +kernel
theorem dX0_add_36 : decode cX0_add 36 = .ok (.iload 5, 2) := by decide +kernel
theorem dX0_add_38 : decode cX0_add 38 = .ok (.iload_n 3, 1) := by decide +kernel
theorem dX0_add_39 : decode cX0_add 39 = .ok (.iastore, 1) := by decide +kernel
theorem dX0_add_40 : decode cX0_add 40 = .ok (.aload_n 0, 1) := by decide +kernel
theorem dX0_add_41 : decode cX0_add 41 = .ok (.getfield 21, 3) := by decide +kernel
theorem dX0_add_44 : decode cX0_add 44 = .ok (.iload 5, 2) := by decide +kernel
theorem dX0_add_46 : decode cX0_add 46 = .ok (.iload 4, 2) := by decide +kernel
theorem dX0_add_48 : decode cX0_add 48 = .ok (.iastore, 1) := by decide +kernel
theorem dX0_add_49 : decode cX0_add 49 = .ok (.iload 5, 2) := by decide +kernel
theorem dX0_add_51 : decode cX0_add 51 = .ok (.ireturn, 1) := by decide +kernel
set_option maxRecDepth 20000 in
theorem ggX0_priceOf_X8_holds : GoodIn wsX0_priceOf wsX8_holds := goodIn_r _ [5] (by decide +kernel) (by decide +kernel)
set_option maxRecDepth 20000 in
theorem gX0_priceOf_X8_holds_n28 : GoodIn wsX0_priceOf (wsX8_holds) := ggX0_priceOf_X8_holds
theorem dX0_priceOf_0 : decode cX0_priceOf 0 = .ok (.iconst 0, 1) := by decide +kernel
theorem dX0_priceOf_1 : decode cX0_priceOf 1 = .ok (.istore_n 2, 1) := by decide +kernel
theorem dX0_priceOf_2 : decode cX0_priceOf 2 = .ok (.iconst 0, 1) := by decide +kernel
theorem dX0_priceOf_3 : decode cX0_priceOf 3 = .ok (.istore_n 3, 1) := by decide +kernel
theorem dX0_priceOf_4 : decode cX0_priceOf 4 = .ok (.iload_n 3, 1) := by decide +kernel
theorem dX0_priceOf_5 : decode cX0_priceOf 5 = .ok (.aload_n 0, 1) := by decide +kernel
theorem dX0_priceOf_6 : decode cX0_priceOf 6 = .ok (.getfield 24, 3) := by decide +kernel
theorem dX0_priceOf_9 : decode cX0_priceOf 9 = .ok (.if_icmp .ge 27, 3) := by decide +kernel
theorem dX0_priceOf_12 : decode cX0_priceOf 12 = .ok (.iload_n 1, 1) := by decide +kernel
theorem dX0_priceOf_13 : decode cX0_priceOf 13 = .ok (.i2l, 1) := by decide +kernel
theorem dX0_priceOf_14 : decode cX0_priceOf 14 = .ok (.iload_n 3, 1) := by decide +kernel
theorem dX0_priceOf_15 : decode cX0_priceOf 15 = .ok (.invokestatic 28, 3) := by decide +kernel
theorem dX0_priceOf_18 : decode cX0_priceOf 18 = .ok (.ifCond .eq 12, 3) := by decide +kernel
theorem dX0_priceOf_21 : decode cX0_priceOf 21 = .ok (.iload_n 2, 1) := by decide +kernel
theorem dX0_priceOf_22 : decode cX0_priceOf 22 = .ok (.aload_n 0, 1) := by decide +kernel
theorem dX0_priceOf_23 : decode cX0_priceOf 23 = .ok (.getfield 21, 3) := by decide +kernel
theorem dX0_priceOf_26 : decode cX0_priceOf 26 = .ok (.iload_n 3, 1) := by decide +kernel
theorem dX0_priceOf_27 : decode cX0_priceOf 27 = .ok (.iaload, 1) := by decide +kernel
theorem dX0_priceOf_28 : decode cX0_priceOf 28 = .ok (.iadd, 1) := by decide +kernel
theorem dX0_priceOf_29 : decode cX0_priceOf 29 = .ok (.istore_n 2, 1) := by decide +kernel
theorem dX0_priceOf_30 : decode cX0_priceOf 30 = .ok (.iinc 3 1, 3) := by decide +kernel
theorem dX0_priceOf_33 : decode cX0_priceOf 33 = .ok (.goto (-29), 3) := by decide +kernel
theorem dX0_priceOf_36 : decode cX0_priceOf 36 = .ok (.iload_n 2, 1) := by decide +kernel
theorem dX0_priceOf_37 : decode cX0_priceOf 37 = .ok (.ireturn, 1) := by decide +kernel
set_option maxRecDepth 20000 in
theorem ggX0_isBetter_X0_priceOf : GoodIn wsX0_isBetter wsX0_priceOf := goodIn_r _ [5, 6, 7, 8, 9, 10, 24, 25, 26, 27, 28] (by decide +kernel) (by decide +kernel)
set_option maxRecDepth 20000 in
theorem gX0_isBetter_X0_priceOf : GoodIn wsX0_isBetter (wsV RX0 32 RX0 yX0_priceOf wsX0_priceOf) := goodIn_app (goodIn_of _ (by decide +kernel)) ggX0_isBetter_X0_priceOf
set_option maxRecDepth 20000 in
theorem ggX0_isBetter_J6_compare_7cf53 : GoodIn wsX0_isBetter wsJ6_compare_7cf53 := goodIn_r _ [14] (by decide +kernel) (by decide +kernel)
set_option maxRecDepth 20000 in
theorem gX0_isBetter_J6_compare_7cf53 : GoodIn wsX0_isBetter (va_wsS RX0 36 yJ6_compare_7cf53 wsJ6_compare_7cf53) := goodIn_app (goodIn_of _ (by decide +kernel)) ggX0_isBetter_J6_compare_7cf53
set_option maxRecDepth 20000 in
theorem ggX0_isBetter_J6_bitCount_0f7a4 : GoodIn wsX0_isBetter wsJ6_bitCount_0f7a4 := goodIn_r _ [17, 18, 19, 20] (by decide +kernel) (by decide +kernel)
set_option maxRecDepth 20000 in
theorem gX0_isBetter_J6_bitCount_0f7a4 : GoodIn wsX0_isBetter (va_wsS RX0 42 yJ6_bitCount_0f7a4 wsJ6_bitCount_0f7a4) := goodIn_app (goodIn_of _ (by decide +kernel)) ggX0_isBetter_J6_bitCount_0f7a4
set_option maxRecDepth 20000 in
theorem ggX0_isBetter_J6_lowestOneBit_0f7a4 : GoodIn wsX0_isBetter wsJ6_lowestOneBit_0f7a4 := goodIn_r _ [23] (by decide +kernel) (by decide +kernel)
set_option maxRecDepth 20000 in
theorem gX0_isBetter_J6_lowestOneBit_0f7a4 : GoodIn wsX0_isBetter (va_wsS RX0 45 yJ6_lowestOneBit_0f7a4 wsJ6_lowestOneBit_0f7a4) := goodIn_app (goodIn_of _ (by decide +kernel)) ggX0_isBetter_J6_lowestOneBit_0f7a4
theorem dX0_isBetter_0 : decode cX0_isBetter 0 = .ok (.aload_n 0, 1) := by decide +kernel
theorem dX0_isBetter_1 : decode cX0_isBetter 1 = .ok (.iload_n 1, 1) := by decide +kernel
theorem dX0_isBetter_2 : decode cX0_isBetter 2 = .ok (.invokevirtual 32, 3) := by decide +kernel
theorem dX0_isBetter_5 : decode cX0_isBetter 5 = .ok (.aload_n 0, 1) := by decide +kernel
theorem dX0_isBetter_6 : decode cX0_isBetter 6 = .ok (.iload_n 2, 1) := by decide +kernel
theorem dX0_isBetter_7 : decode cX0_isBetter 7 = .ok (.invokevirtual 32, 3) := by decide +kernel
theorem dX0_isBetter_10 : decode cX0_isBetter 10 = .ok (.invokestatic 36, 3) := by decide +kernel
theorem dX0_isBetter_13 : decode cX0_isBetter 13 = .ok (.istore_n 3, 1) := by decide +kernel
theorem dX0_isBetter_14 : decode cX0_isBetter 14 = .ok (.iload_n 3, 1) := by decide +kernel
theorem dX0_isBetter_15 : decode cX0_isBetter 15 = .ok (.ifCond .eq 13, 3) := by decide +kernel
theorem dX0_isBetter_18 : decode cX0_isBetter 18 = .ok (.iload_n 3, 1) := by decide +kernel
theorem dX0_isBetter_19 : decode cX0_isBetter 19 = .ok (.ifCond .ge 7, 3) := by decide +kernel
theorem dX0_isBetter_22 : decode cX0_isBetter 22 = .ok (.iconst 1, 1) := by decide +kernel
theorem dX0_isBetter_23 : decode cX0_isBetter 23 = .ok (.goto 4, 3) := by decide +kernel
theorem dX0_isBetter_26 : decode cX0_isBetter 26 = .ok (.iconst 0, 1) := by decide +kernel
theorem dX0_isBetter_27 : decode cX0_isBetter 27 = .ok (.ireturn, 1) := by decide +kernel
theorem dX0_isBetter_28 : decode cX0_isBetter 28 = .ok (.iload_n 1, 1) := by decide +kernel
theorem dX0_isBetter_29 : decode cX0_isBetter 29 = .ok (.invokestatic 42, 3) := by decide +kernel
theorem dX0_isBetter_32 : decode cX0_isBetter 32 = .ok (.iload_n 2, 1) := by decide +kernel
theorem dX0_isBetter_33 : decode cX0_isBetter 33 = .ok (.invokestatic 42, 3) := by decide +kernel
theorem dX0_isBetter_36 : decode cX0_isBetter 36 = .ok (.invokestatic 36, 3) := by decide +kernel
theorem dX0_isBetter_39 : decode cX0_isBetter 39 = .ok (.istore 4, 2) := by decide +kernel
theorem dX0_isBetter_41 : decode cX0_isBetter 41 = .ok (.iload 4, 2) := by decide +kernel
theorem dX0_isBetter_43 : decode cX0_isBetter 43 = .ok (.ifCond .eq 14, 3) := by decide +kernel
theorem dX0_isBetter_46 : decode cX0_isBetter 46 = .ok (.iload 4, 2) := by decide +kernel
theorem dX0_isBetter_48 : decode cX0_isBetter 48 = .ok (.ifCond .ge 7, 3) := by decide +kernel
theorem dX0_isBetter_51 : decode cX0_isBetter 51 = .ok (.iconst 1, 1) := by decide +kernel
theorem dX0_isBetter_52 : decode cX0_isBetter 52 = .ok (.goto 4, 3) := by decide +kernel
theorem dX0_isBetter_55 : decode cX0_isBetter 55 = .ok (.iconst 0, 1) := by decide +kernel
theorem dX0_isBetter_56 : decode cX0_isBetter 56 = .ok (.ireturn, 1) := by decide +kernel
theorem dX0_isBetter_57 : decode cX0_isBetter 57 = .ok (.iload_n 1, 1) := by decide +kernel

section
-- ===== PART A: goes FIRST, ahead of the names: the tables' words, and 'selects' of the private methods out of them =====
/-- a private method of a class that the tables say can be made, by its rows of tables_1 -/
def lw_okq (q : MethodName × Nat) : Prop := (q.1.cls ≠ "java/lang/invoke/MethodHandle" ∧ q.1.cls ≠ "java/lang/invoke/VarHandle") ∧ Cond.instantiable q.1.cls q.2 ∈ tables_1 ∧ Cond.privateMethod q.1 ∈ tables_1 ∧ Cond.instanceMethod q.1 ∈ tables_1
theorem lw_p0 : lw_okq (⟨"TermsDesk$Joins", "sortJoins", "()V"⟩, 9) := ⟨⟨by decide +kernel, by decide +kernel⟩, List.mem_of_getElem? (i := 87) (by decide +kernel), List.mem_of_getElem? (i := 373) (by decide +kernel), List.mem_of_getElem? (i := 374) (by decide +kernel)⟩
theorem lw_p1 : lw_okq (⟨"TermsDesk$Joins", "orderParts", "()V"⟩, 9) := ⟨⟨by decide +kernel, by decide +kernel⟩, List.mem_of_getElem? (i := 87) (by decide +kernel), List.mem_of_getElem? (i := 377) (by decide +kernel), List.mem_of_getElem? (i := 378) (by decide +kernel)⟩
theorem lw_p2 : lw_okq (⟨"TermsDesk$Joins", "directlyIn", "(I)I"⟩, 9) := ⟨⟨by decide +kernel, by decide +kernel⟩, List.mem_of_getElem? (i := 87) (by decide +kernel), List.mem_of_getElem? (i := 381) (by decide +kernel), List.mem_of_getElem? (i := 382) (by decide +kernel)⟩
theorem lw_p3 : lw_okq (⟨"TermsDesk$Chooser", "lineUp", "(I)V"⟩, 10) := ⟨⟨by decide +kernel, by decide +kernel⟩, List.mem_of_getElem? (i := 192) (by decide +kernel), List.mem_of_getElem? (i := 485) (by decide +kernel), List.mem_of_getElem? (i := 486) (by decide +kernel)⟩
theorem lw_p4 : lw_okq (⟨"TermsDesk$Chooser", "settle", "(II)I"⟩, 10) := ⟨⟨by decide +kernel, by decide +kernel⟩, List.mem_of_getElem? (i := 192) (by decide +kernel), List.mem_of_getElem? (i := 491) (by decide +kernel), List.mem_of_getElem? (i := 492) (by decide +kernel)⟩
theorem lw_p5 : lw_okq (⟨"TermsDesk$Chooser", "keepIfBetter", "()V"⟩, 10) := ⟨⟨by decide +kernel, by decide +kernel⟩, List.mem_of_getElem? (i := 192) (by decide +kernel), List.mem_of_getElem? (i := 500) (by decide +kernel), List.mem_of_getElem? (i := 501) (by decide +kernel)⟩
theorem lw_p6 : lw_okq (⟨"TermsDesk$Chooser", "isBetter", "(II)Z"⟩, 10) := ⟨⟨by decide +kernel, by decide +kernel⟩, List.mem_of_getElem? (i := 192) (by decide +kernel), List.mem_of_getElem? (i := 504) (by decide +kernel), List.mem_of_getElem? (i := 505) (by decide +kernel)⟩
theorem lw_p7 : lw_okq (⟨"TermsDesk$Chooser", "advance", "(I)I"⟩, 10) := ⟨⟨by decide +kernel, by decide +kernel⟩, List.mem_of_getElem? (i := 192) (by decide +kernel), List.mem_of_getElem? (i := 514) (by decide +kernel), List.mem_of_getElem? (i := 515) (by decide +kernel)⟩
theorem lw_p8 : lw_okq (⟨"TermsDesk$Chooser", "takeKept", "()V"⟩, 10) := ⟨⟨by decide +kernel, by decide +kernel⟩, List.mem_of_getElem? (i := 192) (by decide +kernel), List.mem_of_getElem? (i := 518) (by decide +kernel), List.mem_of_getElem? (i := 519) (by decide +kernel)⟩
theorem lw_p9 : lw_okq (⟨"TermsDesk$Mender", "endsQuarrels", "(II)Z"⟩, 5) := ⟨⟨by decide +kernel, by decide +kernel⟩, List.mem_of_getElem? (i := 229) (by decide +kernel), List.mem_of_getElem? (i := 551) (by decide +kernel), List.mem_of_getElem? (i := 552) (by decide +kernel)⟩
theorem lw_p10 : lw_okq (⟨"TermsDesk$Tracer", "measure", "(II)V"⟩, 5) := ⟨⟨by decide +kernel, by decide +kernel⟩, List.mem_of_getElem? (i := 251) (by decide +kernel), List.mem_of_getElem? (i := 573) (by decide +kernel), List.mem_of_getElem? (i := 574) (by decide +kernel)⟩
theorem lw_p11 : lw_okq (⟨"TermsDesk$Tracer", "measureInto", "(II)V"⟩, 5) := ⟨⟨by decide +kernel, by decide +kernel⟩, List.mem_of_getElem? (i := 251) (by decide +kernel), List.mem_of_getElem? (i := 577) (by decide +kernel), List.mem_of_getElem? (i := 578) (by decide +kernel)⟩
theorem lw_p12 : lw_okq (⟨"TermsDesk$Tracer", "goes", "(II)Z"⟩, 5) := ⟨⟨by decide +kernel, by decide +kernel⟩, List.mem_of_getElem? (i := 251) (by decide +kernel), List.mem_of_getElem? (i := 581) (by decide +kernel), List.mem_of_getElem? (i := 582) (by decide +kernel)⟩
theorem lw_p13 : lw_okq (⟨"TermsDesk$Tracer", "source", "(II)I"⟩, 5) := ⟨⟨by decide +kernel, by decide +kernel⟩, List.mem_of_getElem? (i := 251) (by decide +kernel), List.mem_of_getElem? (i := 586) (by decide +kernel), List.mem_of_getElem? (i := 587) (by decide +kernel)⟩
theorem lw_p14 : lw_okq (⟨"TermsDesk$Tracer", "brings", "(III)Z"⟩, 5) := ⟨⟨by decide +kernel, by decide +kernel⟩, List.mem_of_getElem? (i := 251) (by decide +kernel), List.mem_of_getElem? (i := 590) (by decide +kernel), List.mem_of_getElem? (i := 591) (by decide +kernel)⟩
theorem lw_p15 : lw_okq (⟨"TermsDesk$Tracer", "next", "(II)I"⟩, 5) := ⟨⟨by decide +kernel, by decide +kernel⟩, List.mem_of_getElem? (i := 251) (by decide +kernel), List.mem_of_getElem? (i := 595) (by decide +kernel), List.mem_of_getElem? (i := 596) (by decide +kernel)⟩
def lw_privs_1 : List (MethodName × Nat) := [(⟨"TermsDesk$Joins", "sortJoins", "()V"⟩, 9), (⟨"TermsDesk$Joins", "orderParts", "()V"⟩, 9), (⟨"TermsDesk$Joins", "directlyIn", "(I)I"⟩, 9), (⟨"TermsDesk$Chooser", "lineUp", "(I)V"⟩, 10), (⟨"TermsDesk$Chooser", "settle", "(II)I"⟩, 10), (⟨"TermsDesk$Chooser", "keepIfBetter", "()V"⟩, 10), (⟨"TermsDesk$Chooser", "isBetter", "(II)Z"⟩, 10), (⟨"TermsDesk$Chooser", "advance", "(I)I"⟩, 10), (⟨"TermsDesk$Chooser", "takeKept", "()V"⟩, 10), (⟨"TermsDesk$Mender", "endsQuarrels", "(II)Z"⟩, 5), (⟨"TermsDesk$Tracer", "measure", "(II)V"⟩, 5), (⟨"TermsDesk$Tracer", "measureInto", "(II)V"⟩, 5), (⟨"TermsDesk$Tracer", "goes", "(II)Z"⟩, 5), (⟨"TermsDesk$Tracer", "source", "(II)I"⟩, 5), (⟨"TermsDesk$Tracer", "brings", "(III)Z"⟩, 5), (⟨"TermsDesk$Tracer", "next", "(II)I"⟩, 5)]
theorem lw_r1 : ∀ q ∈ lw_privs_1, lw_okq q := List.forall_mem_cons.mpr ⟨lw_p0, List.forall_mem_cons.mpr ⟨lw_p1, List.forall_mem_cons.mpr ⟨lw_p2, List.forall_mem_cons.mpr ⟨lw_p3, List.forall_mem_cons.mpr ⟨lw_p4, List.forall_mem_cons.mpr ⟨lw_p5, List.forall_mem_cons.mpr ⟨lw_p6, List.forall_mem_cons.mpr ⟨lw_p7, List.forall_mem_cons.mpr ⟨lw_p8, List.forall_mem_cons.mpr ⟨lw_p9, List.forall_mem_cons.mpr ⟨lw_p10, List.forall_mem_cons.mpr ⟨lw_p11, List.forall_mem_cons.mpr ⟨lw_p12, List.forall_mem_cons.mpr ⟨lw_p13, List.forall_mem_cons.mpr ⟨lw_p14, List.forall_mem_cons.mpr ⟨lw_p15, fun _ h => absurd h List.not_mem_nil⟩⟩⟩⟩⟩⟩⟩⟩⟩⟩⟩⟩⟩⟩⟩⟩
theorem lw_p16 : lw_okq (⟨"TermsDesk", "choiceOrNone", "(II)I"⟩, 8) := ⟨⟨by decide +kernel, by decide +kernel⟩, List.mem_of_getElem? (i := 16) (by decide +kernel), List.mem_of_getElem? (i := 635) (by decide +kernel), List.mem_of_getElem? (i := 636) (by decide +kernel)⟩
theorem lw_p17 : lw_okq (⟨"TermsDeskModel", "isPart", "(I)Z"⟩, 30) := ⟨⟨by decide +kernel, by decide +kernel⟩, List.mem_of_getElem? (i := 645) (by decide +kernel), List.mem_of_getElem? (i := 769) (by decide +kernel), List.mem_of_getElem? (i := 770) (by decide +kernel)⟩
theorem lw_p18 : lw_okq (⟨"TermsDeskModel", "asItIs", "()V"⟩, 30) := ⟨⟨by decide +kernel, by decide +kernel⟩, List.mem_of_getElem? (i := 645) (by decide +kernel), List.mem_of_getElem? (i := 777) (by decide +kernel), List.mem_of_getElem? (i := 778) (by decide +kernel)⟩
theorem lw_p19 : lw_okq (⟨"TermsDeskModel", "reaches", "(I)V"⟩, 30) := ⟨⟨by decide +kernel, by decide +kernel⟩, List.mem_of_getElem? (i := 645) (by decide +kernel), List.mem_of_getElem? (i := 781) (by decide +kernel), List.mem_of_getElem? (i := 782) (by decide +kernel)⟩
theorem lw_p20 : lw_okq (⟨"TermsDeskModel", "works", "(I)V"⟩, 30) := ⟨⟨by decide +kernel, by decide +kernel⟩, List.mem_of_getElem? (i := 645) (by decide +kernel), List.mem_of_getElem? (i := 809) (by decide +kernel), List.mem_of_getElem? (i := 810) (by decide +kernel)⟩
theorem lw_p21 : lw_okq (⟨"TermsDeskModel", "orders", "()V"⟩, 30) := ⟨⟨by decide +kernel, by decide +kernel⟩, List.mem_of_getElem? (i := 645) (by decide +kernel), List.mem_of_getElem? (i := 813) (by decide +kernel), List.mem_of_getElem? (i := 814) (by decide +kernel)⟩
theorem lw_p22 : lw_okq (⟨"TermsDeskModel", "comes", "(I)V"⟩, 30) := ⟨⟨by decide +kernel, by decide +kernel⟩, List.mem_of_getElem? (i := 645) (by decide +kernel), List.mem_of_getElem? (i := 817) (by decide +kernel), List.mem_of_getElem? (i := 818) (by decide +kernel)⟩
theorem lw_p23 : lw_okq (⟨"TermsDeskModel", "brings", "(II)J"⟩, 30) := ⟨⟨by decide +kernel, by decide +kernel⟩, List.mem_of_getElem? (i := 645) (by decide +kernel), List.mem_of_getElem? (i := 821) (by decide +kernel), List.mem_of_getElem? (i := 822) (by decide +kernel)⟩
theorem lw_p24 : lw_okq (⟨"TermsDeskModel", "quarrelsNow", "()I"⟩, 30) := ⟨⟨by decide +kernel, by decide +kernel⟩, List.mem_of_getElem? (i := 645) (by decide +kernel), List.mem_of_getElem? (i := 830) (by decide +kernel), List.mem_of_getElem? (i := 831) (by decide +kernel)⟩
theorem lw_p25 : lw_okq (⟨"TermsDeskModel", "bars", "(I)J"⟩, 30) := ⟨⟨by decide +kernel, by decide +kernel⟩, List.mem_of_getElem? (i := 645) (by decide +kernel), List.mem_of_getElem? (i := 834) (by decide +kernel), List.mem_of_getElem? (i := 835) (by decide +kernel)⟩
theorem lw_p26 : lw_okq (⟨"TermsDeskModel", "ways", "()I"⟩, 30) := ⟨⟨by decide +kernel, by decide +kernel⟩, List.mem_of_getElem? (i := 645) (by decide +kernel), List.mem_of_getElem? (i := 849) (by decide +kernel), List.mem_of_getElem? (i := 850) (by decide +kernel)⟩
theorem lw_p27 : lw_okq (⟨"TermsDeskModel", "priceOf", "(I)I"⟩, 30) := ⟨⟨by decide +kernel, by decide +kernel⟩, List.mem_of_getElem? (i := 645) (by decide +kernel), List.mem_of_getElem? (i := 858) (by decide +kernel), List.mem_of_getElem? (i := 859) (by decide +kernel)⟩
theorem lw_p28 : lw_okq (⟨"TermsDeskModel", "quarrelsWith", "(II)I"⟩, 30) := ⟨⟨by decide +kernel, by decide +kernel⟩, List.mem_of_getElem? (i := 645) (by decide +kernel), List.mem_of_getElem? (i := 869) (by decide +kernel), List.mem_of_getElem? (i := 870) (by decide +kernel)⟩
theorem lw_p29 : lw_okq (⟨"TermsDeskModel", "measures", "(III)V"⟩, 30) := ⟨⟨by decide +kernel, by decide +kernel⟩, List.mem_of_getElem? (i := 645) (by decide +kernel), List.mem_of_getElem? (i := 877) (by decide +kernel), List.mem_of_getElem? (i := 878) (by decide +kernel)⟩
theorem lw_p30 : lw_okq (⟨"TermsDeskModel", "hasBrought", "(IIII)Z"⟩, 30) := ⟨⟨by decide +kernel, by decide +kernel⟩, List.mem_of_getElem? (i := 645) (by decide +kernel), List.mem_of_getElem? (i := 881) (by decide +kernel), List.mem_of_getElem? (i := 882) (by decide +kernel)⟩
def lw_privs_2 : List (MethodName × Nat) := [(⟨"TermsDesk", "choiceOrNone", "(II)I"⟩, 8), (⟨"TermsDeskModel", "isPart", "(I)Z"⟩, 30), (⟨"TermsDeskModel", "asItIs", "()V"⟩, 30), (⟨"TermsDeskModel", "reaches", "(I)V"⟩, 30), (⟨"TermsDeskModel", "works", "(I)V"⟩, 30), (⟨"TermsDeskModel", "orders", "()V"⟩, 30), (⟨"TermsDeskModel", "comes", "(I)V"⟩, 30), (⟨"TermsDeskModel", "brings", "(II)J"⟩, 30), (⟨"TermsDeskModel", "quarrelsNow", "()I"⟩, 30), (⟨"TermsDeskModel", "bars", "(I)J"⟩, 30), (⟨"TermsDeskModel", "ways", "()I"⟩, 30), (⟨"TermsDeskModel", "priceOf", "(I)I"⟩, 30), (⟨"TermsDeskModel", "quarrelsWith", "(II)I"⟩, 30), (⟨"TermsDeskModel", "measures", "(III)V"⟩, 30), (⟨"TermsDeskModel", "hasBrought", "(IIII)Z"⟩, 30)]
theorem lw_r2 : ∀ q ∈ lw_privs_2, lw_okq q := List.forall_mem_cons.mpr ⟨lw_p16, List.forall_mem_cons.mpr ⟨lw_p17, List.forall_mem_cons.mpr ⟨lw_p18, List.forall_mem_cons.mpr ⟨lw_p19, List.forall_mem_cons.mpr ⟨lw_p20, List.forall_mem_cons.mpr ⟨lw_p21, List.forall_mem_cons.mpr ⟨lw_p22, List.forall_mem_cons.mpr ⟨lw_p23, List.forall_mem_cons.mpr ⟨lw_p24, List.forall_mem_cons.mpr ⟨lw_p25, List.forall_mem_cons.mpr ⟨lw_p26, List.forall_mem_cons.mpr ⟨lw_p27, List.forall_mem_cons.mpr ⟨lw_p28, List.forall_mem_cons.mpr ⟨lw_p29, List.forall_mem_cons.mpr ⟨lw_p30, fun _ h => absurd h List.not_mem_nil⟩⟩⟩⟩⟩⟩⟩⟩⟩⟩⟩⟩⟩⟩⟩
def lw_privs : List (MethodName × Nat) := lw_privs_1 ++ (lw_privs_2)
def lw_tbl : List Cond := k2_sels lw_privs ++ tables_1
theorem lw_privs_ok : ∀ q ∈ lw_privs, lw_okq q := by
  show ∀ q ∈ lw_privs_1 ++ (lw_privs_2), lw_okq q
  exact List.forall_mem_append.mpr ⟨lw_r1, lw_r2⟩
end
section
/-! ===== BEGIN words of one list among another's, by their places ===== -/
theorem goodIn_r {big : List Cond} (ws : List Cond) (ps : List Nat) (hp : ws = ps.filterMap (fun i => big[i]?)) (h : ws.all goodWord = true) : GoodIn big ws := by
  intro w hw
  have h1 := List.all_eq_true.mp h w hw
  rw [hp] at hw
  obtain ⟨i, -, hi⟩ := List.mem_filterMap.mp hw
  have hm : w ∈ big := by first | exact List.mem_of_getElem? hi | exact List.getElem?_mem hi
  exact ⟨hm, good_of_word h1⟩
theorem goodIn_app {big a b : List Cond} (ha : GoodIn big a) (hb : GoodIn big b) : GoodIn big (a ++ b) := fun w h => (List.mem_append.mp h).elim (ha w) (hb w)
theorem goodIn_ca {big a b : List Cond} {c : Cond} (ha : GoodIn big (c :: a)) (hb : GoodIn big b) : GoodIn big (c :: (a ++ b)) := fun w h => (List.mem_cons.mp h).elim (fun e => ha w (List.mem_cons.mpr (Or.inl e))) (fun h => (List.mem_append.mp h).elim (fun h => ha w (List.mem_cons.mpr (Or.inr h))) (hb w))
theorem goodIn_sub {big ws : List Cond} (hm : ∀ w ∈ ws, w ∈ big) (h : ws.all goodWord = true) : GoodIn big ws := fun w hw => ⟨hm w hw, good_of_word (List.all_eq_true.mp h w hw)⟩
/-! ===== END ===== -/

/-! ===== BEGIN printed: names, fields, word lists, decode rows ===== -/
def RX0 : String := "TermsDesk$Changes"
def TX0 : u_T := fun k => match k with
  | 0 => ("TermsDesk$Changes", "what", "[I", true)
  | 1 => ("TermsDesk$Changes", "which", "[I", true)
  | 2 => ("TermsDesk$Changes", "licence", "[I", true)
  | 3 => ("TermsDesk$Changes", "cost", "[I", true)
  | _ => ("TermsDesk$Changes", "told", "I", false)
def tyX0 : Nat → FieldType := fun k => match k with
  | 0 => .array .int
  | 1 => .array .int
  | 2 => .array .int
  | 3 => .array .int
  | _ => .int
abbrev wsX00 : List Cond := u_ws RX0 TX0 5
theorem nmX0 : ∀ a, a < 5 → ∀ b, b < 5 → a ≠ b → (TX0 a).2.1 ≠ (TX0 b).2.1 := by decide +kernel
theorem tyX0_ok : ∀ k, k < 5 → parseFieldDescriptor (TX0 k).2.2.1 = some (tyX0 k) := by decide +kernel
abbrev cX0_init : ByteArray := prog_2_method_1_code
def yX0_init : MethodName := ⟨RX0, "<init>", "()V"⟩
abbrev cX0_add : ByteArray := prog_2_method_2_code
def yX0_add : MethodName := ⟨RX0, "add", "(IIII)I"⟩
abbrev cX0_priceOf : ByteArray := prog_2_method_3_code
def yX0_priceOf : MethodName := ⟨RX0, "priceOf", "(I)I"⟩
abbrev cX0_isBetter : ByteArray := prog_2_method_4_code
def yX0_isBetter : MethodName := ⟨RX0, "isBetter", "(II)Z"⟩
def RX1 : String := "TermsDesk$Chooser"
def TX1 : u_T := fun k => match k with
  | 0 => ("TermsDesk$Chooser", "parts", "LTermsDesk$Parts;", true)
  | 1 => ("TermsDesk$Chooser", "joins", "LTermsDesk$Joins;", true)
  | 2 => ("TermsDesk$Chooser", "flow", "LTermsDesk$Flow;", true)
  | 3 => ("TermsDesk$Chooser", "line", "[I", true)
  | 4 => ("TermsDesk$Chooser", "length", "I", false)
  | 5 => ("TermsDesk$Chooser", "place", "[I", true)
  | 6 => ("TermsDesk$Chooser", "bestPlace", "[I", true)
  | 7 => ("TermsDesk$Chooser", "quarrelsBefore", "[I", true)
  | 8 => ("TermsDesk$Chooser", "bestQuarrels", "I", false)
  | _ => ("TermsDesk$Chooser", "bestPairs", "I", false)
def tyX1 : Nat → FieldType := fun k => match k with
  | 0 => .object "TermsDesk$Parts"
  | 1 => .object "TermsDesk$Joins"
  | 2 => .object "TermsDesk$Flow"
  | 3 => .array .int
  | 4 => .int
  | 5 => .array .int
  | 6 => .array .int
  | 7 => .array .int
  | 8 => .int
  | _ => .int
abbrev wsX10 : List Cond := u_ws RX1 TX1 10
theorem nmX1 : ∀ a, a < 10 → ∀ b, b < 10 → a ≠ b → (TX1 a).2.1 ≠ (TX1 b).2.1 := by decide +kernel
theorem tyX1_ok : ∀ k, k < 10 → parseFieldDescriptor (TX1 k).2.2.1 = some (tyX1 k) := by decide +kernel
abbrev cX1_init : ByteArray := prog_3_method_1_code
def yX1_init : MethodName := ⟨RX1, "<init>", "(LTermsDesk$Parts;LTermsDesk$Joins;LTermsDesk$Flow;)V"⟩
abbrev cX1_takeBest : ByteArray := prog_3_method_2_code
def yX1_takeBest : MethodName := ⟨RX1, "takeBest", "(I)I"⟩
abbrev cX1_lineUp : ByteArray := prog_3_method_3_code
def yX1_lineUp : MethodName := ⟨RX1, "lineUp", "(I)V"⟩
abbrev cX1_settle : ByteArray := prog_3_method_4_code
def yX1_settle : MethodName := ⟨RX1, "settle", "(II)I"⟩
abbrev cX1_advance : ByteArray := prog_3_method_5_code
def yX1_advance : MethodName := ⟨RX1, "advance", "(I)I"⟩
abbrev cX1_keepIfBetter : ByteArray := prog_3_method_6_code
def yX1_keepIfBetter : MethodName := ⟨RX1, "keepIfBetter", "()V"⟩
abbrev cX1_isBetter : ByteArray := prog_3_method_7_code
def yX1_isBetter : MethodName := ⟨RX1, "isBetter", "(II)Z"⟩
abbrev cX1_takeKept : ByteArray := prog_3_method_8_code
def yX1_takeKept : MethodName := ⟨RX1, "takeKept", "()V"⟩
def RX2 : String := "TermsDesk$Flow"
def TX2 : u_T := fun k => match k with
  | 0 => ("TermsDesk$Flow", "terms", "LTermsDesk$Terms;", true)
  | 1 => ("TermsDesk$Flow", "parts", "LTermsDesk$Parts;", true)
  | 2 => ("TermsDesk$Flow", "joins", "LTermsDesk$Joins;", true)
  | 3 => ("TermsDesk$Flow", "arrived", "[J", true)
  | _ => ("TermsDesk$Flow", "earlier", "[J", true)
def tyX2 : Nat → FieldType := fun k => match k with
  | 0 => .object "TermsDesk$Terms"
  | 1 => .object "TermsDesk$Parts"
  | 2 => .object "TermsDesk$Joins"
  | 3 => .array .long
  | _ => .array .long
abbrev wsX20 : List Cond := u_ws RX2 TX2 5
theorem nmX2 : ∀ a, a < 5 → ∀ b, b < 5 → a ≠ b → (TX2 a).2.1 ≠ (TX2 b).2.1 := by decide +kernel
theorem tyX2_ok : ∀ k, k < 5 → parseFieldDescriptor (TX2 k).2.2.1 = some (tyX2 k) := by decide +kernel
abbrev cX2_init : ByteArray := prog_4_method_1_code
def yX2_init : MethodName := ⟨RX2, "<init>", "(LTermsDesk$Terms;LTermsDesk$Parts;LTermsDesk$Joins;)V"⟩
abbrev cX2_brought : ByteArray := prog_4_method_2_code
def yX2_brought : MethodName := ⟨RX2, "brought", "(III)J"⟩
abbrev cX2_run : ByteArray := prog_4_method_3_code
def yX2_run : MethodName := ⟨RX2, "run", "(I[IJ)V"⟩
abbrev cX2_arrive : ByteArray := prog_4_method_4_code
def yX2_arrive : MethodName := ⟨RX2, "arrive", "(IJJ)V"⟩
abbrev cX2_foughtAt : ByteArray := prog_4_method_5_code
def yX2_foughtAt : MethodName := ⟨RX2, "foughtAt", "(II)J"⟩
abbrev cX2_ofProduct : ByteArray := prog_4_method_6_code
def yX2_ofProduct : MethodName := ⟨RX2, "ofProduct", "(J)I"⟩
abbrev cX2_quarrelCount : ByteArray := prog_4_method_7_code
def yX2_quarrelCount : MethodName := ⟨RX2, "quarrelCount", "([IJ)I"⟩
abbrev cX2_quarrelAt : ByteArray := prog_4_method_8_code
def yX2_quarrelAt : MethodName := ⟨RX2, "quarrelAt", "(I)I"⟩
abbrev cX2_pairAt : ByteArray := prog_4_method_9_code
def yX2_pairAt : MethodName := ⟨RX2, "pairAt", "(JI)I"⟩
abbrev cX2_unlike : ByteArray := prog_4_method_10_code
def yX2_unlike : MethodName := ⟨RX2, "unlike", "(II)I"⟩
abbrev cX2_wayCount : ByteArray := prog_4_method_11_code
def yX2_wayCount : MethodName := ⟨RX2, "wayCount", "()I"⟩
def RX3 : String := "TermsDesk$Joins"
def TX3 : u_T := fun k => match k with
  | 0 => ("TermsDesk$Joins", "from", "[I", true)
  | 1 => ("TermsDesk$Joins", "to", "[I", true)
  | 2 => ("TermsDesk$Joins", "kind", "[I", true)
  | 3 => ("TermsDesk$Joins", "told", "I", false)
  | 4 => ("TermsDesk$Joins", "there", "J", false)
  | 5 => ("TermsDesk$Joins", "order", "[I", true)
  | 6 => ("TermsDesk$Joins", "sorted", "[I", true)
  | 7 => ("TermsDesk$Joins", "begin", "[I", true)
  | _ => ("TermsDesk$Joins", "end", "[I", true)
def tyX3 : Nat → FieldType := fun k => match k with
  | 0 => .array .int
  | 1 => .array .int
  | 2 => .array .int
  | 3 => .int
  | 4 => .long
  | 5 => .array .int
  | 6 => .array .int
  | 7 => .array .int
  | _ => .array .int
abbrev wsX30 : List Cond := u_ws RX3 TX3 9
theorem nmX3 : ∀ a, a < 9 → ∀ b, b < 9 → a ≠ b → (TX3 a).2.1 ≠ (TX3 b).2.1 := by decide +kernel
theorem tyX3_ok : ∀ k, k < 9 → parseFieldDescriptor (TX3 k).2.2.1 = some (tyX3 k) := by decide +kernel
abbrev cX3_init : ByteArray := prog_5_method_1_code
def yX3_init : MethodName := ⟨RX3, "<init>", "()V"⟩
abbrev cX3_isThere : ByteArray := prog_5_method_2_code
def yX3_isThere : MethodName := ⟨RX3, "isThere", "(I)Z"⟩
abbrev cX3_leads : ByteArray := prog_5_method_3_code
def yX3_leads : MethodName := ⟨RX3, "leads", "(II)Z"⟩
abbrev cX3_add : ByteArray := prog_5_method_4_code
def yX3_add : MethodName := ⟨RX3, "add", "(III)I"⟩
abbrev cX3_remove : ByteArray := prog_5_method_5_code
def yX3_remove : MethodName := ⟨RX3, "remove", "(I)V"⟩
abbrev cX3_sortJoins : ByteArray := prog_5_method_6_code
def yX3_sortJoins : MethodName := ⟨RX3, "sortJoins", "()V"⟩
abbrev cX3_orderParts : ByteArray := prog_5_method_7_code
def yX3_orderParts : MethodName := ⟨RX3, "orderParts", "()V"⟩
abbrev cX3_directlyIn : ByteArray := prog_5_method_8_code
def yX3_directlyIn : MethodName := ⟨RX3, "directlyIn", "(I)I"⟩
abbrev cX3_allIn : ByteArray := prog_5_method_9_code
def yX3_allIn : MethodName := ⟨RX3, "allIn", "(IJ)I"⟩
abbrev cX3_countInto : ByteArray := prog_5_method_10_code
def yX3_countInto : MethodName := ⟨RX3, "countInto", "(I)I"⟩
abbrev cX3_countOutOf : ByteArray := prog_5_method_11_code
def yX3_countOutOf : MethodName := ⟨RX3, "countOutOf", "(I)I"⟩
def RX4 : String := "TermsDesk$Mender"
def TX4 : u_T := fun k => match k with
  | 0 => ("TermsDesk$Mender", "parts", "LTermsDesk$Parts;", true)
  | 1 => ("TermsDesk$Mender", "joins", "LTermsDesk$Joins;", true)
  | 2 => ("TermsDesk$Mender", "changes", "LTermsDesk$Changes;", true)
  | 3 => ("TermsDesk$Mender", "flow", "LTermsDesk$Flow;", true)
  | _ => ("TermsDesk$Mender", "licence", "[I", true)
def tyX4 : Nat → FieldType := fun k => match k with
  | 0 => .object "TermsDesk$Parts"
  | 1 => .object "TermsDesk$Joins"
  | 2 => .object "TermsDesk$Changes"
  | 3 => .object "TermsDesk$Flow"
  | _ => .array .int
abbrev wsX40 : List Cond := u_ws RX4 TX4 5
theorem nmX4 : ∀ a, a < 5 → ∀ b, b < 5 → a ≠ b → (TX4 a).2.1 ≠ (TX4 b).2.1 := by decide +kernel
theorem tyX4_ok : ∀ k, k < 5 → parseFieldDescriptor (TX4 k).2.2.1 = some (tyX4 k) := by decide +kernel
abbrev cX4_init : ByteArray := prog_6_method_1_code
def yX4_init : MethodName := ⟨RX4, "<init>", "(LTermsDesk$Parts;LTermsDesk$Joins;LTermsDesk$Changes;LTermsDesk$Flow;)V"⟩
abbrev cX4_cheapestSet : ByteArray := prog_6_method_2_code
def yX4_cheapestSet : MethodName := ⟨RX4, "cheapestSet", "(I)I"⟩
abbrev cX4_endsQuarrels : ByteArray := prog_6_method_3_code
def yX4_endsQuarrels : MethodName := ⟨RX4, "endsQuarrels", "(II)Z"⟩
def RX5 : String := "TermsDesk$Parts"
def TX5 : u_T := fun k => match k with
  | 0 => ("TermsDesk$Parts", "choices", "[I", true)
  | 1 => ("TermsDesk$Parts", "choiceCount", "[I", true)
  | 2 => ("TermsDesk$Parts", "licence", "[I", true)
  | 3 => ("TermsDesk$Parts", "lifted", "[J", true)
  | 4 => ("TermsDesk$Parts", "told", "I", false)
  | _ => ("TermsDesk$Parts", "top", "I", false)
def tyX5 : Nat → FieldType := fun k => match k with
  | 0 => .array .int
  | 1 => .array .int
  | 2 => .array .int
  | 3 => .array .long
  | 4 => .int
  | _ => .int
abbrev wsX50 : List Cond := u_ws RX5 TX5 6
theorem nmX5 : ∀ a, a < 6 → ∀ b, b < 6 → a ≠ b → (TX5 a).2.1 ≠ (TX5 b).2.1 := by decide +kernel
theorem tyX5_ok : ∀ k, k < 6 → parseFieldDescriptor (TX5 k).2.2.1 = some (tyX5 k) := by decide +kernel
abbrev cX5_init : ByteArray := prog_7_method_1_code
def yX5_init : MethodName := ⟨RX5, "<init>", "()V"⟩
abbrev cX5_has : ByteArray := prog_7_method_2_code
def yX5_has : MethodName := ⟨RX5, "has", "(I)Z"⟩
abbrev cX5_choiceOf : ByteArray := prog_7_method_3_code
def yX5_choiceOf : MethodName := ⟨RX5, "choiceOf", "(II)I"⟩
abbrev cX5_add : ByteArray := prog_7_method_4_code
def yX5_add : MethodName := ⟨RX5, "add", "(III)I"⟩
def RX6 : String := "TermsDesk$Terms"
def TX6 : u_T := fun k => match k with
  | 0 => ("TermsDesk$Terms", "asked", "[J", true)
  | 1 => ("TermsDesk$Terms", "along", "[J", true)
  | _ => ("TermsDesk$Terms", "fought", "[J", true)
def tyX6 : Nat → FieldType := fun k => match k with
  | 0 => .array .long
  | 1 => .array .long
  | _ => .array .long
abbrev wsX60 : List Cond := u_ws RX6 TX6 3
theorem nmX6 : ∀ a, a < 3 → ∀ b, b < 3 → a ≠ b → (TX6 a).2.1 ≠ (TX6 b).2.1 := by decide +kernel
theorem tyX6_ok : ∀ k, k < 3 → parseFieldDescriptor (TX6 k).2.2.1 = some (tyX6 k) := by decide +kernel
abbrev cX6_init : ByteArray := prog_8_method_1_code
def yX6_init : MethodName := ⟨RX6, "<init>", "()V"⟩
abbrev cX6_tellAsk : ByteArray := prog_8_method_2_code
def yX6_tellAsk : MethodName := ⟨RX6, "tellAsk", "(III)V"⟩
abbrev cX6_spread : ByteArray := prog_8_method_3_code
def yX6_spread : MethodName := ⟨RX6, "spread", "([JII)V"⟩
abbrev cX6_tellBars : ByteArray := prog_8_method_4_code
def yX6_tellBars : MethodName := ⟨RX6, "tellBars", "(II)V"⟩
def RX7 : String := "TermsDesk$Tracer"
def TX7 : u_T := fun k => match k with
  | 0 => ("TermsDesk$Tracer", "terms", "LTermsDesk$Terms;", true)
  | 1 => ("TermsDesk$Tracer", "parts", "LTermsDesk$Parts;", true)
  | 2 => ("TermsDesk$Tracer", "joins", "LTermsDesk$Joins;", true)
  | 3 => ("TermsDesk$Tracer", "flow", "LTermsDesk$Flow;", true)
  | _ => ("TermsDesk$Tracer", "steps", "[I", true)
def tyX7 : Nat → FieldType := fun k => match k with
  | 0 => .object "TermsDesk$Terms"
  | 1 => .object "TermsDesk$Parts"
  | 2 => .object "TermsDesk$Joins"
  | 3 => .object "TermsDesk$Flow"
  | _ => .array .int
abbrev wsX70 : List Cond := u_ws RX7 TX7 5
theorem nmX7 : ∀ a, a < 5 → ∀ b, b < 5 → a ≠ b → (TX7 a).2.1 ≠ (TX7 b).2.1 := by decide +kernel
theorem tyX7_ok : ∀ k, k < 5 → parseFieldDescriptor (TX7 k).2.2.1 = some (tyX7 k) := by decide +kernel
abbrev cX7_init : ByteArray := prog_9_method_1_code
def yX7_init : MethodName := ⟨RX7, "<init>", "(LTermsDesk$Terms;LTermsDesk$Parts;LTermsDesk$Joins;LTermsDesk$Flow;)V"⟩
abbrev cX7_partOnWay : ByteArray := prog_9_method_2_code
def yX7_partOnWay : MethodName := ⟨RX7, "partOnWay", "(IIII)I"⟩
abbrev cX7_noticed : ByteArray := prog_9_method_3_code
def yX7_noticed : MethodName := ⟨RX7, "noticed", "(I)I"⟩
abbrev cX7_brings : ByteArray := prog_9_method_4_code
def yX7_brings : MethodName := ⟨RX7, "brings", "(III)Z"⟩
abbrev cX7_goes : ByteArray := prog_9_method_5_code
def yX7_goes : MethodName := ⟨RX7, "goes", "(II)Z"⟩
abbrev cX7_measure : ByteArray := prog_9_method_6_code
def yX7_measure : MethodName := ⟨RX7, "measure", "(II)V"⟩
abbrev cX7_measureInto : ByteArray := prog_9_method_7_code
def yX7_measureInto : MethodName := ⟨RX7, "measureInto", "(II)V"⟩
abbrev cX7_source : ByteArray := prog_9_method_8_code
def yX7_source : MethodName := ⟨RX7, "source", "(II)I"⟩
abbrev cX7_next : ByteArray := prog_9_method_9_code
def yX7_next : MethodName := ⟨RX7, "next", "(II)I"⟩
def RX8 : String := "TermsDesk"
def TX8 : u_T := fun k => match k with
  | 0 => ("TermsDesk", "terms", "LTermsDesk$Terms;", true)
  | 1 => ("TermsDesk", "parts", "LTermsDesk$Parts;", true)
  | 2 => ("TermsDesk", "joins", "LTermsDesk$Joins;", true)
  | 3 => ("TermsDesk", "changes", "LTermsDesk$Changes;", true)
  | 4 => ("TermsDesk", "flow", "LTermsDesk$Flow;", true)
  | 5 => ("TermsDesk", "chooser", "LTermsDesk$Chooser;", true)
  | 6 => ("TermsDesk", "mender", "LTermsDesk$Mender;", true)
  | _ => ("TermsDesk", "tracer", "LTermsDesk$Tracer;", true)
def tyX8 : Nat → FieldType := fun k => match k with
  | 0 => .object "TermsDesk$Terms"
  | 1 => .object "TermsDesk$Parts"
  | 2 => .object "TermsDesk$Joins"
  | 3 => .object "TermsDesk$Changes"
  | 4 => .object "TermsDesk$Flow"
  | 5 => .object "TermsDesk$Chooser"
  | 6 => .object "TermsDesk$Mender"
  | _ => .object "TermsDesk$Tracer"
abbrev wsX80 : List Cond := u_ws RX8 TX8 8
theorem nmX8 : ∀ a, a < 8 → ∀ b, b < 8 → a ≠ b → (TX8 a).2.1 ≠ (TX8 b).2.1 := by decide +kernel
theorem tyX8_ok : ∀ k, k < 8 → parseFieldDescriptor (TX8 k).2.2.1 = some (tyX8 k) := by decide +kernel
abbrev cX8_init : ByteArray := prog_1_method_1_code
def yX8_init : MethodName := ⟨RX8, "<init>", "()V"⟩
abbrev cX8_asks : ByteArray := prog_1_method_2_code
def yX8_asks : MethodName := ⟨RX8, "asks", "(IIII)Z"⟩
abbrev cX8_bars : ByteArray := prog_1_method_3_code
def yX8_bars : MethodName := ⟨RX8, "bars", "(II)Z"⟩
abbrev cX8_part : ByteArray := prog_1_method_4_code
def yX8_part : MethodName := ⟨RX8, "part", "(III)I"⟩
abbrev cX8_take : ByteArray := prog_1_method_5_code
def yX8_take : MethodName := ⟨RX8, "take", "(II)Z"⟩
abbrev cX8_join : ByteArray := prog_1_method_6_code
def yX8_join : MethodName := ⟨RX8, "join", "(III)I"⟩
abbrev cX8_cut : ByteArray := prog_1_method_7_code
def yX8_cut : MethodName := ⟨RX8, "cut", "(I)Z"⟩
abbrev cX8_except : ByteArray := prog_1_method_8_code
def yX8_except : MethodName := ⟨RX8, "except", "(III)Z"⟩
abbrev cX8_product : ByteArray := prog_1_method_9_code
def yX8_product : MethodName := ⟨RX8, "product", "(I)Z"⟩
abbrev cX8_change : ByteArray := prog_1_method_10_code
def yX8_change : MethodName := ⟨RX8, "change", "(IIII)I"⟩
abbrev cX8_come : ByteArray := prog_1_method_11_code
def yX8_come : MethodName := ⟨RX8, "come", "(III)I"⟩
abbrev cX8_quarrels : ByteArray := prog_1_method_12_code
def yX8_quarrels : MethodName := ⟨RX8, "quarrels", "(I)I"⟩
abbrev cX8_quarrel : ByteArray := prog_1_method_13_code
def yX8_quarrel : MethodName := ⟨RX8, "quarrel", "(II)I"⟩
abbrev cX8_judge : ByteArray := prog_1_method_14_code
def yX8_judge : MethodName := ⟨RX8, "judge", "(I)I"⟩
abbrev cX8_cheapest : ByteArray := prog_1_method_15_code
def yX8_cheapest : MethodName := ⟨RX8, "cheapest", "(I)I"⟩
abbrev cX8_price : ByteArray := prog_1_method_16_code
def yX8_price : MethodName := ⟨RX8, "price", "(I)I"⟩
abbrev cX8_way : ByteArray := prog_1_method_17_code
def yX8_way : MethodName := ⟨RX8, "way", "(IIIII)I"⟩
abbrev cX8_notice : ByteArray := prog_1_method_18_code
def yX8_notice : MethodName := ⟨RX8, "notice", "(II)I"⟩
abbrev cX8_differ : ByteArray := prog_1_method_19_code
def yX8_differ : MethodName := ⟨RX8, "differ", "(III)I"⟩
abbrev cX8_look : ByteArray := prog_1_method_20_code
def yX8_look : MethodName := ⟨RX8, "look", "(II)I"⟩
abbrev cX8_count : ByteArray := prog_1_method_21_code
def yX8_count : MethodName := ⟨RX8, "count", "(I)I"⟩
abbrev cX8_choiceOrNone : ByteArray := prog_1_method_22_code
def yX8_choiceOrNone : MethodName := ⟨RX8, "choiceOrNone", "(II)I"⟩
abbrev cX8_within : ByteArray := prog_1_method_23_code
def yX8_within : MethodName := ⟨RX8, "within", "(II)Z"⟩
abbrev cX8_isPair : ByteArray := prog_1_method_24_code
def yX8_isPair : MethodName := ⟨RX8, "isPair", "(II)Z"⟩
abbrev cX8_pairOf : ByteArray := prog_1_method_25_code
def yX8_pairOf : MethodName := ⟨RX8, "pairOf", "(II)I"⟩
abbrev cX8_holds : ByteArray := prog_1_method_26_code
def yX8_holds : MethodName := ⟨RX8, "holds", "(JI)Z"⟩
abbrev cX8_pairsOf : ByteArray := prog_1_method_27_code
def yX8_pairsOf : MethodName := ⟨RX8, "pairsOf", "(I)J"⟩
abbrev cX8_isRowOfChoices : ByteArray := prog_1_method_28_code
def yX8_isRowOfChoices : MethodName := ⟨RX8, "isRowOfChoices", "(III)Z"⟩
abbrev cX8_memberAt : ByteArray := prog_1_method_29_code
def yX8_memberAt : MethodName := ⟨RX8, "memberAt", "(II)I"⟩
def RX9 : String := "TermsDeskModel"
def TX9 : u_T := fun k => match k with
  | 0 => ("TermsDeskModel", "asked", "[I", true)
  | 1 => ("TermsDeskModel", "along", "[J", true)
  | 2 => ("TermsDeskModel", "barred", "[I", true)
  | 3 => ("TermsDeskModel", "parts", "I", false)
  | 4 => ("TermsDeskModel", "product", "I", false)
  | 5 => ("TermsDeskModel", "choice", "[I", true)
  | 6 => ("TermsDeskModel", "many", "[I", true)
  | 7 => ("TermsDeskModel", "taken", "[I", true)
  | 8 => ("TermsDeskModel", "lifted", "[J", true)
  | 9 => ("TermsDeskModel", "joins", "I", false)
  | 10 => ("TermsDeskModel", "from", "[I", true)
  | 11 => ("TermsDeskModel", "to", "[I", true)
  | 12 => ("TermsDeskModel", "kind", "[I", true)
  | 13 => ("TermsDeskModel", "isCut", "[Z", true)
  | 14 => ("TermsDeskModel", "changes", "I", false)
  | 15 => ("TermsDeskModel", "sort", "[I", true)
  | 16 => ("TermsDeskModel", "which", "[I", true)
  | 17 => ("TermsDeskModel", "gets", "[I", true)
  | 18 => ("TermsDeskModel", "cost", "[I", true)
  | 19 => ("TermsDeskModel", "isReached", "[Z", true)
  | 20 => ("TermsDeskModel", "isGone", "[Z", true)
  | 21 => ("TermsDeskModel", "has", "[I", true)
  | 22 => ("TermsDeskModel", "come", "[J", true)
  | 23 => ("TermsDeskModel", "orderMany", "I", false)
  | 24 => ("TermsDeskModel", "order", "[I", true)
  | 25 => ("TermsDeskModel", "level", "[I", true)
  | 26 => ("TermsDeskModel", "place", "[I", true)
  | 27 => ("TermsDeskModel", "best", "[I", true)
  | 28 => ("TermsDeskModel", "far", "[I", true)
  | _ => ("TermsDeskModel", "other", "[J", true)
def tyX9 : Nat → FieldType := fun k => match k with
  | 0 => .array .int
  | 1 => .array .long
  | 2 => .array .int
  | 3 => .int
  | 4 => .int
  | 5 => .array .int
  | 6 => .array .int
  | 7 => .array .int
  | 8 => .array .long
  | 9 => .int
  | 10 => .array .int
  | 11 => .array .int
  | 12 => .array .int
  | 13 => .array .boolean
  | 14 => .int
  | 15 => .array .int
  | 16 => .array .int
  | 17 => .array .int
  | 18 => .array .int
  | 19 => .array .boolean
  | 20 => .array .boolean
  | 21 => .array .int
  | 22 => .array .long
  | 23 => .int
  | 24 => .array .int
  | 25 => .array .int
  | 26 => .array .int
  | 27 => .array .int
  | 28 => .array .int
  | _ => .array .long
abbrev wsX90 : List Cond := u_ws RX9 TX9 30
theorem nmX9 : ∀ a, a < 30 → ∀ b, b < 30 → a ≠ b → (TX9 a).2.1 ≠ (TX9 b).2.1 := by decide +kernel
theorem tyX9_ok : ∀ k, k < 30 → parseFieldDescriptor (TX9 k).2.2.1 = some (tyX9 k) := by decide +kernel
abbrev cX9_init : ByteArray := prog_11_method_1_code
def yX9_init : MethodName := ⟨RX9, "<init>", "()V"⟩
abbrev cX9_lies : ByteArray := prog_11_method_2_code
def yX9_lies : MethodName := ⟨RX9, "lies", "(III)Z"⟩
abbrev cX9_isPart : ByteArray := prog_11_method_3_code
def yX9_isPart : MethodName := ⟨RX9, "isPart", "(I)Z"⟩
abbrev cX9_isLicence : ByteArray := prog_11_method_4_code
def yX9_isLicence : MethodName := ⟨RX9, "isLicence", "(I)Z"⟩
abbrev cX9_isShipping : ByteArray := prog_11_method_5_code
def yX9_isShipping : MethodName := ⟨RX9, "isShipping", "(I)Z"⟩
abbrev cX9_bit : ByteArray := prog_11_method_6_code
def yX9_bit : MethodName := ⟨RX9, "bit", "(II)J"⟩
abbrev cX9_asks : ByteArray := prog_11_method_7_code
def yX9_asks : MethodName := ⟨RX9, "asks", "(IIII)Z"⟩
abbrev cX9_bars : ByteArray := prog_11_method_8_code
def yX9_bars : MethodName := ⟨RX9, "bars", "(II)Z"⟩
abbrev cX9_part : ByteArray := prog_11_method_9_code
def yX9_part : MethodName := ⟨RX9, "part", "(III)I"⟩
abbrev cX9_take : ByteArray := prog_11_method_10_code
def yX9_take : MethodName := ⟨RX9, "take", "(II)Z"⟩
abbrev cX9_reaches : ByteArray := prog_11_method_11_code
def yX9_reaches : MethodName := ⟨RX9, "reaches", "(I)V"⟩
abbrev cX9_asItIs : ByteArray := prog_11_method_12_code
def yX9_asItIs : MethodName := ⟨RX9, "asItIs", "()V"⟩
abbrev cX9_join : ByteArray := prog_11_method_13_code
def yX9_join : MethodName := ⟨RX9, "join", "(III)I"⟩
abbrev cX9_cut : ByteArray := prog_11_method_14_code
def yX9_cut : MethodName := ⟨RX9, "cut", "(I)Z"⟩
abbrev cX9_except : ByteArray := prog_11_method_15_code
def yX9_except : MethodName := ⟨RX9, "except", "(III)Z"⟩
abbrev cX9_product : ByteArray := prog_11_method_16_code
def yX9_product : MethodName := ⟨RX9, "product", "(I)Z"⟩
abbrev cX9_change : ByteArray := prog_11_method_17_code
def yX9_change : MethodName := ⟨RX9, "change", "(IIII)I"⟩
abbrev cX9_orders : ByteArray := prog_11_method_18_code
def yX9_orders : MethodName := ⟨RX9, "orders", "()V"⟩
abbrev cX9_brings : ByteArray := prog_11_method_19_code
def yX9_brings : MethodName := ⟨RX9, "brings", "(II)J"⟩
abbrev cX9_comes : ByteArray := prog_11_method_20_code
def yX9_comes : MethodName := ⟨RX9, "comes", "(I)V"⟩
abbrev cX9_bits : ByteArray := prog_11_method_21_code
def yX9_bits : MethodName := ⟨RX9, "bits", "(J)I"⟩
abbrev cX9_bars_ : ByteArray := prog_11_method_22_code
def yX9_bars_ : MethodName := ⟨RX9, "bars", "(I)J"⟩
abbrev cX9_quarrelsNow : ByteArray := prog_11_method_23_code
def yX9_quarrelsNow : MethodName := ⟨RX9, "quarrelsNow", "()I"⟩
abbrev cX9_works : ByteArray := prog_11_method_24_code
def yX9_works : MethodName := ⟨RX9, "works", "(I)V"⟩
abbrev cX9_come : ByteArray := prog_11_method_25_code
def yX9_come : MethodName := ⟨RX9, "come", "(III)I"⟩
abbrev cX9_quarrels : ByteArray := prog_11_method_26_code
def yX9_quarrels : MethodName := ⟨RX9, "quarrels", "(I)I"⟩
abbrev cX9_quarrel : ByteArray := prog_11_method_27_code
def yX9_quarrel : MethodName := ⟨RX9, "quarrel", "(II)I"⟩
abbrev cX9_ways : ByteArray := prog_11_method_28_code
def yX9_ways : MethodName := ⟨RX9, "ways", "()I"⟩
abbrev cX9_judge : ByteArray := prog_11_method_29_code
def yX9_judge : MethodName := ⟨RX9, "judge", "(I)I"⟩
abbrev cX9_priceOf : ByteArray := prog_11_method_30_code
def yX9_priceOf : MethodName := ⟨RX9, "priceOf", "(I)I"⟩
abbrev cX9_price : ByteArray := prog_11_method_31_code
def yX9_price : MethodName := ⟨RX9, "price", "(I)I"⟩
abbrev cX9_quarrelsWith : ByteArray := prog_11_method_32_code
def yX9_quarrelsWith : MethodName := ⟨RX9, "quarrelsWith", "(II)I"⟩
abbrev cX9_isAhead : ByteArray := prog_11_method_33_code
def yX9_isAhead : MethodName := ⟨RX9, "isAhead", "(II)Z"⟩
abbrev cX9_cheapest : ByteArray := prog_11_method_34_code
def yX9_cheapest : MethodName := ⟨RX9, "cheapest", "(I)I"⟩
abbrev cX9_measures : ByteArray := prog_11_method_35_code
def yX9_measures : MethodName := ⟨RX9, "measures", "(III)V"⟩
abbrev cX9_hasBrought : ByteArray := prog_11_method_36_code
def yX9_hasBrought : MethodName := ⟨RX9, "hasBrought", "(IIII)Z"⟩
abbrev cX9_way : ByteArray := prog_11_method_37_code
def yX9_way : MethodName := ⟨RX9, "way", "(IIIII)I"⟩
abbrev cX9_notice : ByteArray := prog_11_method_38_code
def yX9_notice : MethodName := ⟨RX9, "notice", "(II)I"⟩
abbrev cX9_differ : ByteArray := prog_11_method_39_code
def yX9_differ : MethodName := ⟨RX9, "differ", "(III)I"⟩
abbrev cX9_look : ByteArray := prog_11_method_40_code
def yX9_look : MethodName := ⟨RX9, "look", "(II)I"⟩
abbrev cX9_count : ByteArray := prog_11_method_41_code
def yX9_count : MethodName := ⟨RX9, "count", "(I)I"⟩
def RJ6 : String := "java/lang/Integer"
def TJ6 : u_T := fun k => match k with
  | _ => ("", "", "", false)
def tyJ6 : Nat → FieldType := fun k => match k with
  | _ => .int
abbrev wsJ60 : List Cond := u_ws RJ6 TJ6 0
theorem nmJ6 : ∀ a, a < 0 → ∀ b, b < 0 → a ≠ b → (TJ6 a).2.1 ≠ (TJ6 b).2.1 := by decide +kernel
theorem tyJ6_ok : ∀ k, k < 0 → parseFieldDescriptor (TJ6 k).2.2.1 = some (tyJ6 k) := by decide +kernel
abbrev cJ6_compare_7cf53 : ByteArray := prog_12_method_40_code
def yJ6_compare_7cf53 : MethodName := ⟨RJ6, "compare", "(II)I"⟩
abbrev cJ6_lowestOneBit_0f7a4 : ByteArray := prog_12_method_46_code
def yJ6_lowestOneBit_0f7a4 : MethodName := ⟨RJ6, "lowestOneBit", "(I)I"⟩
abbrev cJ6_bitCount_0f7a4 : ByteArray := prog_12_method_49_code
def yJ6_bitCount_0f7a4 : MethodName := ⟨RJ6, "bitCount", "(I)I"⟩
def RJ13 : String := "java/lang/Long"
def TJ13 : u_T := fun k => match k with
  | _ => ("", "", "", false)
def tyJ13 : Nat → FieldType := fun k => match k with
  | _ => .int
abbrev wsJ130 : List Cond := u_ws RJ13 TJ13 0
theorem nmJ13 : ∀ a, a < 0 → ∀ b, b < 0 → a ≠ b → (TJ13 a).2.1 ≠ (TJ13 b).2.1 := by decide +kernel
theorem tyJ13_ok : ∀ k, k < 0 → parseFieldDescriptor (TJ13 k).2.2.1 = some (tyJ13 k) := by decide +kernel
abbrev cJ13_bitCount_95d88 : ByteArray := prog_13_method_50_code
def yJ13_bitCount_95d88 : MethodName := ⟨RJ13, "bitCount", "(J)I"⟩
def RJ9 : String := "java/lang/Math"
def TJ9 : u_T := fun k => match k with
  | _ => ("", "", "", false)
def tyJ9 : Nat → FieldType := fun k => match k with
  | _ => .int
abbrev wsJ90 : List Cond := u_ws RJ9 TJ9 0
theorem nmJ9 : ∀ a, a < 0 → ∀ b, b < 0 → a ≠ b → (TJ9 a).2.1 ≠ (TJ9 b).2.1 := by decide +kernel
theorem tyJ9_ok : ∀ k, k < 0 → parseFieldDescriptor (TJ9 k).2.2.1 = some (tyJ9 k) := by decide +kernel
abbrev cJ9_min_7cf53 : ByteArray := prog_14_method_69_code
def yJ9_min_7cf53 : MethodName := ⟨RJ9, "min", "(II)I"⟩
def RJ10 : String := "java/lang/System"
def TJ10 : u_T := fun k => match k with
  | _ => ("", "", "", false)
def tyJ10 : Nat → FieldType := fun k => match k with
  | _ => .int
abbrev wsJ100 : List Cond := u_ws RJ10 TJ10 0
theorem nmJ10 : ∀ a, a < 0 → ∀ b, b < 0 → a ≠ b → (TJ10 a).2.1 ≠ (TJ10 b).2.1 := by decide +kernel
theorem tyJ10_ok : ∀ k, k < 0 → parseFieldDescriptor (TJ10 k).2.2.1 = some (tyJ10 k) := by decide +kernel
def RL : String := "TermsDeskLaw"
abbrev cL_law : ByteArray := code
def yL_law : MethodName := ⟨RL, "law", "([I)Z"⟩
def wsX0_init : List Cond := .code yX0_init cX0_init 1 none :: ([.methodLink RX0 3 objectInit, .instanceMethod objectInit, .code objectInit ⟨#[0xb1]⟩ 1 none, .arrayClass .int, .fieldLink RX0 9 "TermsDesk$Changes" "what" "[I", .fieldLink RX0 15 "TermsDesk$Changes" "which" "[I", .fieldLink RX0 18 "TermsDesk$Changes" "licence" "[I", .fieldLink RX0 21 "TermsDesk$Changes" "cost" "[I"] ++ wsX00)
def wsX0_add : List Cond := .code yX0_add cX0_add 6 (some .int) :: ([.fieldLink RX0 24 "TermsDesk$Changes" "told" "I", .fieldLink RX0 9 "TermsDesk$Changes" "what" "[I", .fieldLink RX0 15 "TermsDesk$Changes" "which" "[I", .fieldLink RX0 18 "TermsDesk$Changes" "licence" "[I", .fieldLink RX0 21 "TermsDesk$Changes" "cost" "[I"] ++ wsX00)
def wsX8_holds : List Cond := .code yX8_holds cX8_holds 3 (some .boolean) :: ([])
def wsX0_priceOf : List Cond := .code yX0_priceOf cX0_priceOf 4 (some .int) :: ([.fieldLink RX0 24 "TermsDesk$Changes" "told" "I", .fieldLink RX0 21 "TermsDesk$Changes" "cost" "[I", .static yX8_holds, .initialized RX8, .code yX8_holds cX8_holds 3 (some .boolean)] ++ wsX00)
def wsJ6_compare_7cf53 : List Cond := .code yJ6_compare_7cf53 cJ6_compare_7cf53 2 (some .int) :: ([])
def wsJ6_bitCount_0f7a4 : List Cond := .code yJ6_bitCount_0f7a4 cJ6_bitCount_0f7a4 1 (some .int) :: ([.constant RJ6 265 (1431655765), .constant RJ6 266 (858993459), .constant RJ6 267 (252645135)])
def wsJ6_lowestOneBit_0f7a4 : List Cond := .code yJ6_lowestOneBit_0f7a4 cJ6_lowestOneBit_0f7a4 1 (some .int) :: ([])
def wsX0_isBetter : List Cond := .code yX0_isBetter cX0_isBetter 5 (some .boolean) :: ([.methodLink RX0 32 yX0_priceOf, .instanceMethod yX0_priceOf, .selects RX0 yX0_priceOf yX0_priceOf, .initialized RX0, .code yX0_priceOf cX0_priceOf 4 (some .int), .fieldLink RX0 24 "TermsDesk$Changes" "told" "I", .fieldLink RX0 21 "TermsDesk$Changes" "cost" "[I", .static yX8_holds, .initialized RX8, .code yX8_holds cX8_holds 3 (some .boolean), .methodLink RX0 36 yJ6_compare_7cf53, .static yJ6_compare_7cf53, .initialized RJ6, .code yJ6_compare_7cf53 cJ6_compare_7cf53 2 (some .int), .methodLink RX0 42 yJ6_bitCount_0f7a4, .static yJ6_bitCount_0f7a4, .code yJ6_bitCount_0f7a4 cJ6_bitCount_0f7a4 1 (some .int), .constant RJ6 265 (1431655765), .constant RJ6 266 (858993459), .constant RJ6 267 (252645135), .methodLink RX0 45 yJ6_lowestOneBit_0f7a4, .static yJ6_lowestOneBit_0f7a4, .code yJ6_lowestOneBit_0f7a4 cJ6_lowestOneBit_0f7a4 1 (some .int)] ++ wsX00)
def wsX1_init : List Cond := .code yX1_init cX1_init 4 none :: ([.methodLink RX1 3 objectInit, .instanceMethod objectInit, .code objectInit ⟨#[0xb1]⟩ 1 none, .arrayClass .int, .fieldLink RX1 9 "TermsDesk$Chooser" "line" "[I", .fieldLink RX1 15 "TermsDesk$Chooser" "place" "[I", .fieldLink RX1 18 "TermsDesk$Chooser" "bestPlace" "[I", .fieldLink RX1 21 "TermsDesk$Chooser" "quarrelsBefore" "[I", .fieldLink RX1 24 "TermsDesk$Chooser" "parts" "LTermsDesk$Parts;", .fieldLink RX1 28 "TermsDesk$Chooser" "joins" "LTermsDesk$Joins;", .fieldLink RX1 32 "TermsDesk$Chooser" "flow" "LTermsDesk$Flow;"] ++ wsX10)
def wsX3_allIn : List Cond := .code yX3_allIn cX3_allIn 9 (some .int) :: ([.fieldLink RX3 21 "TermsDesk$Joins" "order" "[I", .fieldLink RX3 27 "TermsDesk$Joins" "begin" "[I", .fieldLink RX3 30 "TermsDesk$Joins" "end" "[I", .fieldLink RX3 24 "TermsDesk$Joins" "sorted" "[I", .fieldLink RX3 9 "TermsDesk$Joins" "from" "[I", .static yX8_holds, .initialized RX8, .code yX8_holds cX8_holds 3 (some .boolean)] ++ wsX30)
def wsX2_ofProduct : List Cond := .code yX2_ofProduct cX2_ofProduct 3 (some .int) :: ([.fieldLink RX2 22 "TermsDesk$Flow" "parts" "LTermsDesk$Parts;", .fieldLink RX2 26 "TermsDesk$Flow" "joins" "LTermsDesk$Joins;", .methodLink RX2 92 yX3_allIn, .instanceMethod yX3_allIn, .selects RX3 yX3_allIn yX3_allIn, .initialized RX3, .code yX3_allIn cX3_allIn 9 (some .int), .fieldLink RX3 21 "TermsDesk$Joins" "order" "[I", .fieldLink RX3 27 "TermsDesk$Joins" "begin" "[I", .fieldLink RX3 30 "TermsDesk$Joins" "end" "[I", .fieldLink RX3 24 "TermsDesk$Joins" "sorted" "[I", .fieldLink RX3 9 "TermsDesk$Joins" "from" "[I", .static yX8_holds, .initialized RX8, .code yX8_holds cX8_holds 3 (some .boolean)] ++ wsX20 ++ wsX50 ++ wsX30)
def wsX1_lineUp : List Cond := .code yX1_lineUp cX1_lineUp 4 none :: ([.fieldLink RX1 66 "TermsDesk$Chooser" "length" "I", .fieldLink RX1 28 "TermsDesk$Chooser" "joins" "LTermsDesk$Joins;", .fieldLink RX1 15 "TermsDesk$Chooser" "place" "[I", .fieldLink RX1 9 "TermsDesk$Chooser" "line" "[I", .static yX8_holds, .initialized RX8, .code yX8_holds cX8_holds 3 (some .boolean)] ++ wsX10 ++ wsX30)
def wsX5_choiceOf : List Cond := .code yX5_choiceOf cX5_choiceOf 3 (some .int) :: ([.fieldLink RX5 9 "TermsDesk$Parts" "choices" "[I"] ++ wsX50)
def wsX8_pairOf : List Cond := .code yX8_pairOf cX8_pairOf 2 (some .int) :: ([])
def wsX8_pairsOf : List Cond := .code yX8_pairsOf cX8_pairsOf 1 (some .long) :: ([.constantLong RX8 216 (255), .methodLink RX8 80 yX8_pairOf, .static yX8_pairOf, .initialized RX8, .code yX8_pairOf cX8_pairOf 2 (some .int)])
def wsX2_brought : List Cond := .code yX2_brought cX2_brought 4 (some .long) :: ([.fieldLink RX2 18 "TermsDesk$Flow" "terms" "LTermsDesk$Terms;", .fieldLink RX2 22 "TermsDesk$Flow" "parts" "LTermsDesk$Parts;", .constantLong RX2 44 (-1), .static yX8_pairsOf, .initialized RX8, .code yX8_pairsOf cX8_pairsOf 1 (some .long), .constantLong RX8 216 (255), .methodLink RX8 80 yX8_pairOf, .static yX8_pairOf, .code yX8_pairOf cX8_pairOf 2 (some .int)] ++ wsX20 ++ wsX60 ++ wsX50)
def wsX2_arrive : List Cond := .code yX2_arrive cX2_arrive 10 none :: ([.fieldLink RX2 26 "TermsDesk$Flow" "joins" "LTermsDesk$Joins;", .fieldLink RX2 9 "TermsDesk$Flow" "arrived" "[J", .fieldLink RX2 18 "TermsDesk$Flow" "terms" "LTermsDesk$Terms;", .static yX8_holds, .initialized RX8, .code yX8_holds cX8_holds 3 (some .boolean)] ++ wsX20 ++ wsX30 ++ wsX60)
def wsX2_foughtAt : List Cond := .code yX2_foughtAt cX2_foughtAt 3 (some .long) :: ([.fieldLink RX2 9 "TermsDesk$Flow" "arrived" "[J", .fieldLink RX2 18 "TermsDesk$Flow" "terms" "LTermsDesk$Terms;"] ++ wsX20 ++ wsX60)
def wsJ13_bitCount_95d88 : List Cond := .code yJ13_bitCount_95d88 cJ13_bitCount_95d88 2 (some .int) :: ([.constantLong RJ13 314 (6148914691236517205), .constantLong RJ13 316 (3689348814741910323), .constantLong RJ13 318 (1085102592571150095)])
def wsX1_settle_r1 : List Cond := [Cond.fieldLink RX1 66 "TermsDesk$Chooser" "length" "I", Cond.fieldLink RX1 9 "TermsDesk$Chooser" "line" "[I", Cond.fieldLink RX1 24 "TermsDesk$Chooser" "parts" "LTermsDesk$Parts;", Cond.fieldLink RX1 15 "TermsDesk$Chooser" "place" "[I", Cond.fieldLink RX1 32 "TermsDesk$Chooser" "flow" "LTermsDesk$Flow;", Cond.fieldLink RX1 28 "TermsDesk$Chooser" "joins" "LTermsDesk$Joins;", Cond.fieldLink RX1 21 "TermsDesk$Chooser" "quarrelsBefore" "[I", Cond.fieldLink RX1 55 "TermsDesk$Chooser" "bestQuarrels" "I", Cond.methodLink RX1 91 yX5_choiceOf, Cond.instanceMethod yX5_choiceOf, Cond.selects RX5 yX5_choiceOf yX5_choiceOf, Cond.initialized RX5, Cond.code yX5_choiceOf cX5_choiceOf 3 (some .int), Cond.fieldLink RX5 9 "TermsDesk$Parts" "choices" "[I", Cond.methodLink RX1 96 yX2_brought, Cond.instanceMethod yX2_brought, Cond.selects RX2 yX2_brought yX2_brought, Cond.initialized RX2, Cond.code yX2_brought cX2_brought 4 (some .long), Cond.fieldLink RX2 18 "TermsDesk$Flow" "terms" "LTermsDesk$Terms;", Cond.fieldLink RX2 22 "TermsDesk$Flow" "parts" "LTermsDesk$Parts;", Cond.constantLong RX2 44 (-1), Cond.static yX8_pairsOf, Cond.initialized RX8]
def wsX1_settle_r2 : List Cond := [Cond.code yX8_pairsOf cX8_pairsOf 1 (some .long), Cond.constantLong RX8 216 (255), Cond.methodLink RX8 80 yX8_pairOf, Cond.static yX8_pairOf, Cond.code yX8_pairOf cX8_pairOf 2 (some .int), Cond.methodLink RX1 100 yX2_arrive, Cond.instanceMethod yX2_arrive, Cond.selects RX2 yX2_arrive yX2_arrive, Cond.code yX2_arrive cX2_arrive 10 none, Cond.fieldLink RX2 26 "TermsDesk$Flow" "joins" "LTermsDesk$Joins;", Cond.fieldLink RX2 9 "TermsDesk$Flow" "arrived" "[J", Cond.static yX8_holds, Cond.code yX8_holds cX8_holds 3 (some .boolean), Cond.methodLink RX1 104 yX2_foughtAt, Cond.instanceMethod yX2_foughtAt, Cond.selects RX2 yX2_foughtAt yX2_foughtAt, Cond.code yX2_foughtAt cX2_foughtAt 3 (some .long), Cond.methodLink RX1 108 yJ13_bitCount_95d88, Cond.static yJ13_bitCount_95d88, Cond.initialized RJ13, Cond.code yJ13_bitCount_95d88 cJ13_bitCount_95d88 2 (some .int), Cond.constantLong RJ13 314 (6148914691236517205), Cond.constantLong RJ13 316 (3689348814741910323), Cond.constantLong RJ13 318 (1085102592571150095)]
def wsX1_settle : List Cond := .code yX1_settle cX1_settle 6 (some .int) :: ((wsX1_settle_r1 ++ wsX1_settle_r2) ++ wsX10 ++ wsX30 ++ wsX50 ++ wsX20 ++ wsX60)
def wsX1_isBetter : List Cond := .code yX1_isBetter cX1_isBetter 4 (some .boolean) :: ([.fieldLink RX1 55 "TermsDesk$Chooser" "bestQuarrels" "I", .fieldLink RX1 59 "TermsDesk$Chooser" "bestPairs" "I", .fieldLink RX1 15 "TermsDesk$Chooser" "place" "[I", .fieldLink RX1 18 "TermsDesk$Chooser" "bestPlace" "[I"] ++ wsX10)
def wsX1_keepIfBetter : List Cond := .code yX1_keepIfBetter cX1_keepIfBetter 3 none :: ([.fieldLink RX1 21 "TermsDesk$Chooser" "quarrelsBefore" "[I", .fieldLink RX1 66 "TermsDesk$Chooser" "length" "I", .fieldLink RX1 32 "TermsDesk$Chooser" "flow" "LTermsDesk$Flow;", .fieldLink RX1 24 "TermsDesk$Chooser" "parts" "LTermsDesk$Parts;", .fieldLink RX1 55 "TermsDesk$Chooser" "bestQuarrels" "I", .fieldLink RX1 59 "TermsDesk$Chooser" "bestPairs" "I", .fieldLink RX1 15 "TermsDesk$Chooser" "place" "[I", .fieldLink RX1 18 "TermsDesk$Chooser" "bestPlace" "[I", .methodLink RX1 127 arraycopyName, .native arraycopyName, .static arraycopyName, .initialized "java/lang/System", .methodLink RX1 108 yJ13_bitCount_95d88, .static yJ13_bitCount_95d88, .initialized RJ13, .code yJ13_bitCount_95d88 cJ13_bitCount_95d88 2 (some .int), .constantLong RJ13 314 (6148914691236517205), .constantLong RJ13 316 (3689348814741910323), .constantLong RJ13 318 (1085102592571150095), .methodLink RX1 123 yX1_isBetter, .instanceMethod yX1_isBetter, .selects RX1 yX1_isBetter yX1_isBetter, .initialized RX1, .code yX1_isBetter cX1_isBetter 4 (some .boolean)] ++ wsX10 ++ wsX20 ++ wsX50)
def wsX1_advance : List Cond := .code yX1_advance cX1_advance 4 (some .int) :: ([.fieldLink RX1 9 "TermsDesk$Chooser" "line" "[I", .fieldLink RX1 15 "TermsDesk$Chooser" "place" "[I", .fieldLink RX1 24 "TermsDesk$Chooser" "parts" "LTermsDesk$Parts;"] ++ wsX10 ++ wsX50)
def wsX1_takeKept : List Cond := .code yX1_takeKept cX1_takeKept 3 none :: ([.fieldLink RX1 66 "TermsDesk$Chooser" "length" "I", .fieldLink RX1 9 "TermsDesk$Chooser" "line" "[I", .fieldLink RX1 24 "TermsDesk$Chooser" "parts" "LTermsDesk$Parts;", .fieldLink RX1 18 "TermsDesk$Chooser" "bestPlace" "[I", .methodLink RX1 91 yX5_choiceOf, .instanceMethod yX5_choiceOf, .selects RX5 yX5_choiceOf yX5_choiceOf, .initialized RX5, .code yX5_choiceOf cX5_choiceOf 3 (some .int), .fieldLink RX5 9 "TermsDesk$Parts" "choices" "[I"] ++ wsX10 ++ wsX50)
def wsX1_takeBest_r1 : List Cond := [Cond.fieldLink RX1 32 "TermsDesk$Chooser" "flow" "LTermsDesk$Flow;", Cond.fieldLink RX1 28 "TermsDesk$Chooser" "joins" "LTermsDesk$Joins;", Cond.constant RX1 54 (2147483647), Cond.fieldLink RX1 55 "TermsDesk$Chooser" "bestQuarrels" "I", Cond.fieldLink RX1 59 "TermsDesk$Chooser" "bestPairs" "I", Cond.fieldLink RX1 66 "TermsDesk$Chooser" "length" "I", Cond.methodLink RX1 72 Lib.Math.min.name, Cond.static Lib.Math.min.name, Cond.initialized "java/lang/Math", Cond.code Lib.Math.min.name Lib.Math.min.code 2 (some .int), Cond.methodLink RX1 42 yX2_ofProduct, Cond.instanceMethod yX2_ofProduct, Cond.selects RX2 yX2_ofProduct yX2_ofProduct, Cond.initialized RX2, Cond.code yX2_ofProduct cX2_ofProduct 3 (some .int), Cond.fieldLink RX2 22 "TermsDesk$Flow" "parts" "LTermsDesk$Parts;", Cond.fieldLink RX2 26 "TermsDesk$Flow" "joins" "LTermsDesk$Joins;", Cond.methodLink RX2 92 yX3_allIn, Cond.instanceMethod yX3_allIn, Cond.selects RX3 yX3_allIn yX3_allIn, Cond.initialized RX3, Cond.code yX3_allIn cX3_allIn 9 (some .int), Cond.fieldLink RX3 21 "TermsDesk$Joins" "order" "[I", Cond.fieldLink RX3 27 "TermsDesk$Joins" "begin" "[I"]
def wsX1_takeBest_r2 : List Cond := [Cond.fieldLink RX3 30 "TermsDesk$Joins" "end" "[I", Cond.fieldLink RX3 24 "TermsDesk$Joins" "sorted" "[I", Cond.fieldLink RX3 9 "TermsDesk$Joins" "from" "[I", Cond.static yX8_holds, Cond.initialized RX8, Cond.code yX8_holds cX8_holds 3 (some .boolean), Cond.methodLink RX1 48 yX1_lineUp, Cond.instanceMethod yX1_lineUp, Cond.selects RX1 yX1_lineUp yX1_lineUp, Cond.initialized RX1, Cond.code yX1_lineUp cX1_lineUp 4 none, Cond.fieldLink RX1 15 "TermsDesk$Chooser" "place" "[I", Cond.fieldLink RX1 9 "TermsDesk$Chooser" "line" "[I", Cond.methodLink RX1 62 yX1_settle, Cond.instanceMethod yX1_settle, Cond.selects RX1 yX1_settle yX1_settle, Cond.code yX1_settle cX1_settle 6 (some .int), Cond.fieldLink RX1 24 "TermsDesk$Chooser" "parts" "LTermsDesk$Parts;", Cond.fieldLink RX1 21 "TermsDesk$Chooser" "quarrelsBefore" "[I", Cond.methodLink RX1 91 yX5_choiceOf, Cond.instanceMethod yX5_choiceOf, Cond.selects RX5 yX5_choiceOf yX5_choiceOf, Cond.initialized RX5, Cond.code yX5_choiceOf cX5_choiceOf 3 (some .int)]
def wsX1_takeBest_r3 : List Cond := [Cond.fieldLink RX5 9 "TermsDesk$Parts" "choices" "[I", Cond.methodLink RX1 96 yX2_brought, Cond.instanceMethod yX2_brought, Cond.selects RX2 yX2_brought yX2_brought, Cond.code yX2_brought cX2_brought 4 (some .long), Cond.fieldLink RX2 18 "TermsDesk$Flow" "terms" "LTermsDesk$Terms;", Cond.constantLong RX2 44 (-1), Cond.static yX8_pairsOf, Cond.code yX8_pairsOf cX8_pairsOf 1 (some .long), Cond.constantLong RX8 216 (255), Cond.methodLink RX8 80 yX8_pairOf, Cond.static yX8_pairOf, Cond.code yX8_pairOf cX8_pairOf 2 (some .int), Cond.methodLink RX1 100 yX2_arrive, Cond.instanceMethod yX2_arrive, Cond.selects RX2 yX2_arrive yX2_arrive, Cond.code yX2_arrive cX2_arrive 10 none, Cond.fieldLink RX2 9 "TermsDesk$Flow" "arrived" "[J", Cond.methodLink RX1 104 yX2_foughtAt, Cond.instanceMethod yX2_foughtAt, Cond.selects RX2 yX2_foughtAt yX2_foughtAt, Cond.code yX2_foughtAt cX2_foughtAt 3 (some .long), Cond.methodLink RX1 108 yJ13_bitCount_95d88, Cond.static yJ13_bitCount_95d88]
def wsX1_takeBest_r4 : List Cond := [Cond.initialized RJ13, Cond.code yJ13_bitCount_95d88 cJ13_bitCount_95d88 2 (some .int), Cond.constantLong RJ13 314 (6148914691236517205), Cond.constantLong RJ13 316 (3689348814741910323), Cond.constantLong RJ13 318 (1085102592571150095), Cond.methodLink RX1 69 yX1_keepIfBetter, Cond.instanceMethod yX1_keepIfBetter, Cond.selects RX1 yX1_keepIfBetter yX1_keepIfBetter, Cond.code yX1_keepIfBetter cX1_keepIfBetter 3 none, Cond.fieldLink RX1 18 "TermsDesk$Chooser" "bestPlace" "[I", Cond.methodLink RX1 127 arraycopyName, Cond.native arraycopyName, Cond.static arraycopyName, Cond.initialized "java/lang/System", Cond.methodLink RX1 123 yX1_isBetter, Cond.instanceMethod yX1_isBetter, Cond.selects RX1 yX1_isBetter yX1_isBetter, Cond.code yX1_isBetter cX1_isBetter 4 (some .boolean), Cond.methodLink RX1 77 yX1_advance, Cond.instanceMethod yX1_advance, Cond.selects RX1 yX1_advance yX1_advance, Cond.code yX1_advance cX1_advance 4 (some .int), Cond.methodLink RX1 81 yX1_takeKept, Cond.instanceMethod yX1_takeKept]
def wsX1_takeBest_r5 : List Cond := [Cond.selects RX1 yX1_takeKept yX1_takeKept, Cond.code yX1_takeKept cX1_takeKept 3 none]
def wsX1_takeBest : List Cond := .code yX1_takeBest cX1_takeBest 5 (some .int) :: ((wsX1_takeBest_r1 ++ (wsX1_takeBest_r2 ++ (wsX1_takeBest_r3 ++ (wsX1_takeBest_r4 ++ wsX1_takeBest_r5)))) ++ wsX10 ++ wsX30 ++ wsX20 ++ wsX50 ++ wsX60)
def wsX2_init : List Cond := .code yX2_init cX2_init 4 none :: ([.methodLink RX2 3 objectInit, .instanceMethod objectInit, .code objectInit ⟨#[0xb1]⟩ 1 none, .arrayClass .long, .fieldLink RX2 9 "TermsDesk$Flow" "arrived" "[J", .fieldLink RX2 15 "TermsDesk$Flow" "earlier" "[J", .fieldLink RX2 18 "TermsDesk$Flow" "terms" "LTermsDesk$Terms;", .fieldLink RX2 22 "TermsDesk$Flow" "parts" "LTermsDesk$Parts;", .fieldLink RX2 26 "TermsDesk$Flow" "joins" "LTermsDesk$Joins;"] ++ wsX20)
def wsX2_run : List Cond := .code yX2_run cX2_run 7 none :: ([.fieldLink RX2 26 "TermsDesk$Flow" "joins" "LTermsDesk$Joins;", .methodLink RX2 52 yX2_brought, .instanceMethod yX2_brought, .selects RX2 yX2_brought yX2_brought, .initialized RX2, .code yX2_brought cX2_brought 4 (some .long), .fieldLink RX2 18 "TermsDesk$Flow" "terms" "LTermsDesk$Terms;", .fieldLink RX2 22 "TermsDesk$Flow" "parts" "LTermsDesk$Parts;", .constantLong RX2 44 (-1), .static yX8_pairsOf, .initialized RX8, .code yX8_pairsOf cX8_pairsOf 1 (some .long), .constantLong RX8 216 (255), .methodLink RX8 80 yX8_pairOf, .static yX8_pairOf, .code yX8_pairOf cX8_pairOf 2 (some .int), .methodLink RX2 56 yX2_arrive, .instanceMethod yX2_arrive, .selects RX2 yX2_arrive yX2_arrive, .code yX2_arrive cX2_arrive 10 none, .fieldLink RX2 9 "TermsDesk$Flow" "arrived" "[J", .static yX8_holds, .code yX8_holds cX8_holds 3 (some .boolean)] ++ wsX20 ++ wsX30 ++ wsX60 ++ wsX50)
def wsX2_quarrelCount_r1 : List Cond := [Cond.fieldLink RX2 22 "TermsDesk$Flow" "parts" "LTermsDesk$Parts;", Cond.methodLink RX2 96 yX2_ofProduct, Cond.instanceMethod yX2_ofProduct, Cond.selects RX2 yX2_ofProduct yX2_ofProduct, Cond.initialized RX2, Cond.code yX2_ofProduct cX2_ofProduct 3 (some .int), Cond.fieldLink RX2 26 "TermsDesk$Flow" "joins" "LTermsDesk$Joins;", Cond.methodLink RX2 92 yX3_allIn, Cond.instanceMethod yX3_allIn, Cond.selects RX3 yX3_allIn yX3_allIn, Cond.initialized RX3, Cond.code yX3_allIn cX3_allIn 9 (some .int), Cond.fieldLink RX3 21 "TermsDesk$Joins" "order" "[I", Cond.fieldLink RX3 27 "TermsDesk$Joins" "begin" "[I", Cond.fieldLink RX3 30 "TermsDesk$Joins" "end" "[I", Cond.fieldLink RX3 24 "TermsDesk$Joins" "sorted" "[I", Cond.fieldLink RX3 9 "TermsDesk$Joins" "from" "[I", Cond.static yX8_holds, Cond.initialized RX8, Cond.code yX8_holds cX8_holds 3 (some .boolean), Cond.methodLink RX2 100 yX2_foughtAt, Cond.instanceMethod yX2_foughtAt, Cond.selects RX2 yX2_foughtAt yX2_foughtAt, Cond.code yX2_foughtAt cX2_foughtAt 3 (some .long)]
def wsX2_quarrelCount_r2 : List Cond := [Cond.fieldLink RX2 9 "TermsDesk$Flow" "arrived" "[J", Cond.fieldLink RX2 18 "TermsDesk$Flow" "terms" "LTermsDesk$Terms;", Cond.methodLink RX2 104 yJ13_bitCount_95d88, Cond.static yJ13_bitCount_95d88, Cond.initialized RJ13, Cond.code yJ13_bitCount_95d88 cJ13_bitCount_95d88 2 (some .int), Cond.constantLong RJ13 314 (6148914691236517205), Cond.constantLong RJ13 316 (3689348814741910323), Cond.constantLong RJ13 318 (1085102592571150095)]
def wsX2_quarrelCount : List Cond := .code yX2_quarrelCount cX2_quarrelCount 7 (some .int) :: ((wsX2_quarrelCount_r1 ++ wsX2_quarrelCount_r2) ++ wsX20 ++ wsX50 ++ wsX30 ++ wsX60)
def wsX2_pairAt : List Cond := .code yX2_pairAt cX2_pairAt 5 (some .int) :: ([.static yX8_holds, .initialized RX8, .code yX8_holds cX8_holds 3 (some .boolean)])
def wsX2_quarrelAt_r1 : List Cond := [Cond.fieldLink RX2 26 "TermsDesk$Flow" "joins" "LTermsDesk$Joins;", Cond.fieldLink RX2 22 "TermsDesk$Flow" "parts" "LTermsDesk$Parts;", Cond.methodLink RX2 96 yX2_ofProduct, Cond.instanceMethod yX2_ofProduct, Cond.selects RX2 yX2_ofProduct yX2_ofProduct, Cond.initialized RX2, Cond.code yX2_ofProduct cX2_ofProduct 3 (some .int), Cond.methodLink RX2 92 yX3_allIn, Cond.instanceMethod yX3_allIn, Cond.selects RX3 yX3_allIn yX3_allIn, Cond.initialized RX3, Cond.code yX3_allIn cX3_allIn 9 (some .int), Cond.fieldLink RX3 21 "TermsDesk$Joins" "order" "[I", Cond.fieldLink RX3 27 "TermsDesk$Joins" "begin" "[I", Cond.fieldLink RX3 30 "TermsDesk$Joins" "end" "[I", Cond.fieldLink RX3 24 "TermsDesk$Joins" "sorted" "[I", Cond.fieldLink RX3 9 "TermsDesk$Joins" "from" "[I", Cond.static yX8_holds, Cond.initialized RX8, Cond.code yX8_holds cX8_holds 3 (some .boolean), Cond.methodLink RX2 100 yX2_foughtAt, Cond.instanceMethod yX2_foughtAt, Cond.selects RX2 yX2_foughtAt yX2_foughtAt, Cond.code yX2_foughtAt cX2_foughtAt 3 (some .long)]
def wsX2_quarrelAt_r2 : List Cond := [Cond.fieldLink RX2 9 "TermsDesk$Flow" "arrived" "[J", Cond.fieldLink RX2 18 "TermsDesk$Flow" "terms" "LTermsDesk$Terms;", Cond.methodLink RX2 104 yJ13_bitCount_95d88, Cond.static yJ13_bitCount_95d88, Cond.initialized RJ13, Cond.code yJ13_bitCount_95d88 cJ13_bitCount_95d88 2 (some .int), Cond.constantLong RJ13 314 (6148914691236517205), Cond.constantLong RJ13 316 (3689348814741910323), Cond.constantLong RJ13 318 (1085102592571150095), Cond.methodLink RX2 116 yX2_pairAt, Cond.static yX2_pairAt, Cond.code yX2_pairAt cX2_pairAt 5 (some .int)]
def wsX2_quarrelAt : List Cond := .code yX2_quarrelAt cX2_quarrelAt 8 (some .int) :: ((wsX2_quarrelAt_r1 ++ wsX2_quarrelAt_r2) ++ wsX20 ++ wsX30 ++ wsX50 ++ wsX60)
def wsX2_unlike_r1 : List Cond := [Cond.fieldLink RX2 22 "TermsDesk$Flow" "parts" "LTermsDesk$Parts;", Cond.fieldLink RX2 26 "TermsDesk$Flow" "joins" "LTermsDesk$Joins;", Cond.fieldLink RX2 9 "TermsDesk$Flow" "arrived" "[J", Cond.fieldLink RX2 15 "TermsDesk$Flow" "earlier" "[J", Cond.methodLink RX2 124 arraycopyName, Cond.native arraycopyName, Cond.static arraycopyName, Cond.initialized "java/lang/System", Cond.methodLink RX2 120 yX2_run, Cond.instanceMethod yX2_run, Cond.selects RX2 yX2_run yX2_run, Cond.initialized RX2, Cond.code yX2_run cX2_run 7 none, Cond.methodLink RX2 52 yX2_brought, Cond.instanceMethod yX2_brought, Cond.selects RX2 yX2_brought yX2_brought, Cond.code yX2_brought cX2_brought 4 (some .long), Cond.fieldLink RX2 18 "TermsDesk$Flow" "terms" "LTermsDesk$Terms;", Cond.constantLong RX2 44 (-1), Cond.static yX8_pairsOf, Cond.initialized RX8, Cond.code yX8_pairsOf cX8_pairsOf 1 (some .long), Cond.constantLong RX8 216 (255), Cond.methodLink RX8 80 yX8_pairOf]
def wsX2_unlike_r2 : List Cond := [Cond.static yX8_pairOf, Cond.code yX8_pairOf cX8_pairOf 2 (some .int), Cond.methodLink RX2 56 yX2_arrive, Cond.instanceMethod yX2_arrive, Cond.selects RX2 yX2_arrive yX2_arrive, Cond.code yX2_arrive cX2_arrive 10 none, Cond.static yX8_holds, Cond.code yX8_holds cX8_holds 3 (some .boolean), Cond.methodLink RX2 96 yX2_ofProduct, Cond.instanceMethod yX2_ofProduct, Cond.selects RX2 yX2_ofProduct yX2_ofProduct, Cond.code yX2_ofProduct cX2_ofProduct 3 (some .int), Cond.methodLink RX2 92 yX3_allIn, Cond.instanceMethod yX3_allIn, Cond.selects RX3 yX3_allIn yX3_allIn, Cond.initialized RX3, Cond.code yX3_allIn cX3_allIn 9 (some .int), Cond.fieldLink RX3 21 "TermsDesk$Joins" "order" "[I", Cond.fieldLink RX3 27 "TermsDesk$Joins" "begin" "[I", Cond.fieldLink RX3 30 "TermsDesk$Joins" "end" "[I", Cond.fieldLink RX3 24 "TermsDesk$Joins" "sorted" "[I", Cond.fieldLink RX3 9 "TermsDesk$Joins" "from" "[I"]
def wsX2_unlike : List Cond := .code yX2_unlike cX2_unlike 5 (some .int) :: ((wsX2_unlike_r1 ++ wsX2_unlike_r2) ++ wsX20 ++ wsX50 ++ wsX30 ++ wsX60)
def wsX2_wayCount : List Cond := .code yX2_wayCount cX2_wayCount 4 (some .int) :: ([.fieldLink RX2 26 "TermsDesk$Flow" "joins" "LTermsDesk$Joins;", .fieldLink RX2 22 "TermsDesk$Flow" "parts" "LTermsDesk$Parts;", .methodLink RX2 96 yX2_ofProduct, .instanceMethod yX2_ofProduct, .selects RX2 yX2_ofProduct yX2_ofProduct, .initialized RX2, .code yX2_ofProduct cX2_ofProduct 3 (some .int), .methodLink RX2 92 yX3_allIn, .instanceMethod yX3_allIn, .selects RX3 yX3_allIn yX3_allIn, .initialized RX3, .code yX3_allIn cX3_allIn 9 (some .int), .fieldLink RX3 21 "TermsDesk$Joins" "order" "[I", .fieldLink RX3 27 "TermsDesk$Joins" "begin" "[I", .fieldLink RX3 30 "TermsDesk$Joins" "end" "[I", .fieldLink RX3 24 "TermsDesk$Joins" "sorted" "[I", .fieldLink RX3 9 "TermsDesk$Joins" "from" "[I", .static yX8_holds, .initialized RX8, .code yX8_holds cX8_holds 3 (some .boolean)] ++ wsX20 ++ wsX30 ++ wsX50)
def wsX3_init : List Cond := .code yX3_init cX3_init 2 none :: ([.methodLink RX3 3 objectInit, .instanceMethod objectInit, .code objectInit ⟨#[0xb1]⟩ 1 none, .arrayClass .int, .fieldLink RX3 9 "TermsDesk$Joins" "from" "[I", .fieldLink RX3 15 "TermsDesk$Joins" "to" "[I", .fieldLink RX3 18 "TermsDesk$Joins" "kind" "[I", .fieldLink RX3 21 "TermsDesk$Joins" "order" "[I", .fieldLink RX3 24 "TermsDesk$Joins" "sorted" "[I", .fieldLink RX3 27 "TermsDesk$Joins" "begin" "[I", .fieldLink RX3 30 "TermsDesk$Joins" "end" "[I"] ++ wsX30)
def wsX8_within : List Cond := .code yX8_within cX8_within 2 (some .boolean) :: ([])
def wsX3_isThere : List Cond := .code yX3_isThere cX3_isThere 2 (some .boolean) :: ([.fieldLink RX3 33 "TermsDesk$Joins" "told" "I", .fieldLink RX3 41 "TermsDesk$Joins" "there" "J", .static yX8_within, .initialized RX8, .code yX8_within cX8_within 2 (some .boolean), .static yX8_holds, .code yX8_holds cX8_holds 3 (some .boolean)] ++ wsX30)
def wsX3_leads : List Cond := .code yX3_leads cX3_leads 4 (some .boolean) :: ([.fieldLink RX3 27 "TermsDesk$Joins" "begin" "[I", .fieldLink RX3 30 "TermsDesk$Joins" "end" "[I", .fieldLink RX3 9 "TermsDesk$Joins" "from" "[I", .fieldLink RX3 24 "TermsDesk$Joins" "sorted" "[I"] ++ wsX30)
def wsX3_sortJoins : List Cond := .code yX3_sortJoins cX3_sortJoins 4 none :: ([.fieldLink RX3 27 "TermsDesk$Joins" "begin" "[I", .fieldLink RX3 33 "TermsDesk$Joins" "told" "I", .fieldLink RX3 15 "TermsDesk$Joins" "to" "[I", .fieldLink RX3 41 "TermsDesk$Joins" "there" "J", .fieldLink RX3 24 "TermsDesk$Joins" "sorted" "[I", .fieldLink RX3 30 "TermsDesk$Joins" "end" "[I", .static yX8_holds, .initialized RX8, .code yX8_holds cX8_holds 3 (some .boolean)] ++ wsX30)
def wsX3_directlyIn : List Cond := .code yX3_directlyIn cX3_directlyIn 4 (some .int) :: ([.fieldLink RX3 27 "TermsDesk$Joins" "begin" "[I", .fieldLink RX3 30 "TermsDesk$Joins" "end" "[I", .fieldLink RX3 9 "TermsDesk$Joins" "from" "[I", .fieldLink RX3 24 "TermsDesk$Joins" "sorted" "[I"] ++ wsX30)
def wsX3_orderParts : List Cond := .code yX3_orderParts cX3_orderParts 5 none :: ([.fieldLink RX3 21 "TermsDesk$Joins" "order" "[I", .static yX8_holds, .initialized RX8, .code yX8_holds cX8_holds 3 (some .boolean), .methodLink RX3 57 yX3_directlyIn, .instanceMethod yX3_directlyIn, .selects RX3 yX3_directlyIn yX3_directlyIn, .initialized RX3, .code yX3_directlyIn cX3_directlyIn 4 (some .int), .fieldLink RX3 27 "TermsDesk$Joins" "begin" "[I", .fieldLink RX3 30 "TermsDesk$Joins" "end" "[I", .fieldLink RX3 9 "TermsDesk$Joins" "from" "[I", .fieldLink RX3 24 "TermsDesk$Joins" "sorted" "[I"] ++ wsX30)
def wsX3_add_r1 : List Cond := [Cond.fieldLink RX3 33 "TermsDesk$Joins" "told" "I", Cond.fieldLink RX3 9 "TermsDesk$Joins" "from" "[I", Cond.fieldLink RX3 15 "TermsDesk$Joins" "to" "[I", Cond.fieldLink RX3 18 "TermsDesk$Joins" "kind" "[I", Cond.fieldLink RX3 41 "TermsDesk$Joins" "there" "J", Cond.methodLink RX3 49 yX3_sortJoins, Cond.instanceMethod yX3_sortJoins, Cond.selects RX3 yX3_sortJoins yX3_sortJoins, Cond.initialized RX3, Cond.code yX3_sortJoins cX3_sortJoins 4 none, Cond.fieldLink RX3 27 "TermsDesk$Joins" "begin" "[I", Cond.fieldLink RX3 24 "TermsDesk$Joins" "sorted" "[I", Cond.fieldLink RX3 30 "TermsDesk$Joins" "end" "[I", Cond.static yX8_holds, Cond.initialized RX8, Cond.code yX8_holds cX8_holds 3 (some .boolean), Cond.methodLink RX3 52 yX3_orderParts, Cond.instanceMethod yX3_orderParts, Cond.selects RX3 yX3_orderParts yX3_orderParts, Cond.code yX3_orderParts cX3_orderParts 5 none, Cond.fieldLink RX3 21 "TermsDesk$Joins" "order" "[I", Cond.methodLink RX3 57 yX3_directlyIn, Cond.instanceMethod yX3_directlyIn, Cond.selects RX3 yX3_directlyIn yX3_directlyIn]
def wsX3_add_r2 : List Cond := [Cond.code yX3_directlyIn cX3_directlyIn 4 (some .int)]
def wsX3_add : List Cond := .code yX3_add cX3_add 5 (some .int) :: ((wsX3_add_r1 ++ wsX3_add_r2) ++ wsX30)
def wsX3_remove : List Cond := .code yX3_remove cX3_remove 2 none :: ([.fieldLink RX3 41 "TermsDesk$Joins" "there" "J", .constantLong RX3 55 (-1), .methodLink RX3 49 yX3_sortJoins, .instanceMethod yX3_sortJoins, .selects RX3 yX3_sortJoins yX3_sortJoins, .initialized RX3, .code yX3_sortJoins cX3_sortJoins 4 none, .fieldLink RX3 27 "TermsDesk$Joins" "begin" "[I", .fieldLink RX3 33 "TermsDesk$Joins" "told" "I", .fieldLink RX3 15 "TermsDesk$Joins" "to" "[I", .fieldLink RX3 24 "TermsDesk$Joins" "sorted" "[I", .fieldLink RX3 30 "TermsDesk$Joins" "end" "[I", .static yX8_holds, .initialized RX8, .code yX8_holds cX8_holds 3 (some .boolean)] ++ wsX30)
def wsX3_countInto : List Cond := .code yX3_countInto cX3_countInto 2 (some .int) :: ([.fieldLink RX3 30 "TermsDesk$Joins" "end" "[I", .fieldLink RX3 27 "TermsDesk$Joins" "begin" "[I"] ++ wsX30)
def wsX3_countOutOf : List Cond := .code yX3_countOutOf cX3_countOutOf 4 (some .int) :: ([.fieldLink RX3 33 "TermsDesk$Joins" "told" "I", .fieldLink RX3 9 "TermsDesk$Joins" "from" "[I", .fieldLink RX3 41 "TermsDesk$Joins" "there" "J", .static yX8_holds, .initialized RX8, .code yX8_holds cX8_holds 3 (some .boolean)] ++ wsX30)
def wsX4_init : List Cond := .code yX4_init cX4_init 5 none :: ([.methodLink RX4 3 objectInit, .instanceMethod objectInit, .code objectInit ⟨#[0xb1]⟩ 1 none, .arrayClass .int, .fieldLink RX4 9 "TermsDesk$Mender" "licence" "[I", .fieldLink RX4 15 "TermsDesk$Mender" "parts" "LTermsDesk$Parts;", .fieldLink RX4 19 "TermsDesk$Mender" "joins" "LTermsDesk$Joins;", .fieldLink RX4 23 "TermsDesk$Mender" "changes" "LTermsDesk$Changes;", .fieldLink RX4 27 "TermsDesk$Mender" "flow" "LTermsDesk$Flow;"] ++ wsX40)
def wsX4_endsQuarrels_r1 : List Cond := [Cond.fieldLink RX4 15 "TermsDesk$Mender" "parts" "LTermsDesk$Parts;", Cond.fieldLink RX4 9 "TermsDesk$Mender" "licence" "[I", Cond.methodLink RX4 47 arraycopyName, Cond.native arraycopyName, Cond.static arraycopyName, Cond.initialized "java/lang/System", Cond.fieldLink RX4 19 "TermsDesk$Mender" "joins" "LTermsDesk$Joins;", Cond.fieldLink RX4 23 "TermsDesk$Mender" "changes" "LTermsDesk$Changes;", Cond.constantLong RX4 70 (-1), Cond.fieldLink RX4 27 "TermsDesk$Mender" "flow" "LTermsDesk$Flow;", Cond.static yX8_holds, Cond.initialized RX8, Cond.code yX8_holds cX8_holds 3 (some .boolean), Cond.methodLink RX4 72 yX2_run, Cond.instanceMethod yX2_run, Cond.selects RX2 yX2_run yX2_run, Cond.initialized RX2, Cond.code yX2_run cX2_run 7 none, Cond.fieldLink RX2 26 "TermsDesk$Flow" "joins" "LTermsDesk$Joins;", Cond.methodLink RX2 52 yX2_brought, Cond.instanceMethod yX2_brought, Cond.selects RX2 yX2_brought yX2_brought, Cond.code yX2_brought cX2_brought 4 (some .long), Cond.fieldLink RX2 18 "TermsDesk$Flow" "terms" "LTermsDesk$Terms;"]
def wsX4_endsQuarrels_r2 : List Cond := [Cond.fieldLink RX2 22 "TermsDesk$Flow" "parts" "LTermsDesk$Parts;", Cond.constantLong RX2 44 (-1), Cond.static yX8_pairsOf, Cond.code yX8_pairsOf cX8_pairsOf 1 (some .long), Cond.constantLong RX8 216 (255), Cond.methodLink RX8 80 yX8_pairOf, Cond.static yX8_pairOf, Cond.code yX8_pairOf cX8_pairOf 2 (some .int), Cond.methodLink RX2 56 yX2_arrive, Cond.instanceMethod yX2_arrive, Cond.selects RX2 yX2_arrive yX2_arrive, Cond.code yX2_arrive cX2_arrive 10 none, Cond.fieldLink RX2 9 "TermsDesk$Flow" "arrived" "[J", Cond.methodLink RX4 78 yX2_quarrelCount, Cond.instanceMethod yX2_quarrelCount, Cond.selects RX2 yX2_quarrelCount yX2_quarrelCount, Cond.code yX2_quarrelCount cX2_quarrelCount 7 (some .int), Cond.methodLink RX2 96 yX2_ofProduct, Cond.instanceMethod yX2_ofProduct, Cond.selects RX2 yX2_ofProduct yX2_ofProduct, Cond.code yX2_ofProduct cX2_ofProduct 3 (some .int), Cond.methodLink RX2 92 yX3_allIn, Cond.instanceMethod yX3_allIn, Cond.selects RX3 yX3_allIn yX3_allIn]
def wsX4_endsQuarrels_r3 : List Cond := [Cond.initialized RX3, Cond.code yX3_allIn cX3_allIn 9 (some .int), Cond.fieldLink RX3 21 "TermsDesk$Joins" "order" "[I", Cond.fieldLink RX3 27 "TermsDesk$Joins" "begin" "[I", Cond.fieldLink RX3 30 "TermsDesk$Joins" "end" "[I", Cond.fieldLink RX3 24 "TermsDesk$Joins" "sorted" "[I", Cond.fieldLink RX3 9 "TermsDesk$Joins" "from" "[I", Cond.methodLink RX2 100 yX2_foughtAt, Cond.instanceMethod yX2_foughtAt, Cond.selects RX2 yX2_foughtAt yX2_foughtAt, Cond.code yX2_foughtAt cX2_foughtAt 3 (some .long), Cond.methodLink RX2 104 yJ13_bitCount_95d88, Cond.static yJ13_bitCount_95d88, Cond.initialized RJ13, Cond.code yJ13_bitCount_95d88 cJ13_bitCount_95d88 2 (some .int), Cond.constantLong RJ13 314 (6148914691236517205), Cond.constantLong RJ13 316 (3689348814741910323), Cond.constantLong RJ13 318 (1085102592571150095)]
def wsX4_endsQuarrels : List Cond := .code yX4_endsQuarrels cX4_endsQuarrels 6 (some .boolean) :: ((wsX4_endsQuarrels_r1 ++ (wsX4_endsQuarrels_r2 ++ wsX4_endsQuarrels_r3)) ++ wsX40 ++ wsX50 ++ wsX30 ++ wsX00 ++ wsX20 ++ wsX60)
def wsX4_cheapestSet_r1 : List Cond := [Cond.fieldLink RX4 23 "TermsDesk$Mender" "changes" "LTermsDesk$Changes;", Cond.methodLink RX4 37 yX0_isBetter, Cond.instanceMethod yX0_isBetter, Cond.selects RX0 yX0_isBetter yX0_isBetter, Cond.initialized RX0, Cond.code yX0_isBetter cX0_isBetter 5 (some .boolean), Cond.methodLink RX0 32 yX0_priceOf, Cond.instanceMethod yX0_priceOf, Cond.selects RX0 yX0_priceOf yX0_priceOf, Cond.code yX0_priceOf cX0_priceOf 4 (some .int), Cond.fieldLink RX0 24 "TermsDesk$Changes" "told" "I", Cond.fieldLink RX0 21 "TermsDesk$Changes" "cost" "[I", Cond.static yX8_holds, Cond.initialized RX8, Cond.code yX8_holds cX8_holds 3 (some .boolean), Cond.methodLink RX0 36 yJ6_compare_7cf53, Cond.static yJ6_compare_7cf53, Cond.initialized RJ6, Cond.code yJ6_compare_7cf53 cJ6_compare_7cf53 2 (some .int), Cond.methodLink RX0 42 yJ6_bitCount_0f7a4, Cond.static yJ6_bitCount_0f7a4, Cond.code yJ6_bitCount_0f7a4 cJ6_bitCount_0f7a4 1 (some .int), Cond.constant RJ6 265 (1431655765), Cond.constant RJ6 266 (858993459)]
def wsX4_cheapestSet_r2 : List Cond := [Cond.constant RJ6 267 (252645135), Cond.methodLink RX0 45 yJ6_lowestOneBit_0f7a4, Cond.static yJ6_lowestOneBit_0f7a4, Cond.code yJ6_lowestOneBit_0f7a4 cJ6_lowestOneBit_0f7a4 1 (some .int), Cond.methodLink RX4 41 yX4_endsQuarrels, Cond.instanceMethod yX4_endsQuarrels, Cond.selects RX4 yX4_endsQuarrels yX4_endsQuarrels, Cond.initialized RX4, Cond.code yX4_endsQuarrels cX4_endsQuarrels 6 (some .boolean), Cond.fieldLink RX4 15 "TermsDesk$Mender" "parts" "LTermsDesk$Parts;", Cond.fieldLink RX4 9 "TermsDesk$Mender" "licence" "[I", Cond.methodLink RX4 47 arraycopyName, Cond.native arraycopyName, Cond.static arraycopyName, Cond.initialized "java/lang/System", Cond.fieldLink RX4 19 "TermsDesk$Mender" "joins" "LTermsDesk$Joins;", Cond.constantLong RX4 70 (-1), Cond.fieldLink RX4 27 "TermsDesk$Mender" "flow" "LTermsDesk$Flow;", Cond.methodLink RX4 72 yX2_run, Cond.instanceMethod yX2_run, Cond.selects RX2 yX2_run yX2_run, Cond.initialized RX2, Cond.code yX2_run cX2_run 7 none, Cond.fieldLink RX2 26 "TermsDesk$Flow" "joins" "LTermsDesk$Joins;"]
def wsX4_cheapestSet_r3 : List Cond := [Cond.methodLink RX2 52 yX2_brought, Cond.instanceMethod yX2_brought, Cond.selects RX2 yX2_brought yX2_brought, Cond.code yX2_brought cX2_brought 4 (some .long), Cond.fieldLink RX2 18 "TermsDesk$Flow" "terms" "LTermsDesk$Terms;", Cond.fieldLink RX2 22 "TermsDesk$Flow" "parts" "LTermsDesk$Parts;", Cond.constantLong RX2 44 (-1), Cond.static yX8_pairsOf, Cond.code yX8_pairsOf cX8_pairsOf 1 (some .long), Cond.constantLong RX8 216 (255), Cond.methodLink RX8 80 yX8_pairOf, Cond.static yX8_pairOf, Cond.code yX8_pairOf cX8_pairOf 2 (some .int), Cond.methodLink RX2 56 yX2_arrive, Cond.instanceMethod yX2_arrive, Cond.selects RX2 yX2_arrive yX2_arrive, Cond.code yX2_arrive cX2_arrive 10 none, Cond.fieldLink RX2 9 "TermsDesk$Flow" "arrived" "[J", Cond.methodLink RX4 78 yX2_quarrelCount, Cond.instanceMethod yX2_quarrelCount, Cond.selects RX2 yX2_quarrelCount yX2_quarrelCount, Cond.code yX2_quarrelCount cX2_quarrelCount 7 (some .int), Cond.methodLink RX2 96 yX2_ofProduct, Cond.instanceMethod yX2_ofProduct]
def wsX4_cheapestSet_r4 : List Cond := [Cond.selects RX2 yX2_ofProduct yX2_ofProduct, Cond.code yX2_ofProduct cX2_ofProduct 3 (some .int), Cond.methodLink RX2 92 yX3_allIn, Cond.instanceMethod yX3_allIn, Cond.selects RX3 yX3_allIn yX3_allIn, Cond.initialized RX3, Cond.code yX3_allIn cX3_allIn 9 (some .int), Cond.fieldLink RX3 21 "TermsDesk$Joins" "order" "[I", Cond.fieldLink RX3 27 "TermsDesk$Joins" "begin" "[I", Cond.fieldLink RX3 30 "TermsDesk$Joins" "end" "[I", Cond.fieldLink RX3 24 "TermsDesk$Joins" "sorted" "[I", Cond.fieldLink RX3 9 "TermsDesk$Joins" "from" "[I", Cond.methodLink RX2 100 yX2_foughtAt, Cond.instanceMethod yX2_foughtAt, Cond.selects RX2 yX2_foughtAt yX2_foughtAt, Cond.code yX2_foughtAt cX2_foughtAt 3 (some .long), Cond.methodLink RX2 104 yJ13_bitCount_95d88, Cond.static yJ13_bitCount_95d88, Cond.initialized RJ13, Cond.code yJ13_bitCount_95d88 cJ13_bitCount_95d88 2 (some .int), Cond.constantLong RJ13 314 (6148914691236517205), Cond.constantLong RJ13 316 (3689348814741910323), Cond.constantLong RJ13 318 (1085102592571150095)]
def wsX4_cheapestSet : List Cond := .code yX4_cheapestSet cX4_cheapestSet 5 (some .int) :: ((wsX4_cheapestSet_r1 ++ (wsX4_cheapestSet_r2 ++ (wsX4_cheapestSet_r3 ++ wsX4_cheapestSet_r4))) ++ wsX40 ++ wsX00 ++ wsX50 ++ wsX30 ++ wsX20 ++ wsX60)
def wsX5_init : List Cond := .code yX5_init cX5_init 1 none :: ([.methodLink RX5 3 objectInit, .instanceMethod objectInit, .code objectInit ⟨#[0xb1]⟩ 1 none, .arrayClass .int, .fieldLink RX5 9 "TermsDesk$Parts" "choices" "[I", .fieldLink RX5 15 "TermsDesk$Parts" "choiceCount" "[I", .fieldLink RX5 18 "TermsDesk$Parts" "licence" "[I", .arrayClass .long, .fieldLink RX5 21 "TermsDesk$Parts" "lifted" "[J"] ++ wsX50)
def wsX5_has : List Cond := .code yX5_has cX5_has 2 (some .boolean) :: ([.fieldLink RX5 25 "TermsDesk$Parts" "told" "I", .static yX8_within, .initialized RX8, .code yX8_within cX8_within 2 (some .boolean)] ++ wsX50)
def wsX5_add : List Cond := .code yX5_add cX5_add 5 (some .int) :: ([.fieldLink RX5 25 "TermsDesk$Parts" "told" "I", .fieldLink RX5 9 "TermsDesk$Parts" "choices" "[I", .fieldLink RX5 15 "TermsDesk$Parts" "choiceCount" "[I", .fieldLink RX5 18 "TermsDesk$Parts" "licence" "[I"] ++ wsX50)
def wsX6_init : List Cond := .code yX6_init cX6_init 1 none :: ([.methodLink RX6 3 objectInit, .instanceMethod objectInit, .code objectInit ⟨#[0xb1]⟩ 1 none, .arrayClass .long, .fieldLink RX6 9 "TermsDesk$Terms" "asked" "[J", .fieldLink RX6 15 "TermsDesk$Terms" "along" "[J", .fieldLink RX6 18 "TermsDesk$Terms" "fought" "[J"] ++ wsX60)
def wsX6_spread : List Cond := .code yX6_spread cX6_spread 6 none :: ([.constantLong RX6 25 (-1), .static yX8_holds, .initialized RX8, .code yX8_holds cX8_holds 3 (some .boolean)])
def wsX6_tellAsk : List Cond := .code yX6_tellAsk cX6_tellAsk 4 none :: ([.fieldLink RX6 9 "TermsDesk$Terms" "asked" "[J", .fieldLink RX6 15 "TermsDesk$Terms" "along" "[J", .methodLink RX6 21 yX6_spread, .static yX6_spread, .initialized RX6, .code yX6_spread cX6_spread 6 none, .constantLong RX6 25 (-1), .static yX8_holds, .initialized RX8, .code yX8_holds cX8_holds 3 (some .boolean)] ++ wsX60)
def wsX6_tellBars : List Cond := .code yX6_tellBars cX6_tellBars 6 none :: ([.fieldLink RX6 18 "TermsDesk$Terms" "fought" "[J", .static yX8_pairOf, .initialized RX8, .code yX8_pairOf cX8_pairOf 2 (some .int)] ++ wsX60)
def wsX7_init : List Cond := .code yX7_init cX7_init 5 none :: ([.methodLink RX7 3 objectInit, .instanceMethod objectInit, .code objectInit ⟨#[0xb1]⟩ 1 none, .arrayClass .int, .fieldLink RX7 9 "TermsDesk$Tracer" "steps" "[I", .fieldLink RX7 15 "TermsDesk$Tracer" "terms" "LTermsDesk$Terms;", .fieldLink RX7 19 "TermsDesk$Tracer" "parts" "LTermsDesk$Parts;", .fieldLink RX7 23 "TermsDesk$Tracer" "joins" "LTermsDesk$Joins;", .fieldLink RX7 27 "TermsDesk$Tracer" "flow" "LTermsDesk$Flow;"] ++ wsX70)
def wsX7_goes : List Cond := .code yX7_goes cX7_goes 3 (some .boolean) :: ([.fieldLink RX7 15 "TermsDesk$Tracer" "terms" "LTermsDesk$Terms;", .fieldLink RX7 23 "TermsDesk$Tracer" "joins" "LTermsDesk$Joins;", .static yX8_holds, .initialized RX8, .code yX8_holds cX8_holds 3 (some .boolean)] ++ wsX70 ++ wsX60 ++ wsX30)
def wsX7_measureInto : List Cond := .code yX7_measureInto cX7_measureInto 7 none :: ([.fieldLink RX7 9 "TermsDesk$Tracer" "steps" "[I", .fieldLink RX7 23 "TermsDesk$Tracer" "joins" "LTermsDesk$Joins;", .methodLink RX7 100 yX7_goes, .instanceMethod yX7_goes, .selects RX7 yX7_goes yX7_goes, .initialized RX7, .code yX7_goes cX7_goes 3 (some .boolean), .fieldLink RX7 15 "TermsDesk$Tracer" "terms" "LTermsDesk$Terms;", .static yX8_holds, .initialized RX8, .code yX8_holds cX8_holds 3 (some .boolean)] ++ wsX70 ++ wsX30 ++ wsX60)
def wsX7_measure : List Cond := .code yX7_measure cX7_measure 5 none :: ([.fieldLink RX7 9 "TermsDesk$Tracer" "steps" "[I", .fieldLink RX7 23 "TermsDesk$Tracer" "joins" "LTermsDesk$Joins;", .methodLink RX7 85 yX7_measureInto, .instanceMethod yX7_measureInto, .selects RX7 yX7_measureInto yX7_measureInto, .initialized RX7, .code yX7_measureInto cX7_measureInto 7 none, .methodLink RX7 100 yX7_goes, .instanceMethod yX7_goes, .selects RX7 yX7_goes yX7_goes, .code yX7_goes cX7_goes 3 (some .boolean), .fieldLink RX7 15 "TermsDesk$Tracer" "terms" "LTermsDesk$Terms;", .static yX8_holds, .initialized RX8, .code yX8_holds cX8_holds 3 (some .boolean)] ++ wsX70 ++ wsX30 ++ wsX60)
def wsX7_brings : List Cond := .code yX7_brings cX7_brings 4 (some .boolean) :: ([.fieldLink RX7 27 "TermsDesk$Tracer" "flow" "LTermsDesk$Flow;", .fieldLink RX7 19 "TermsDesk$Tracer" "parts" "LTermsDesk$Parts;", .methodLink RX7 61 yX2_brought, .instanceMethod yX2_brought, .selects RX2 yX2_brought yX2_brought, .initialized RX2, .code yX2_brought cX2_brought 4 (some .long), .fieldLink RX2 18 "TermsDesk$Flow" "terms" "LTermsDesk$Terms;", .fieldLink RX2 22 "TermsDesk$Flow" "parts" "LTermsDesk$Parts;", .constantLong RX2 44 (-1), .static yX8_pairsOf, .initialized RX8, .code yX8_pairsOf cX8_pairsOf 1 (some .long), .constantLong RX8 216 (255), .methodLink RX8 80 yX8_pairOf, .static yX8_pairOf, .code yX8_pairOf cX8_pairOf 2 (some .int), .static yX8_holds, .code yX8_holds cX8_holds 3 (some .boolean)] ++ wsX70 ++ wsX50 ++ wsX20 ++ wsX60)
def wsX7_source_r1 : List Cond := [Cond.fieldLink RX7 19 "TermsDesk$Tracer" "parts" "LTermsDesk$Parts;", Cond.fieldLink RX7 9 "TermsDesk$Tracer" "steps" "[I", Cond.methodLink RX7 54 yX7_brings, Cond.instanceMethod yX7_brings, Cond.selects RX7 yX7_brings yX7_brings, Cond.initialized RX7, Cond.code yX7_brings cX7_brings 4 (some .boolean), Cond.fieldLink RX7 27 "TermsDesk$Tracer" "flow" "LTermsDesk$Flow;", Cond.methodLink RX7 61 yX2_brought, Cond.instanceMethod yX2_brought, Cond.selects RX2 yX2_brought yX2_brought, Cond.initialized RX2, Cond.code yX2_brought cX2_brought 4 (some .long), Cond.fieldLink RX2 18 "TermsDesk$Flow" "terms" "LTermsDesk$Terms;", Cond.fieldLink RX2 22 "TermsDesk$Flow" "parts" "LTermsDesk$Parts;", Cond.constantLong RX2 44 (-1), Cond.static yX8_pairsOf, Cond.initialized RX8, Cond.code yX8_pairsOf cX8_pairsOf 1 (some .long), Cond.constantLong RX8 216 (255), Cond.methodLink RX8 80 yX8_pairOf, Cond.static yX8_pairOf, Cond.code yX8_pairOf cX8_pairOf 2 (some .int), Cond.static yX8_holds]
def wsX7_source_r2 : List Cond := [Cond.code yX8_holds cX8_holds 3 (some .boolean)]
def wsX7_source : List Cond := .code yX7_source cX7_source 6 (some .int) :: ((wsX7_source_r1 ++ wsX7_source_r2) ++ wsX70 ++ wsX50 ++ wsX20 ++ wsX60)
def wsX7_next : List Cond := .code yX7_next cX7_next 7 (some .int) :: ([.fieldLink RX7 23 "TermsDesk$Tracer" "joins" "LTermsDesk$Joins;", .fieldLink RX7 9 "TermsDesk$Tracer" "steps" "[I", .methodLink RX7 108 yX3_isThere, .instanceMethod yX3_isThere, .selects RX3 yX3_isThere yX3_isThere, .initialized RX3, .code yX3_isThere cX3_isThere 2 (some .boolean), .fieldLink RX3 33 "TermsDesk$Joins" "told" "I", .fieldLink RX3 41 "TermsDesk$Joins" "there" "J", .static yX8_within, .initialized RX8, .code yX8_within cX8_within 2 (some .boolean), .static yX8_holds, .code yX8_holds cX8_holds 3 (some .boolean), .methodLink RX7 100 yX7_goes, .instanceMethod yX7_goes, .selects RX7 yX7_goes yX7_goes, .initialized RX7, .code yX7_goes cX7_goes 3 (some .boolean), .fieldLink RX7 15 "TermsDesk$Tracer" "terms" "LTermsDesk$Terms;"] ++ wsX70 ++ wsX30 ++ wsX60)
def wsX7_partOnWay_r1 : List Cond := [Cond.fieldLink RX7 9 "TermsDesk$Tracer" "steps" "[I", Cond.methodLink RX7 31 yX7_measure, Cond.instanceMethod yX7_measure, Cond.selects RX7 yX7_measure yX7_measure, Cond.initialized RX7, Cond.code yX7_measure cX7_measure 5 none, Cond.fieldLink RX7 23 "TermsDesk$Tracer" "joins" "LTermsDesk$Joins;", Cond.methodLink RX7 85 yX7_measureInto, Cond.instanceMethod yX7_measureInto, Cond.selects RX7 yX7_measureInto yX7_measureInto, Cond.code yX7_measureInto cX7_measureInto 7 none, Cond.methodLink RX7 100 yX7_goes, Cond.instanceMethod yX7_goes, Cond.selects RX7 yX7_goes yX7_goes, Cond.code yX7_goes cX7_goes 3 (some .boolean), Cond.fieldLink RX7 15 "TermsDesk$Tracer" "terms" "LTermsDesk$Terms;", Cond.static yX8_holds, Cond.initialized RX8, Cond.code yX8_holds cX8_holds 3 (some .boolean), Cond.methodLink RX7 35 yX7_source, Cond.instanceMethod yX7_source, Cond.selects RX7 yX7_source yX7_source, Cond.code yX7_source cX7_source 6 (some .int), Cond.fieldLink RX7 19 "TermsDesk$Tracer" "parts" "LTermsDesk$Parts;"]
def wsX7_partOnWay_r2 : List Cond := [Cond.methodLink RX7 54 yX7_brings, Cond.instanceMethod yX7_brings, Cond.selects RX7 yX7_brings yX7_brings, Cond.code yX7_brings cX7_brings 4 (some .boolean), Cond.fieldLink RX7 27 "TermsDesk$Tracer" "flow" "LTermsDesk$Flow;", Cond.methodLink RX7 61 yX2_brought, Cond.instanceMethod yX2_brought, Cond.selects RX2 yX2_brought yX2_brought, Cond.initialized RX2, Cond.code yX2_brought cX2_brought 4 (some .long), Cond.fieldLink RX2 18 "TermsDesk$Flow" "terms" "LTermsDesk$Terms;", Cond.fieldLink RX2 22 "TermsDesk$Flow" "parts" "LTermsDesk$Parts;", Cond.constantLong RX2 44 (-1), Cond.static yX8_pairsOf, Cond.code yX8_pairsOf cX8_pairsOf 1 (some .long), Cond.constantLong RX8 216 (255), Cond.methodLink RX8 80 yX8_pairOf, Cond.static yX8_pairOf, Cond.code yX8_pairOf cX8_pairOf 2 (some .int), Cond.methodLink RX7 39 yX7_next, Cond.instanceMethod yX7_next, Cond.selects RX7 yX7_next yX7_next, Cond.code yX7_next cX7_next 7 (some .int), Cond.methodLink RX7 108 yX3_isThere]
def wsX7_partOnWay_r3 : List Cond := [Cond.instanceMethod yX3_isThere, Cond.selects RX3 yX3_isThere yX3_isThere, Cond.initialized RX3, Cond.code yX3_isThere cX3_isThere 2 (some .boolean), Cond.fieldLink RX3 33 "TermsDesk$Joins" "told" "I", Cond.fieldLink RX3 41 "TermsDesk$Joins" "there" "J", Cond.static yX8_within, Cond.code yX8_within cX8_within 2 (some .boolean)]
def wsX7_partOnWay : List Cond := .code yX7_partOnWay cX7_partOnWay 7 (some .int) :: ((wsX7_partOnWay_r1 ++ (wsX7_partOnWay_r2 ++ wsX7_partOnWay_r3)) ++ wsX70 ++ wsX30 ++ wsX60 ++ wsX50 ++ wsX20)
def wsX7_noticed_r1 : List Cond := [Cond.fieldLink RX7 19 "TermsDesk$Tracer" "parts" "LTermsDesk$Parts;", Cond.fieldLink RX7 9 "TermsDesk$Tracer" "steps" "[I", Cond.static yX8_pairOf, Cond.initialized RX8, Cond.code yX8_pairOf cX8_pairOf 2 (some .int), Cond.methodLink RX7 31 yX7_measure, Cond.instanceMethod yX7_measure, Cond.selects RX7 yX7_measure yX7_measure, Cond.initialized RX7, Cond.code yX7_measure cX7_measure 5 none, Cond.fieldLink RX7 23 "TermsDesk$Tracer" "joins" "LTermsDesk$Joins;", Cond.methodLink RX7 85 yX7_measureInto, Cond.instanceMethod yX7_measureInto, Cond.selects RX7 yX7_measureInto yX7_measureInto, Cond.code yX7_measureInto cX7_measureInto 7 none, Cond.methodLink RX7 100 yX7_goes, Cond.instanceMethod yX7_goes, Cond.selects RX7 yX7_goes yX7_goes, Cond.code yX7_goes cX7_goes 3 (some .boolean), Cond.fieldLink RX7 15 "TermsDesk$Tracer" "terms" "LTermsDesk$Terms;", Cond.static yX8_holds, Cond.code yX8_holds cX8_holds 3 (some .boolean), Cond.methodLink RX7 54 yX7_brings, Cond.instanceMethod yX7_brings]
def wsX7_noticed_r2 : List Cond := [Cond.selects RX7 yX7_brings yX7_brings, Cond.code yX7_brings cX7_brings 4 (some .boolean), Cond.fieldLink RX7 27 "TermsDesk$Tracer" "flow" "LTermsDesk$Flow;", Cond.methodLink RX7 61 yX2_brought, Cond.instanceMethod yX2_brought, Cond.selects RX2 yX2_brought yX2_brought, Cond.initialized RX2, Cond.code yX2_brought cX2_brought 4 (some .long), Cond.fieldLink RX2 18 "TermsDesk$Flow" "terms" "LTermsDesk$Terms;", Cond.fieldLink RX2 22 "TermsDesk$Flow" "parts" "LTermsDesk$Parts;", Cond.constantLong RX2 44 (-1), Cond.static yX8_pairsOf, Cond.code yX8_pairsOf cX8_pairsOf 1 (some .long), Cond.constantLong RX8 216 (255), Cond.methodLink RX8 80 yX8_pairOf]
def wsX7_noticed : List Cond := .code yX7_noticed cX7_noticed 6 (some .int) :: ((wsX7_noticed_r1 ++ wsX7_noticed_r2) ++ wsX70 ++ wsX50 ++ wsX30 ++ wsX60 ++ wsX20)
def wsX8_init_r1 : List Cond := [Cond.methodLink RX8 1 objectInit, Cond.instanceMethod objectInit, Cond.code objectInit ⟨#[0xb1]⟩ 1 none, Cond.classLink RX8 7 RX6, Cond.instantiable RX6 3, Cond.initialized RX6, Cond.fieldLink RX8 10 "TermsDesk" "terms" "LTermsDesk$Terms;", Cond.classLink RX8 16 RX5, Cond.instantiable RX5 6, Cond.initialized RX5, Cond.fieldLink RX8 19 "TermsDesk" "parts" "LTermsDesk$Parts;", Cond.classLink RX8 23 RX3, Cond.instantiable RX3 9, Cond.initialized RX3, Cond.fieldLink RX8 26 "TermsDesk" "joins" "LTermsDesk$Joins;", Cond.classLink RX8 30 RX0, Cond.instantiable RX0 5, Cond.initialized RX0, Cond.fieldLink RX8 33 "TermsDesk" "changes" "LTermsDesk$Changes;", Cond.classLink RX8 37 RX2, Cond.instantiable RX2 5, Cond.initialized RX2, Cond.fieldLink RX8 42 "TermsDesk" "flow" "LTermsDesk$Flow;", Cond.classLink RX8 46 RX1]
def wsX8_init_r2 : List Cond := [Cond.instantiable RX1 10, Cond.initialized RX1, Cond.fieldLink RX8 51 "TermsDesk" "chooser" "LTermsDesk$Chooser;", Cond.classLink RX8 55 RX4, Cond.instantiable RX4 5, Cond.initialized RX4, Cond.fieldLink RX8 60 "TermsDesk" "mender" "LTermsDesk$Mender;", Cond.classLink RX8 64 RX7, Cond.instantiable RX7 5, Cond.initialized RX7, Cond.fieldLink RX8 69 "TermsDesk" "tracer" "LTermsDesk$Tracer;", Cond.instanceMethod yX6_init, Cond.code yX6_init cX6_init 1 none, Cond.methodLink RX6 3 objectInit, Cond.arrayClass .long, Cond.fieldLink RX6 9 "TermsDesk$Terms" "asked" "[J", Cond.fieldLink RX6 15 "TermsDesk$Terms" "along" "[J", Cond.fieldLink RX6 18 "TermsDesk$Terms" "fought" "[J", Cond.instanceMethod yX5_init, Cond.code yX5_init cX5_init 1 none, Cond.methodLink RX5 3 objectInit, Cond.arrayClass .int, Cond.fieldLink RX5 9 "TermsDesk$Parts" "choices" "[I", Cond.fieldLink RX5 15 "TermsDesk$Parts" "choiceCount" "[I"]
def wsX8_init_r3 : List Cond := [Cond.fieldLink RX5 18 "TermsDesk$Parts" "licence" "[I", Cond.fieldLink RX5 21 "TermsDesk$Parts" "lifted" "[J", Cond.methodLink RX8 25 yX3_init, Cond.instanceMethod yX3_init, Cond.code yX3_init cX3_init 2 none, Cond.methodLink RX3 3 objectInit, Cond.fieldLink RX3 9 "TermsDesk$Joins" "from" "[I", Cond.fieldLink RX3 15 "TermsDesk$Joins" "to" "[I", Cond.fieldLink RX3 18 "TermsDesk$Joins" "kind" "[I", Cond.fieldLink RX3 21 "TermsDesk$Joins" "order" "[I", Cond.fieldLink RX3 24 "TermsDesk$Joins" "sorted" "[I", Cond.fieldLink RX3 27 "TermsDesk$Joins" "begin" "[I", Cond.fieldLink RX3 30 "TermsDesk$Joins" "end" "[I", Cond.instanceMethod yX0_init, Cond.code yX0_init cX0_init 1 none, Cond.methodLink RX0 3 objectInit, Cond.fieldLink RX0 9 "TermsDesk$Changes" "what" "[I", Cond.fieldLink RX0 15 "TermsDesk$Changes" "which" "[I", Cond.fieldLink RX0 18 "TermsDesk$Changes" "licence" "[I", Cond.fieldLink RX0 21 "TermsDesk$Changes" "cost" "[I", Cond.methodLink RX8 39 yX2_init, Cond.instanceMethod yX2_init, Cond.code yX2_init cX2_init 4 none, Cond.methodLink RX2 3 objectInit]
def wsX8_init_r4 : List Cond := [Cond.fieldLink RX2 9 "TermsDesk$Flow" "arrived" "[J", Cond.fieldLink RX2 15 "TermsDesk$Flow" "earlier" "[J", Cond.fieldLink RX2 18 "TermsDesk$Flow" "terms" "LTermsDesk$Terms;", Cond.fieldLink RX2 22 "TermsDesk$Flow" "parts" "LTermsDesk$Parts;", Cond.fieldLink RX2 26 "TermsDesk$Flow" "joins" "LTermsDesk$Joins;", Cond.methodLink RX8 48 yX1_init, Cond.instanceMethod yX1_init, Cond.code yX1_init cX1_init 4 none, Cond.methodLink RX1 3 objectInit, Cond.fieldLink RX1 9 "TermsDesk$Chooser" "line" "[I", Cond.fieldLink RX1 15 "TermsDesk$Chooser" "place" "[I", Cond.fieldLink RX1 18 "TermsDesk$Chooser" "bestPlace" "[I", Cond.fieldLink RX1 21 "TermsDesk$Chooser" "quarrelsBefore" "[I", Cond.fieldLink RX1 24 "TermsDesk$Chooser" "parts" "LTermsDesk$Parts;", Cond.fieldLink RX1 28 "TermsDesk$Chooser" "joins" "LTermsDesk$Joins;", Cond.fieldLink RX1 32 "TermsDesk$Chooser" "flow" "LTermsDesk$Flow;", Cond.methodLink RX8 57 yX4_init, Cond.instanceMethod yX4_init, Cond.code yX4_init cX4_init 5 none, Cond.methodLink RX4 3 objectInit, Cond.fieldLink RX4 9 "TermsDesk$Mender" "licence" "[I", Cond.fieldLink RX4 15 "TermsDesk$Mender" "parts" "LTermsDesk$Parts;", Cond.fieldLink RX4 19 "TermsDesk$Mender" "joins" "LTermsDesk$Joins;", Cond.fieldLink RX4 23 "TermsDesk$Mender" "changes" "LTermsDesk$Changes;"]
def wsX8_init_r5 : List Cond := [Cond.fieldLink RX4 27 "TermsDesk$Mender" "flow" "LTermsDesk$Flow;", Cond.methodLink RX8 66 yX7_init, Cond.instanceMethod yX7_init, Cond.code yX7_init cX7_init 5 none, Cond.methodLink RX7 3 objectInit, Cond.fieldLink RX7 9 "TermsDesk$Tracer" "steps" "[I", Cond.fieldLink RX7 15 "TermsDesk$Tracer" "terms" "LTermsDesk$Terms;", Cond.fieldLink RX7 19 "TermsDesk$Tracer" "parts" "LTermsDesk$Parts;", Cond.fieldLink RX7 23 "TermsDesk$Tracer" "joins" "LTermsDesk$Joins;", Cond.fieldLink RX7 27 "TermsDesk$Tracer" "flow" "LTermsDesk$Flow;"]
def wsX8_init : List Cond := .code yX8_init cX8_init 1 none :: ((wsX8_init_r1 ++ (wsX8_init_r2 ++ (wsX8_init_r3 ++ (wsX8_init_r4 ++ wsX8_init_r5)))) ++ wsX60 ++ wsX80 ++ wsX50 ++ wsX30 ++ wsX00 ++ wsX20 ++ wsX10 ++ wsX40 ++ wsX70)
def wsX8_isPair : List Cond := .code yX8_isPair cX8_isPair 2 (some .boolean) :: ([.methodLink RX8 77 yX8_within, .static yX8_within, .initialized RX8, .code yX8_within cX8_within 2 (some .boolean)])
def wsX8_asks : List Cond := .code yX8_asks cX8_asks 5 (some .boolean) :: ([.fieldLink RX8 10 "TermsDesk" "terms" "LTermsDesk$Terms;", .methodLink RX8 73 yX8_isPair, .static yX8_isPair, .initialized RX8, .code yX8_isPair cX8_isPair 2 (some .boolean), .methodLink RX8 77 yX8_within, .static yX8_within, .code yX8_within cX8_within 2 (some .boolean), .methodLink RX8 80 yX8_pairOf, .static yX8_pairOf, .code yX8_pairOf cX8_pairOf 2 (some .int), .methodLink RX8 84 yX6_tellAsk, .instanceMethod yX6_tellAsk, .selects RX6 yX6_tellAsk yX6_tellAsk, .initialized RX6, .code yX6_tellAsk cX6_tellAsk 4 none, .fieldLink RX6 9 "TermsDesk$Terms" "asked" "[J", .fieldLink RX6 15 "TermsDesk$Terms" "along" "[J", .methodLink RX6 21 yX6_spread, .static yX6_spread, .code yX6_spread cX6_spread 6 none, .constantLong RX6 25 (-1), .static yX8_holds, .code yX8_holds cX8_holds 3 (some .boolean)] ++ wsX80 ++ wsX60)
def wsX8_bars : List Cond := .code yX8_bars cX8_bars 3 (some .boolean) :: ([.fieldLink RX8 10 "TermsDesk" "terms" "LTermsDesk$Terms;", .methodLink RX8 77 yX8_within, .static yX8_within, .initialized RX8, .code yX8_within cX8_within 2 (some .boolean), .methodLink RX8 88 yX6_tellBars, .instanceMethod yX6_tellBars, .selects RX6 yX6_tellBars yX6_tellBars, .initialized RX6, .code yX6_tellBars cX6_tellBars 6 none, .fieldLink RX6 18 "TermsDesk$Terms" "fought" "[J", .static yX8_pairOf, .code yX8_pairOf cX8_pairOf 2 (some .int)] ++ wsX80 ++ wsX60)
def wsX8_isRowOfChoices : List Cond := .code yX8_isRowOfChoices cX8_isRowOfChoices 3 (some .boolean) :: ([.methodLink RX8 77 yX8_within, .static yX8_within, .initialized RX8, .code yX8_within cX8_within 2 (some .boolean)])
def wsX8_part : List Cond := .code yX8_part cX8_part 4 (some .int) :: ([.fieldLink RX8 19 "TermsDesk" "parts" "LTermsDesk$Parts;", .methodLink RX8 92 yX8_isRowOfChoices, .static yX8_isRowOfChoices, .initialized RX8, .code yX8_isRowOfChoices cX8_isRowOfChoices 3 (some .boolean), .methodLink RX8 77 yX8_within, .static yX8_within, .code yX8_within cX8_within 2 (some .boolean), .methodLink RX8 100 yX5_add, .instanceMethod yX5_add, .selects RX5 yX5_add yX5_add, .initialized RX5, .code yX5_add cX5_add 5 (some .int), .fieldLink RX5 25 "TermsDesk$Parts" "told" "I", .fieldLink RX5 9 "TermsDesk$Parts" "choices" "[I", .fieldLink RX5 15 "TermsDesk$Parts" "choiceCount" "[I", .fieldLink RX5 18 "TermsDesk$Parts" "licence" "[I"] ++ wsX80 ++ wsX50)
def wsX8_take : List Cond := .code yX8_take cX8_take 4 (some .boolean) :: ([.fieldLink RX8 19 "TermsDesk" "parts" "LTermsDesk$Parts;", .methodLink RX8 104 yX5_has, .instanceMethod yX5_has, .selects RX5 yX5_has yX5_has, .initialized RX5, .code yX5_has cX5_has 2 (some .boolean), .fieldLink RX5 25 "TermsDesk$Parts" "told" "I", .static yX8_within, .initialized RX8, .code yX8_within cX8_within 2 (some .boolean), .methodLink RX8 77 yX8_within, .methodLink RX8 112 yX5_choiceOf, .instanceMethod yX5_choiceOf, .selects RX5 yX5_choiceOf yX5_choiceOf, .code yX5_choiceOf cX5_choiceOf 3 (some .int), .fieldLink RX5 9 "TermsDesk$Parts" "choices" "[I"] ++ wsX80 ++ wsX50)
def wsX8_join_r1 : List Cond := [Cond.fieldLink RX8 19 "TermsDesk" "parts" "LTermsDesk$Parts;", Cond.fieldLink RX8 26 "TermsDesk" "joins" "LTermsDesk$Joins;", Cond.methodLink RX8 104 yX5_has, Cond.instanceMethod yX5_has, Cond.selects RX5 yX5_has yX5_has, Cond.initialized RX5, Cond.code yX5_has cX5_has 2 (some .boolean), Cond.fieldLink RX5 25 "TermsDesk$Parts" "told" "I", Cond.static yX8_within, Cond.initialized RX8, Cond.code yX8_within cX8_within 2 (some .boolean), Cond.methodLink RX8 77 yX8_within, Cond.methodLink RX8 119 yX3_leads, Cond.instanceMethod yX3_leads, Cond.selects RX3 yX3_leads yX3_leads, Cond.initialized RX3, Cond.code yX3_leads cX3_leads 4 (some .boolean), Cond.fieldLink RX3 27 "TermsDesk$Joins" "begin" "[I", Cond.fieldLink RX3 30 "TermsDesk$Joins" "end" "[I", Cond.fieldLink RX3 9 "TermsDesk$Joins" "from" "[I", Cond.fieldLink RX3 24 "TermsDesk$Joins" "sorted" "[I", Cond.methodLink RX8 126 yX3_allIn, Cond.instanceMethod yX3_allIn, Cond.selects RX3 yX3_allIn yX3_allIn]
def wsX8_join_r2 : List Cond := [Cond.code yX3_allIn cX3_allIn 9 (some .int), Cond.fieldLink RX3 21 "TermsDesk$Joins" "order" "[I", Cond.static yX8_holds, Cond.code yX8_holds cX8_holds 3 (some .boolean), Cond.methodLink RX8 130 yX8_holds, Cond.methodLink RX8 134 yX3_add, Cond.instanceMethod yX3_add, Cond.selects RX3 yX3_add yX3_add, Cond.code yX3_add cX3_add 5 (some .int), Cond.fieldLink RX3 33 "TermsDesk$Joins" "told" "I", Cond.fieldLink RX3 15 "TermsDesk$Joins" "to" "[I", Cond.fieldLink RX3 18 "TermsDesk$Joins" "kind" "[I", Cond.fieldLink RX3 41 "TermsDesk$Joins" "there" "J", Cond.methodLink RX3 49 yX3_sortJoins, Cond.instanceMethod yX3_sortJoins, Cond.selects RX3 yX3_sortJoins yX3_sortJoins, Cond.code yX3_sortJoins cX3_sortJoins 4 none, Cond.methodLink RX3 52 yX3_orderParts, Cond.instanceMethod yX3_orderParts, Cond.selects RX3 yX3_orderParts yX3_orderParts, Cond.code yX3_orderParts cX3_orderParts 5 none, Cond.methodLink RX3 57 yX3_directlyIn, Cond.instanceMethod yX3_directlyIn, Cond.selects RX3 yX3_directlyIn yX3_directlyIn]
def wsX8_join_r3 : List Cond := [Cond.code yX3_directlyIn cX3_directlyIn 4 (some .int)]
def wsX8_join : List Cond := .code yX8_join cX8_join 4 (some .int) :: ((wsX8_join_r1 ++ (wsX8_join_r2 ++ wsX8_join_r3)) ++ wsX80 ++ wsX30 ++ wsX50)
def wsX8_cut_r1 : List Cond := [Cond.fieldLink RX8 26 "TermsDesk" "joins" "LTermsDesk$Joins;", Cond.methodLink RX8 135 yX3_isThere, Cond.instanceMethod yX3_isThere, Cond.selects RX3 yX3_isThere yX3_isThere, Cond.initialized RX3, Cond.code yX3_isThere cX3_isThere 2 (some .boolean), Cond.fieldLink RX3 33 "TermsDesk$Joins" "told" "I", Cond.fieldLink RX3 41 "TermsDesk$Joins" "there" "J", Cond.static yX8_within, Cond.initialized RX8, Cond.code yX8_within cX8_within 2 (some .boolean), Cond.static yX8_holds, Cond.code yX8_holds cX8_holds 3 (some .boolean), Cond.methodLink RX8 138 yX3_remove, Cond.instanceMethod yX3_remove, Cond.selects RX3 yX3_remove yX3_remove, Cond.code yX3_remove cX3_remove 2 none, Cond.constantLong RX3 55 (-1), Cond.methodLink RX3 49 yX3_sortJoins, Cond.instanceMethod yX3_sortJoins, Cond.selects RX3 yX3_sortJoins yX3_sortJoins, Cond.code yX3_sortJoins cX3_sortJoins 4 none, Cond.fieldLink RX3 27 "TermsDesk$Joins" "begin" "[I", Cond.fieldLink RX3 15 "TermsDesk$Joins" "to" "[I"]
def wsX8_cut_r2 : List Cond := [Cond.fieldLink RX3 24 "TermsDesk$Joins" "sorted" "[I", Cond.fieldLink RX3 30 "TermsDesk$Joins" "end" "[I"]
def wsX8_cut : List Cond := .code yX8_cut cX8_cut 2 (some .boolean) :: ((wsX8_cut_r1 ++ wsX8_cut_r2) ++ wsX80 ++ wsX30)
def wsX8_except : List Cond := .code yX8_except cX8_except 4 (some .boolean) :: ([.fieldLink RX8 19 "TermsDesk" "parts" "LTermsDesk$Parts;", .methodLink RX8 104 yX5_has, .instanceMethod yX5_has, .selects RX5 yX5_has yX5_has, .initialized RX5, .code yX5_has cX5_has 2 (some .boolean), .fieldLink RX5 25 "TermsDesk$Parts" "told" "I", .static yX8_within, .initialized RX8, .code yX8_within cX8_within 2 (some .boolean), .methodLink RX8 73 yX8_isPair, .static yX8_isPair, .code yX8_isPair cX8_isPair 2 (some .boolean), .methodLink RX8 77 yX8_within, .methodLink RX8 80 yX8_pairOf, .static yX8_pairOf, .code yX8_pairOf cX8_pairOf 2 (some .int), .methodLink RX8 130 yX8_holds, .static yX8_holds, .code yX8_holds cX8_holds 3 (some .boolean)] ++ wsX80 ++ wsX50)
def wsX8_product : List Cond := .code yX8_product cX8_product 2 (some .boolean) :: ([.fieldLink RX8 19 "TermsDesk" "parts" "LTermsDesk$Parts;", .methodLink RX8 104 yX5_has, .instanceMethod yX5_has, .selects RX5 yX5_has yX5_has, .initialized RX5, .code yX5_has cX5_has 2 (some .boolean), .fieldLink RX5 25 "TermsDesk$Parts" "told" "I", .static yX8_within, .initialized RX8, .code yX8_within cX8_within 2 (some .boolean)] ++ wsX80 ++ wsX50)
def wsX8_change : List Cond := .code yX8_change cX8_change 6 (some .int) :: ([.fieldLink RX8 19 "TermsDesk" "parts" "LTermsDesk$Parts;", .fieldLink RX8 26 "TermsDesk" "joins" "LTermsDesk$Joins;", .constant RX8 149 (100001), .fieldLink RX8 33 "TermsDesk" "changes" "LTermsDesk$Changes;", .methodLink RX8 104 yX5_has, .instanceMethod yX5_has, .selects RX5 yX5_has yX5_has, .initialized RX5, .code yX5_has cX5_has 2 (some .boolean), .fieldLink RX5 25 "TermsDesk$Parts" "told" "I", .static yX8_within, .initialized RX8, .code yX8_within cX8_within 2 (some .boolean), .methodLink RX8 77 yX8_within, .methodLink RX8 151 yX0_add, .instanceMethod yX0_add, .selects RX0 yX0_add yX0_add, .initialized RX0, .code yX0_add cX0_add 6 (some .int), .fieldLink RX0 24 "TermsDesk$Changes" "told" "I", .fieldLink RX0 9 "TermsDesk$Changes" "what" "[I", .fieldLink RX0 15 "TermsDesk$Changes" "which" "[I", .fieldLink RX0 18 "TermsDesk$Changes" "licence" "[I", .fieldLink RX0 21 "TermsDesk$Changes" "cost" "[I"] ++ wsX80 ++ wsX30 ++ wsX00 ++ wsX50)
def wsX8_come_r1 : List Cond := [Cond.fieldLink RX8 19 "TermsDesk" "parts" "LTermsDesk$Parts;", Cond.fieldLink RX8 42 "TermsDesk" "flow" "LTermsDesk$Flow;", Cond.fieldLink RX8 26 "TermsDesk" "joins" "LTermsDesk$Joins;", Cond.methodLink RX8 77 yX8_within, Cond.static yX8_within, Cond.initialized RX8, Cond.code yX8_within cX8_within 2 (some .boolean), Cond.methodLink RX8 104 yX5_has, Cond.instanceMethod yX5_has, Cond.selects RX5 yX5_has yX5_has, Cond.initialized RX5, Cond.code yX5_has cX5_has 2 (some .boolean), Cond.fieldLink RX5 25 "TermsDesk$Parts" "told" "I", Cond.methodLink RX8 154 yX2_run, Cond.instanceMethod yX2_run, Cond.selects RX2 yX2_run yX2_run, Cond.initialized RX2, Cond.code yX2_run cX2_run 7 none, Cond.fieldLink RX2 26 "TermsDesk$Flow" "joins" "LTermsDesk$Joins;", Cond.methodLink RX2 52 yX2_brought, Cond.instanceMethod yX2_brought, Cond.selects RX2 yX2_brought yX2_brought, Cond.code yX2_brought cX2_brought 4 (some .long), Cond.fieldLink RX2 18 "TermsDesk$Flow" "terms" "LTermsDesk$Terms;"]
def wsX8_come_r2 : List Cond := [Cond.fieldLink RX2 22 "TermsDesk$Flow" "parts" "LTermsDesk$Parts;", Cond.constantLong RX2 44 (-1), Cond.static yX8_pairsOf, Cond.code yX8_pairsOf cX8_pairsOf 1 (some .long), Cond.constantLong RX8 216 (255), Cond.methodLink RX8 80 yX8_pairOf, Cond.static yX8_pairOf, Cond.code yX8_pairOf cX8_pairOf 2 (some .int), Cond.methodLink RX2 56 yX2_arrive, Cond.instanceMethod yX2_arrive, Cond.selects RX2 yX2_arrive yX2_arrive, Cond.code yX2_arrive cX2_arrive 10 none, Cond.fieldLink RX2 9 "TermsDesk$Flow" "arrived" "[J", Cond.static yX8_holds, Cond.code yX8_holds cX8_holds 3 (some .boolean)]
def wsX8_come : List Cond := .code yX8_come cX8_come 4 (some .int) :: ((wsX8_come_r1 ++ wsX8_come_r2) ++ wsX80 ++ wsX50 ++ wsX30 ++ wsX20 ++ wsX60)
def wsX8_quarrels_r1 : List Cond := [Cond.fieldLink RX8 42 "TermsDesk" "flow" "LTermsDesk$Flow;", Cond.fieldLink RX8 19 "TermsDesk" "parts" "LTermsDesk$Parts;", Cond.fieldLink RX8 26 "TermsDesk" "joins" "LTermsDesk$Joins;", Cond.methodLink RX8 77 yX8_within, Cond.static yX8_within, Cond.initialized RX8, Cond.code yX8_within cX8_within 2 (some .boolean), Cond.methodLink RX8 154 yX2_run, Cond.instanceMethod yX2_run, Cond.selects RX2 yX2_run yX2_run, Cond.initialized RX2, Cond.code yX2_run cX2_run 7 none, Cond.fieldLink RX2 26 "TermsDesk$Flow" "joins" "LTermsDesk$Joins;", Cond.methodLink RX2 52 yX2_brought, Cond.instanceMethod yX2_brought, Cond.selects RX2 yX2_brought yX2_brought, Cond.code yX2_brought cX2_brought 4 (some .long), Cond.fieldLink RX2 18 "TermsDesk$Flow" "terms" "LTermsDesk$Terms;", Cond.fieldLink RX2 22 "TermsDesk$Flow" "parts" "LTermsDesk$Parts;", Cond.constantLong RX2 44 (-1), Cond.static yX8_pairsOf, Cond.code yX8_pairsOf cX8_pairsOf 1 (some .long), Cond.constantLong RX8 216 (255), Cond.methodLink RX8 80 yX8_pairOf]
def wsX8_quarrels_r2 : List Cond := [Cond.static yX8_pairOf, Cond.code yX8_pairOf cX8_pairOf 2 (some .int), Cond.methodLink RX2 56 yX2_arrive, Cond.instanceMethod yX2_arrive, Cond.selects RX2 yX2_arrive yX2_arrive, Cond.code yX2_arrive cX2_arrive 10 none, Cond.fieldLink RX2 9 "TermsDesk$Flow" "arrived" "[J", Cond.static yX8_holds, Cond.code yX8_holds cX8_holds 3 (some .boolean), Cond.methodLink RX8 161 yX2_quarrelCount, Cond.instanceMethod yX2_quarrelCount, Cond.selects RX2 yX2_quarrelCount yX2_quarrelCount, Cond.code yX2_quarrelCount cX2_quarrelCount 7 (some .int), Cond.methodLink RX2 96 yX2_ofProduct, Cond.instanceMethod yX2_ofProduct, Cond.selects RX2 yX2_ofProduct yX2_ofProduct, Cond.code yX2_ofProduct cX2_ofProduct 3 (some .int), Cond.methodLink RX2 92 yX3_allIn, Cond.instanceMethod yX3_allIn, Cond.selects RX3 yX3_allIn yX3_allIn, Cond.initialized RX3, Cond.code yX3_allIn cX3_allIn 9 (some .int), Cond.fieldLink RX3 21 "TermsDesk$Joins" "order" "[I", Cond.fieldLink RX3 27 "TermsDesk$Joins" "begin" "[I"]
def wsX8_quarrels_r3 : List Cond := [Cond.fieldLink RX3 30 "TermsDesk$Joins" "end" "[I", Cond.fieldLink RX3 24 "TermsDesk$Joins" "sorted" "[I", Cond.fieldLink RX3 9 "TermsDesk$Joins" "from" "[I", Cond.methodLink RX2 100 yX2_foughtAt, Cond.instanceMethod yX2_foughtAt, Cond.selects RX2 yX2_foughtAt yX2_foughtAt, Cond.code yX2_foughtAt cX2_foughtAt 3 (some .long), Cond.methodLink RX2 104 yJ13_bitCount_95d88, Cond.static yJ13_bitCount_95d88, Cond.initialized RJ13, Cond.code yJ13_bitCount_95d88 cJ13_bitCount_95d88 2 (some .int), Cond.constantLong RJ13 314 (6148914691236517205), Cond.constantLong RJ13 316 (3689348814741910323), Cond.constantLong RJ13 318 (1085102592571150095)]
def wsX8_quarrels : List Cond := .code yX8_quarrels cX8_quarrels 2 (some .int) :: ((wsX8_quarrels_r1 ++ (wsX8_quarrels_r2 ++ wsX8_quarrels_r3)) ++ wsX80 ++ wsX50 ++ wsX30 ++ wsX20 ++ wsX60)
def wsX8_quarrel_r1 : List Cond := [Cond.fieldLink RX8 42 "TermsDesk" "flow" "LTermsDesk$Flow;", Cond.fieldLink RX8 19 "TermsDesk" "parts" "LTermsDesk$Parts;", Cond.fieldLink RX8 26 "TermsDesk" "joins" "LTermsDesk$Joins;", Cond.methodLink RX8 77 yX8_within, Cond.static yX8_within, Cond.initialized RX8, Cond.code yX8_within cX8_within 2 (some .boolean), Cond.methodLink RX8 154 yX2_run, Cond.instanceMethod yX2_run, Cond.selects RX2 yX2_run yX2_run, Cond.initialized RX2, Cond.code yX2_run cX2_run 7 none, Cond.fieldLink RX2 26 "TermsDesk$Flow" "joins" "LTermsDesk$Joins;", Cond.methodLink RX2 52 yX2_brought, Cond.instanceMethod yX2_brought, Cond.selects RX2 yX2_brought yX2_brought, Cond.code yX2_brought cX2_brought 4 (some .long), Cond.fieldLink RX2 18 "TermsDesk$Flow" "terms" "LTermsDesk$Terms;", Cond.fieldLink RX2 22 "TermsDesk$Flow" "parts" "LTermsDesk$Parts;", Cond.constantLong RX2 44 (-1), Cond.static yX8_pairsOf, Cond.code yX8_pairsOf cX8_pairsOf 1 (some .long), Cond.constantLong RX8 216 (255), Cond.methodLink RX8 80 yX8_pairOf]
def wsX8_quarrel_r2 : List Cond := [Cond.static yX8_pairOf, Cond.code yX8_pairOf cX8_pairOf 2 (some .int), Cond.methodLink RX2 56 yX2_arrive, Cond.instanceMethod yX2_arrive, Cond.selects RX2 yX2_arrive yX2_arrive, Cond.code yX2_arrive cX2_arrive 10 none, Cond.fieldLink RX2 9 "TermsDesk$Flow" "arrived" "[J", Cond.static yX8_holds, Cond.code yX8_holds cX8_holds 3 (some .boolean), Cond.methodLink RX8 165 yX2_quarrelAt, Cond.instanceMethod yX2_quarrelAt, Cond.selects RX2 yX2_quarrelAt yX2_quarrelAt, Cond.code yX2_quarrelAt cX2_quarrelAt 8 (some .int), Cond.methodLink RX2 96 yX2_ofProduct, Cond.instanceMethod yX2_ofProduct, Cond.selects RX2 yX2_ofProduct yX2_ofProduct, Cond.code yX2_ofProduct cX2_ofProduct 3 (some .int), Cond.methodLink RX2 92 yX3_allIn, Cond.instanceMethod yX3_allIn, Cond.selects RX3 yX3_allIn yX3_allIn, Cond.initialized RX3, Cond.code yX3_allIn cX3_allIn 9 (some .int), Cond.fieldLink RX3 21 "TermsDesk$Joins" "order" "[I", Cond.fieldLink RX3 27 "TermsDesk$Joins" "begin" "[I"]
def wsX8_quarrel_r3 : List Cond := [Cond.fieldLink RX3 30 "TermsDesk$Joins" "end" "[I", Cond.fieldLink RX3 24 "TermsDesk$Joins" "sorted" "[I", Cond.fieldLink RX3 9 "TermsDesk$Joins" "from" "[I", Cond.methodLink RX2 100 yX2_foughtAt, Cond.instanceMethod yX2_foughtAt, Cond.selects RX2 yX2_foughtAt yX2_foughtAt, Cond.code yX2_foughtAt cX2_foughtAt 3 (some .long), Cond.methodLink RX2 104 yJ13_bitCount_95d88, Cond.static yJ13_bitCount_95d88, Cond.initialized RJ13, Cond.code yJ13_bitCount_95d88 cJ13_bitCount_95d88 2 (some .int), Cond.constantLong RJ13 314 (6148914691236517205), Cond.constantLong RJ13 316 (3689348814741910323), Cond.constantLong RJ13 318 (1085102592571150095), Cond.methodLink RX2 116 yX2_pairAt, Cond.static yX2_pairAt, Cond.code yX2_pairAt cX2_pairAt 5 (some .int)]
def wsX8_quarrel : List Cond := .code yX8_quarrel cX8_quarrel 3 (some .int) :: ((wsX8_quarrel_r1 ++ (wsX8_quarrel_r2 ++ wsX8_quarrel_r3)) ++ wsX80 ++ wsX50 ++ wsX30 ++ wsX20 ++ wsX60)
def wsX8_judge_r1 : List Cond := [Cond.fieldLink RX8 19 "TermsDesk" "parts" "LTermsDesk$Parts;", Cond.fieldLink RX8 42 "TermsDesk" "flow" "LTermsDesk$Flow;", Cond.fieldLink RX8 51 "TermsDesk" "chooser" "LTermsDesk$Chooser;", Cond.methodLink RX8 77 yX8_within, Cond.static yX8_within, Cond.initialized RX8, Cond.code yX8_within cX8_within 2 (some .boolean), Cond.methodLink RX8 169 yX2_wayCount, Cond.instanceMethod yX2_wayCount, Cond.selects RX2 yX2_wayCount yX2_wayCount, Cond.initialized RX2, Cond.code yX2_wayCount cX2_wayCount 4 (some .int), Cond.fieldLink RX2 26 "TermsDesk$Flow" "joins" "LTermsDesk$Joins;", Cond.fieldLink RX2 22 "TermsDesk$Flow" "parts" "LTermsDesk$Parts;", Cond.methodLink RX2 96 yX2_ofProduct, Cond.instanceMethod yX2_ofProduct, Cond.selects RX2 yX2_ofProduct yX2_ofProduct, Cond.code yX2_ofProduct cX2_ofProduct 3 (some .int), Cond.methodLink RX2 92 yX3_allIn, Cond.instanceMethod yX3_allIn, Cond.selects RX3 yX3_allIn yX3_allIn, Cond.initialized RX3, Cond.code yX3_allIn cX3_allIn 9 (some .int), Cond.fieldLink RX3 21 "TermsDesk$Joins" "order" "[I"]
def wsX8_judge_r2 : List Cond := [Cond.fieldLink RX3 27 "TermsDesk$Joins" "begin" "[I", Cond.fieldLink RX3 30 "TermsDesk$Joins" "end" "[I", Cond.fieldLink RX3 24 "TermsDesk$Joins" "sorted" "[I", Cond.fieldLink RX3 9 "TermsDesk$Joins" "from" "[I", Cond.static yX8_holds, Cond.code yX8_holds cX8_holds 3 (some .boolean), Cond.methodLink RX8 173 yX1_takeBest, Cond.instanceMethod yX1_takeBest, Cond.selects RX1 yX1_takeBest yX1_takeBest, Cond.initialized RX1, Cond.code yX1_takeBest cX1_takeBest 5 (some .int), Cond.fieldLink RX1 32 "TermsDesk$Chooser" "flow" "LTermsDesk$Flow;", Cond.fieldLink RX1 28 "TermsDesk$Chooser" "joins" "LTermsDesk$Joins;", Cond.constant RX1 54 (2147483647), Cond.fieldLink RX1 55 "TermsDesk$Chooser" "bestQuarrels" "I", Cond.fieldLink RX1 59 "TermsDesk$Chooser" "bestPairs" "I", Cond.fieldLink RX1 66 "TermsDesk$Chooser" "length" "I", Cond.methodLink RX1 72 Lib.Math.min.name, Cond.static Lib.Math.min.name, Cond.initialized "java/lang/Math", Cond.code Lib.Math.min.name Lib.Math.min.code 2 (some .int), Cond.methodLink RX1 42 yX2_ofProduct, Cond.methodLink RX1 48 yX1_lineUp, Cond.instanceMethod yX1_lineUp]
def wsX8_judge_r3 : List Cond := [Cond.selects RX1 yX1_lineUp yX1_lineUp, Cond.code yX1_lineUp cX1_lineUp 4 none, Cond.fieldLink RX1 15 "TermsDesk$Chooser" "place" "[I", Cond.fieldLink RX1 9 "TermsDesk$Chooser" "line" "[I", Cond.methodLink RX1 62 yX1_settle, Cond.instanceMethod yX1_settle, Cond.selects RX1 yX1_settle yX1_settle, Cond.code yX1_settle cX1_settle 6 (some .int), Cond.fieldLink RX1 24 "TermsDesk$Chooser" "parts" "LTermsDesk$Parts;", Cond.fieldLink RX1 21 "TermsDesk$Chooser" "quarrelsBefore" "[I", Cond.methodLink RX1 91 yX5_choiceOf, Cond.instanceMethod yX5_choiceOf, Cond.selects RX5 yX5_choiceOf yX5_choiceOf, Cond.initialized RX5, Cond.code yX5_choiceOf cX5_choiceOf 3 (some .int), Cond.fieldLink RX5 9 "TermsDesk$Parts" "choices" "[I", Cond.methodLink RX1 96 yX2_brought, Cond.instanceMethod yX2_brought, Cond.selects RX2 yX2_brought yX2_brought, Cond.code yX2_brought cX2_brought 4 (some .long), Cond.fieldLink RX2 18 "TermsDesk$Flow" "terms" "LTermsDesk$Terms;", Cond.constantLong RX2 44 (-1), Cond.static yX8_pairsOf, Cond.code yX8_pairsOf cX8_pairsOf 1 (some .long)]
def wsX8_judge_r4 : List Cond := [Cond.constantLong RX8 216 (255), Cond.methodLink RX8 80 yX8_pairOf, Cond.static yX8_pairOf, Cond.code yX8_pairOf cX8_pairOf 2 (some .int), Cond.methodLink RX1 100 yX2_arrive, Cond.instanceMethod yX2_arrive, Cond.selects RX2 yX2_arrive yX2_arrive, Cond.code yX2_arrive cX2_arrive 10 none, Cond.fieldLink RX2 9 "TermsDesk$Flow" "arrived" "[J", Cond.methodLink RX1 104 yX2_foughtAt, Cond.instanceMethod yX2_foughtAt, Cond.selects RX2 yX2_foughtAt yX2_foughtAt, Cond.code yX2_foughtAt cX2_foughtAt 3 (some .long), Cond.methodLink RX1 108 yJ13_bitCount_95d88, Cond.static yJ13_bitCount_95d88, Cond.initialized RJ13, Cond.code yJ13_bitCount_95d88 cJ13_bitCount_95d88 2 (some .int), Cond.constantLong RJ13 314 (6148914691236517205), Cond.constantLong RJ13 316 (3689348814741910323), Cond.constantLong RJ13 318 (1085102592571150095), Cond.methodLink RX1 69 yX1_keepIfBetter, Cond.instanceMethod yX1_keepIfBetter, Cond.selects RX1 yX1_keepIfBetter yX1_keepIfBetter, Cond.code yX1_keepIfBetter cX1_keepIfBetter 3 none]
def wsX8_judge_r5 : List Cond := [Cond.fieldLink RX1 18 "TermsDesk$Chooser" "bestPlace" "[I", Cond.methodLink RX1 127 arraycopyName, Cond.native arraycopyName, Cond.static arraycopyName, Cond.initialized "java/lang/System", Cond.methodLink RX1 123 yX1_isBetter, Cond.instanceMethod yX1_isBetter, Cond.selects RX1 yX1_isBetter yX1_isBetter, Cond.code yX1_isBetter cX1_isBetter 4 (some .boolean), Cond.methodLink RX1 77 yX1_advance, Cond.instanceMethod yX1_advance, Cond.selects RX1 yX1_advance yX1_advance, Cond.code yX1_advance cX1_advance 4 (some .int), Cond.methodLink RX1 81 yX1_takeKept, Cond.instanceMethod yX1_takeKept, Cond.selects RX1 yX1_takeKept yX1_takeKept, Cond.code yX1_takeKept cX1_takeKept 3 none]
def wsX8_judge : List Cond := .code yX8_judge cX8_judge 2 (some .int) :: ((wsX8_judge_r1 ++ (wsX8_judge_r2 ++ (wsX8_judge_r3 ++ (wsX8_judge_r4 ++ wsX8_judge_r5)))) ++ wsX80 ++ wsX50 ++ wsX20 ++ wsX30 ++ wsX10 ++ wsX60)
def wsX8_cheapest_r1 : List Cond := [Cond.fieldLink RX8 60 "TermsDesk" "mender" "LTermsDesk$Mender;", Cond.methodLink RX8 77 yX8_within, Cond.static yX8_within, Cond.initialized RX8, Cond.code yX8_within cX8_within 2 (some .boolean), Cond.methodLink RX8 176 yX4_cheapestSet, Cond.instanceMethod yX4_cheapestSet, Cond.selects RX4 yX4_cheapestSet yX4_cheapestSet, Cond.initialized RX4, Cond.code yX4_cheapestSet cX4_cheapestSet 5 (some .int), Cond.fieldLink RX4 23 "TermsDesk$Mender" "changes" "LTermsDesk$Changes;", Cond.methodLink RX4 37 yX0_isBetter, Cond.instanceMethod yX0_isBetter, Cond.selects RX0 yX0_isBetter yX0_isBetter, Cond.initialized RX0, Cond.code yX0_isBetter cX0_isBetter 5 (some .boolean), Cond.methodLink RX0 32 yX0_priceOf, Cond.instanceMethod yX0_priceOf, Cond.selects RX0 yX0_priceOf yX0_priceOf, Cond.code yX0_priceOf cX0_priceOf 4 (some .int), Cond.fieldLink RX0 24 "TermsDesk$Changes" "told" "I", Cond.fieldLink RX0 21 "TermsDesk$Changes" "cost" "[I", Cond.static yX8_holds, Cond.code yX8_holds cX8_holds 3 (some .boolean)]
def wsX8_cheapest_r2 : List Cond := [Cond.methodLink RX0 36 yJ6_compare_7cf53, Cond.static yJ6_compare_7cf53, Cond.initialized RJ6, Cond.code yJ6_compare_7cf53 cJ6_compare_7cf53 2 (some .int), Cond.methodLink RX0 42 yJ6_bitCount_0f7a4, Cond.static yJ6_bitCount_0f7a4, Cond.code yJ6_bitCount_0f7a4 cJ6_bitCount_0f7a4 1 (some .int), Cond.constant RJ6 265 (1431655765), Cond.constant RJ6 266 (858993459), Cond.constant RJ6 267 (252645135), Cond.methodLink RX0 45 yJ6_lowestOneBit_0f7a4, Cond.static yJ6_lowestOneBit_0f7a4, Cond.code yJ6_lowestOneBit_0f7a4 cJ6_lowestOneBit_0f7a4 1 (some .int), Cond.methodLink RX4 41 yX4_endsQuarrels, Cond.instanceMethod yX4_endsQuarrels, Cond.selects RX4 yX4_endsQuarrels yX4_endsQuarrels, Cond.code yX4_endsQuarrels cX4_endsQuarrels 6 (some .boolean), Cond.fieldLink RX4 15 "TermsDesk$Mender" "parts" "LTermsDesk$Parts;", Cond.fieldLink RX4 9 "TermsDesk$Mender" "licence" "[I", Cond.methodLink RX4 47 arraycopyName, Cond.native arraycopyName, Cond.static arraycopyName, Cond.initialized "java/lang/System", Cond.fieldLink RX4 19 "TermsDesk$Mender" "joins" "LTermsDesk$Joins;"]
def wsX8_cheapest_r3 : List Cond := [Cond.constantLong RX4 70 (-1), Cond.fieldLink RX4 27 "TermsDesk$Mender" "flow" "LTermsDesk$Flow;", Cond.methodLink RX4 72 yX2_run, Cond.instanceMethod yX2_run, Cond.selects RX2 yX2_run yX2_run, Cond.initialized RX2, Cond.code yX2_run cX2_run 7 none, Cond.fieldLink RX2 26 "TermsDesk$Flow" "joins" "LTermsDesk$Joins;", Cond.methodLink RX2 52 yX2_brought, Cond.instanceMethod yX2_brought, Cond.selects RX2 yX2_brought yX2_brought, Cond.code yX2_brought cX2_brought 4 (some .long), Cond.fieldLink RX2 18 "TermsDesk$Flow" "terms" "LTermsDesk$Terms;", Cond.fieldLink RX2 22 "TermsDesk$Flow" "parts" "LTermsDesk$Parts;", Cond.constantLong RX2 44 (-1), Cond.static yX8_pairsOf, Cond.code yX8_pairsOf cX8_pairsOf 1 (some .long), Cond.constantLong RX8 216 (255), Cond.methodLink RX8 80 yX8_pairOf, Cond.static yX8_pairOf, Cond.code yX8_pairOf cX8_pairOf 2 (some .int), Cond.methodLink RX2 56 yX2_arrive, Cond.instanceMethod yX2_arrive, Cond.selects RX2 yX2_arrive yX2_arrive]
def wsX8_cheapest_r4 : List Cond := [Cond.code yX2_arrive cX2_arrive 10 none, Cond.fieldLink RX2 9 "TermsDesk$Flow" "arrived" "[J", Cond.methodLink RX4 78 yX2_quarrelCount, Cond.instanceMethod yX2_quarrelCount, Cond.selects RX2 yX2_quarrelCount yX2_quarrelCount, Cond.code yX2_quarrelCount cX2_quarrelCount 7 (some .int), Cond.methodLink RX2 96 yX2_ofProduct, Cond.instanceMethod yX2_ofProduct, Cond.selects RX2 yX2_ofProduct yX2_ofProduct, Cond.code yX2_ofProduct cX2_ofProduct 3 (some .int), Cond.methodLink RX2 92 yX3_allIn, Cond.instanceMethod yX3_allIn, Cond.selects RX3 yX3_allIn yX3_allIn, Cond.initialized RX3, Cond.code yX3_allIn cX3_allIn 9 (some .int), Cond.fieldLink RX3 21 "TermsDesk$Joins" "order" "[I", Cond.fieldLink RX3 27 "TermsDesk$Joins" "begin" "[I", Cond.fieldLink RX3 30 "TermsDesk$Joins" "end" "[I", Cond.fieldLink RX3 24 "TermsDesk$Joins" "sorted" "[I", Cond.fieldLink RX3 9 "TermsDesk$Joins" "from" "[I", Cond.methodLink RX2 100 yX2_foughtAt, Cond.instanceMethod yX2_foughtAt, Cond.selects RX2 yX2_foughtAt yX2_foughtAt, Cond.code yX2_foughtAt cX2_foughtAt 3 (some .long)]
def wsX8_cheapest_r5 : List Cond := [Cond.methodLink RX2 104 yJ13_bitCount_95d88, Cond.static yJ13_bitCount_95d88, Cond.initialized RJ13, Cond.code yJ13_bitCount_95d88 cJ13_bitCount_95d88 2 (some .int), Cond.constantLong RJ13 314 (6148914691236517205), Cond.constantLong RJ13 316 (3689348814741910323), Cond.constantLong RJ13 318 (1085102592571150095)]
def wsX8_cheapest : List Cond := .code yX8_cheapest cX8_cheapest 2 (some .int) :: ((wsX8_cheapest_r1 ++ (wsX8_cheapest_r2 ++ (wsX8_cheapest_r3 ++ (wsX8_cheapest_r4 ++ wsX8_cheapest_r5)))) ++ wsX80 ++ wsX40 ++ wsX00 ++ wsX50 ++ wsX30 ++ wsX20 ++ wsX60)
def wsX8_price : List Cond := .code yX8_price cX8_price 2 (some .int) :: ([.fieldLink RX8 33 "TermsDesk" "changes" "LTermsDesk$Changes;", .methodLink RX8 77 yX8_within, .static yX8_within, .initialized RX8, .code yX8_within cX8_within 2 (some .boolean), .methodLink RX8 179 yX0_priceOf, .instanceMethod yX0_priceOf, .selects RX0 yX0_priceOf yX0_priceOf, .initialized RX0, .code yX0_priceOf cX0_priceOf 4 (some .int), .fieldLink RX0 24 "TermsDesk$Changes" "told" "I", .fieldLink RX0 21 "TermsDesk$Changes" "cost" "[I", .static yX8_holds, .code yX8_holds cX8_holds 3 (some .boolean)] ++ wsX80 ++ wsX00)
def wsX8_way_r1 : List Cond := [Cond.fieldLink RX8 19 "TermsDesk" "parts" "LTermsDesk$Parts;", Cond.fieldLink RX8 69 "TermsDesk" "tracer" "LTermsDesk$Tracer;", Cond.methodLink RX8 77 yX8_within, Cond.static yX8_within, Cond.initialized RX8, Cond.code yX8_within cX8_within 2 (some .boolean), Cond.methodLink RX8 73 yX8_isPair, Cond.static yX8_isPair, Cond.code yX8_isPair cX8_isPair 2 (some .boolean), Cond.methodLink RX8 104 yX5_has, Cond.instanceMethod yX5_has, Cond.selects RX5 yX5_has yX5_has, Cond.initialized RX5, Cond.code yX5_has cX5_has 2 (some .boolean), Cond.fieldLink RX5 25 "TermsDesk$Parts" "told" "I", Cond.methodLink RX8 80 yX8_pairOf, Cond.static yX8_pairOf, Cond.code yX8_pairOf cX8_pairOf 2 (some .int), Cond.methodLink RX8 182 yX7_partOnWay, Cond.instanceMethod yX7_partOnWay, Cond.selects RX7 yX7_partOnWay yX7_partOnWay, Cond.initialized RX7, Cond.code yX7_partOnWay cX7_partOnWay 7 (some .int), Cond.fieldLink RX7 9 "TermsDesk$Tracer" "steps" "[I"]
def wsX8_way_r2 : List Cond := [Cond.methodLink RX7 31 yX7_measure, Cond.instanceMethod yX7_measure, Cond.selects RX7 yX7_measure yX7_measure, Cond.code yX7_measure cX7_measure 5 none, Cond.fieldLink RX7 23 "TermsDesk$Tracer" "joins" "LTermsDesk$Joins;", Cond.methodLink RX7 85 yX7_measureInto, Cond.instanceMethod yX7_measureInto, Cond.selects RX7 yX7_measureInto yX7_measureInto, Cond.code yX7_measureInto cX7_measureInto 7 none, Cond.methodLink RX7 100 yX7_goes, Cond.instanceMethod yX7_goes, Cond.selects RX7 yX7_goes yX7_goes, Cond.code yX7_goes cX7_goes 3 (some .boolean), Cond.fieldLink RX7 15 "TermsDesk$Tracer" "terms" "LTermsDesk$Terms;", Cond.static yX8_holds, Cond.code yX8_holds cX8_holds 3 (some .boolean), Cond.methodLink RX7 35 yX7_source, Cond.instanceMethod yX7_source, Cond.selects RX7 yX7_source yX7_source, Cond.code yX7_source cX7_source 6 (some .int), Cond.fieldLink RX7 19 "TermsDesk$Tracer" "parts" "LTermsDesk$Parts;", Cond.methodLink RX7 54 yX7_brings, Cond.instanceMethod yX7_brings, Cond.selects RX7 yX7_brings yX7_brings]
def wsX8_way_r3 : List Cond := [Cond.code yX7_brings cX7_brings 4 (some .boolean), Cond.fieldLink RX7 27 "TermsDesk$Tracer" "flow" "LTermsDesk$Flow;", Cond.methodLink RX7 61 yX2_brought, Cond.instanceMethod yX2_brought, Cond.selects RX2 yX2_brought yX2_brought, Cond.initialized RX2, Cond.code yX2_brought cX2_brought 4 (some .long), Cond.fieldLink RX2 18 "TermsDesk$Flow" "terms" "LTermsDesk$Terms;", Cond.fieldLink RX2 22 "TermsDesk$Flow" "parts" "LTermsDesk$Parts;", Cond.constantLong RX2 44 (-1), Cond.static yX8_pairsOf, Cond.code yX8_pairsOf cX8_pairsOf 1 (some .long), Cond.constantLong RX8 216 (255), Cond.methodLink RX7 39 yX7_next, Cond.instanceMethod yX7_next, Cond.selects RX7 yX7_next yX7_next, Cond.code yX7_next cX7_next 7 (some .int), Cond.methodLink RX7 108 yX3_isThere, Cond.instanceMethod yX3_isThere, Cond.selects RX3 yX3_isThere yX3_isThere, Cond.initialized RX3, Cond.code yX3_isThere cX3_isThere 2 (some .boolean), Cond.fieldLink RX3 33 "TermsDesk$Joins" "told" "I", Cond.fieldLink RX3 41 "TermsDesk$Joins" "there" "J"]
def wsX8_way : List Cond := .code yX8_way cX8_way 6 (some .int) :: ((wsX8_way_r1 ++ (wsX8_way_r2 ++ wsX8_way_r3)) ++ wsX80 ++ wsX50 ++ wsX70 ++ wsX30 ++ wsX60 ++ wsX20)
def wsX8_memberAt : List Cond := .code yX8_memberAt cX8_memberAt 4 (some .int) :: ([.methodLink RX8 130 yX8_holds, .static yX8_holds, .initialized RX8, .code yX8_holds cX8_holds 3 (some .boolean)])
def wsX8_notice_r1 : List Cond := [Cond.fieldLink RX8 19 "TermsDesk" "parts" "LTermsDesk$Parts;", Cond.fieldLink RX8 69 "TermsDesk" "tracer" "LTermsDesk$Tracer;", Cond.methodLink RX8 77 yX8_within, Cond.static yX8_within, Cond.initialized RX8, Cond.code yX8_within cX8_within 2 (some .boolean), Cond.methodLink RX8 185 yX7_noticed, Cond.instanceMethod yX7_noticed, Cond.selects RX7 yX7_noticed yX7_noticed, Cond.initialized RX7, Cond.code yX7_noticed cX7_noticed 6 (some .int), Cond.fieldLink RX7 19 "TermsDesk$Tracer" "parts" "LTermsDesk$Parts;", Cond.fieldLink RX7 9 "TermsDesk$Tracer" "steps" "[I", Cond.static yX8_pairOf, Cond.code yX8_pairOf cX8_pairOf 2 (some .int), Cond.methodLink RX7 31 yX7_measure, Cond.instanceMethod yX7_measure, Cond.selects RX7 yX7_measure yX7_measure, Cond.code yX7_measure cX7_measure 5 none, Cond.fieldLink RX7 23 "TermsDesk$Tracer" "joins" "LTermsDesk$Joins;", Cond.methodLink RX7 85 yX7_measureInto, Cond.instanceMethod yX7_measureInto, Cond.selects RX7 yX7_measureInto yX7_measureInto, Cond.code yX7_measureInto cX7_measureInto 7 none]
def wsX8_notice_r2 : List Cond := [Cond.methodLink RX7 100 yX7_goes, Cond.instanceMethod yX7_goes, Cond.selects RX7 yX7_goes yX7_goes, Cond.code yX7_goes cX7_goes 3 (some .boolean), Cond.fieldLink RX7 15 "TermsDesk$Tracer" "terms" "LTermsDesk$Terms;", Cond.static yX8_holds, Cond.code yX8_holds cX8_holds 3 (some .boolean), Cond.methodLink RX7 54 yX7_brings, Cond.instanceMethod yX7_brings, Cond.selects RX7 yX7_brings yX7_brings, Cond.code yX7_brings cX7_brings 4 (some .boolean), Cond.fieldLink RX7 27 "TermsDesk$Tracer" "flow" "LTermsDesk$Flow;", Cond.methodLink RX7 61 yX2_brought, Cond.instanceMethod yX2_brought, Cond.selects RX2 yX2_brought yX2_brought, Cond.initialized RX2, Cond.code yX2_brought cX2_brought 4 (some .long), Cond.fieldLink RX2 18 "TermsDesk$Flow" "terms" "LTermsDesk$Terms;", Cond.fieldLink RX2 22 "TermsDesk$Flow" "parts" "LTermsDesk$Parts;", Cond.constantLong RX2 44 (-1), Cond.static yX8_pairsOf, Cond.code yX8_pairsOf cX8_pairsOf 1 (some .long), Cond.constantLong RX8 216 (255), Cond.methodLink RX8 80 yX8_pairOf]
def wsX8_notice_r3 : List Cond := [Cond.methodLink RX8 188 yX8_memberAt, Cond.static yX8_memberAt, Cond.code yX8_memberAt cX8_memberAt 4 (some .int), Cond.methodLink RX8 130 yX8_holds]
def wsX8_notice : List Cond := .code yX8_notice cX8_notice 3 (some .int) :: ((wsX8_notice_r1 ++ (wsX8_notice_r2 ++ wsX8_notice_r3)) ++ wsX80 ++ wsX50 ++ wsX70 ++ wsX30 ++ wsX60 ++ wsX20)
def wsX8_differ_r1 : List Cond := [Cond.fieldLink RX8 42 "TermsDesk" "flow" "LTermsDesk$Flow;", Cond.methodLink RX8 77 yX8_within, Cond.static yX8_within, Cond.initialized RX8, Cond.code yX8_within cX8_within 2 (some .boolean), Cond.methodLink RX8 191 yX2_unlike, Cond.instanceMethod yX2_unlike, Cond.selects RX2 yX2_unlike yX2_unlike, Cond.initialized RX2, Cond.code yX2_unlike cX2_unlike 5 (some .int), Cond.fieldLink RX2 22 "TermsDesk$Flow" "parts" "LTermsDesk$Parts;", Cond.fieldLink RX2 26 "TermsDesk$Flow" "joins" "LTermsDesk$Joins;", Cond.fieldLink RX2 9 "TermsDesk$Flow" "arrived" "[J", Cond.fieldLink RX2 15 "TermsDesk$Flow" "earlier" "[J", Cond.methodLink RX2 124 arraycopyName, Cond.native arraycopyName, Cond.static arraycopyName, Cond.initialized "java/lang/System", Cond.methodLink RX2 120 yX2_run, Cond.instanceMethod yX2_run, Cond.selects RX2 yX2_run yX2_run, Cond.code yX2_run cX2_run 7 none, Cond.methodLink RX2 52 yX2_brought, Cond.instanceMethod yX2_brought]
def wsX8_differ_r2 : List Cond := [Cond.selects RX2 yX2_brought yX2_brought, Cond.code yX2_brought cX2_brought 4 (some .long), Cond.fieldLink RX2 18 "TermsDesk$Flow" "terms" "LTermsDesk$Terms;", Cond.constantLong RX2 44 (-1), Cond.static yX8_pairsOf, Cond.code yX8_pairsOf cX8_pairsOf 1 (some .long), Cond.constantLong RX8 216 (255), Cond.methodLink RX8 80 yX8_pairOf, Cond.static yX8_pairOf, Cond.code yX8_pairOf cX8_pairOf 2 (some .int), Cond.methodLink RX2 56 yX2_arrive, Cond.instanceMethod yX2_arrive, Cond.selects RX2 yX2_arrive yX2_arrive, Cond.code yX2_arrive cX2_arrive 10 none, Cond.static yX8_holds, Cond.code yX8_holds cX8_holds 3 (some .boolean), Cond.methodLink RX2 96 yX2_ofProduct, Cond.instanceMethod yX2_ofProduct, Cond.selects RX2 yX2_ofProduct yX2_ofProduct, Cond.code yX2_ofProduct cX2_ofProduct 3 (some .int), Cond.methodLink RX2 92 yX3_allIn, Cond.instanceMethod yX3_allIn, Cond.selects RX3 yX3_allIn yX3_allIn, Cond.initialized RX3]
def wsX8_differ_r3 : List Cond := [Cond.code yX3_allIn cX3_allIn 9 (some .int), Cond.fieldLink RX3 21 "TermsDesk$Joins" "order" "[I", Cond.fieldLink RX3 27 "TermsDesk$Joins" "begin" "[I", Cond.fieldLink RX3 30 "TermsDesk$Joins" "end" "[I", Cond.fieldLink RX3 24 "TermsDesk$Joins" "sorted" "[I", Cond.fieldLink RX3 9 "TermsDesk$Joins" "from" "[I", Cond.methodLink RX8 188 yX8_memberAt, Cond.static yX8_memberAt, Cond.code yX8_memberAt cX8_memberAt 4 (some .int), Cond.methodLink RX8 130 yX8_holds]
def wsX8_differ : List Cond := .code yX8_differ cX8_differ 4 (some .int) :: ((wsX8_differ_r1 ++ (wsX8_differ_r2 ++ wsX8_differ_r3)) ++ wsX80 ++ wsX20 ++ wsX50 ++ wsX30 ++ wsX60)
def wsX8_choiceOrNone : List Cond := .code yX8_choiceOrNone cX8_choiceOrNone 3 (some .int) :: ([.fieldLink RX8 19 "TermsDesk" "parts" "LTermsDesk$Parts;", .methodLink RX8 112 yX5_choiceOf, .instanceMethod yX5_choiceOf, .selects RX5 yX5_choiceOf yX5_choiceOf, .initialized RX5, .code yX5_choiceOf cX5_choiceOf 3 (some .int), .fieldLink RX5 9 "TermsDesk$Parts" "choices" "[I"] ++ wsX80 ++ wsX50)
def wsX8_look_r1 : List Cond := [Cond.fieldLink RX8 19 "TermsDesk" "parts" "LTermsDesk$Parts;", Cond.fieldLink RX8 42 "TermsDesk" "flow" "LTermsDesk$Flow;", Cond.fieldLink RX8 26 "TermsDesk" "joins" "LTermsDesk$Joins;", Cond.methodLink RX8 104 yX5_has, Cond.instanceMethod yX5_has, Cond.selects RX5 yX5_has yX5_has, Cond.initialized RX5, Cond.code yX5_has cX5_has 2 (some .boolean), Cond.fieldLink RX5 25 "TermsDesk$Parts" "told" "I", Cond.static yX8_within, Cond.initialized RX8, Cond.code yX8_within cX8_within 2 (some .boolean), Cond.methodLink RX8 194 yX2_ofProduct, Cond.instanceMethod yX2_ofProduct, Cond.selects RX2 yX2_ofProduct yX2_ofProduct, Cond.initialized RX2, Cond.code yX2_ofProduct cX2_ofProduct 3 (some .int), Cond.fieldLink RX2 22 "TermsDesk$Flow" "parts" "LTermsDesk$Parts;", Cond.fieldLink RX2 26 "TermsDesk$Flow" "joins" "LTermsDesk$Joins;", Cond.methodLink RX2 92 yX3_allIn, Cond.instanceMethod yX3_allIn, Cond.selects RX3 yX3_allIn yX3_allIn, Cond.initialized RX3, Cond.code yX3_allIn cX3_allIn 9 (some .int)]
def wsX8_look_r2 : List Cond := [Cond.fieldLink RX3 21 "TermsDesk$Joins" "order" "[I", Cond.fieldLink RX3 27 "TermsDesk$Joins" "begin" "[I", Cond.fieldLink RX3 30 "TermsDesk$Joins" "end" "[I", Cond.fieldLink RX3 24 "TermsDesk$Joins" "sorted" "[I", Cond.fieldLink RX3 9 "TermsDesk$Joins" "from" "[I", Cond.static yX8_holds, Cond.code yX8_holds cX8_holds 3 (some .boolean), Cond.methodLink RX8 130 yX8_holds, Cond.methodLink RX8 198 yX3_countInto, Cond.instanceMethod yX3_countInto, Cond.selects RX3 yX3_countInto yX3_countInto, Cond.code yX3_countInto cX3_countInto 2 (some .int), Cond.methodLink RX8 201 yX3_countOutOf, Cond.instanceMethod yX3_countOutOf, Cond.selects RX3 yX3_countOutOf yX3_countOutOf, Cond.code yX3_countOutOf cX3_countOutOf 4 (some .int), Cond.fieldLink RX3 33 "TermsDesk$Joins" "told" "I", Cond.fieldLink RX3 41 "TermsDesk$Joins" "there" "J", Cond.methodLink RX8 204 yX8_choiceOrNone, Cond.instanceMethod yX8_choiceOrNone, Cond.selects RX8 yX8_choiceOrNone yX8_choiceOrNone, Cond.code yX8_choiceOrNone cX8_choiceOrNone 3 (some .int), Cond.methodLink RX8 112 yX5_choiceOf, Cond.instanceMethod yX5_choiceOf]
def wsX8_look_r3 : List Cond := [Cond.selects RX5 yX5_choiceOf yX5_choiceOf, Cond.code yX5_choiceOf cX5_choiceOf 3 (some .int), Cond.fieldLink RX5 9 "TermsDesk$Parts" "choices" "[I"]
def wsX8_look : List Cond := .code yX8_look cX8_look 3 (some .int) :: ((wsX8_look_r1 ++ (wsX8_look_r2 ++ wsX8_look_r3)) ++ wsX80 ++ wsX50 ++ wsX30 ++ wsX20)
def wsX8_count_r1 : List Cond := [Cond.fieldLink RX8 19 "TermsDesk" "parts" "LTermsDesk$Parts;", Cond.fieldLink RX8 26 "TermsDesk" "joins" "LTermsDesk$Joins;", Cond.fieldLink RX8 42 "TermsDesk" "flow" "LTermsDesk$Flow;", Cond.fieldLink RX8 33 "TermsDesk" "changes" "LTermsDesk$Changes;", Cond.methodLink RX8 207 yJ13_bitCount_95d88, Cond.static yJ13_bitCount_95d88, Cond.initialized RJ13, Cond.code yJ13_bitCount_95d88 cJ13_bitCount_95d88 2 (some .int), Cond.constantLong RJ13 314 (6148914691236517205), Cond.constantLong RJ13 316 (3689348814741910323), Cond.constantLong RJ13 318 (1085102592571150095), Cond.methodLink RX8 194 yX2_ofProduct, Cond.instanceMethod yX2_ofProduct, Cond.selects RX2 yX2_ofProduct yX2_ofProduct, Cond.initialized RX2, Cond.code yX2_ofProduct cX2_ofProduct 3 (some .int), Cond.fieldLink RX2 22 "TermsDesk$Flow" "parts" "LTermsDesk$Parts;", Cond.fieldLink RX2 26 "TermsDesk$Flow" "joins" "LTermsDesk$Joins;", Cond.methodLink RX2 92 yX3_allIn, Cond.instanceMethod yX3_allIn, Cond.selects RX3 yX3_allIn yX3_allIn, Cond.initialized RX3, Cond.code yX3_allIn cX3_allIn 9 (some .int), Cond.fieldLink RX3 21 "TermsDesk$Joins" "order" "[I"]
def wsX8_count_r2 : List Cond := [Cond.fieldLink RX3 27 "TermsDesk$Joins" "begin" "[I", Cond.fieldLink RX3 30 "TermsDesk$Joins" "end" "[I", Cond.fieldLink RX3 24 "TermsDesk$Joins" "sorted" "[I", Cond.fieldLink RX3 9 "TermsDesk$Joins" "from" "[I", Cond.static yX8_holds, Cond.initialized RX8, Cond.code yX8_holds cX8_holds 3 (some .boolean), Cond.methodLink RX8 212 yJ6_bitCount_0f7a4, Cond.static yJ6_bitCount_0f7a4, Cond.initialized RJ6, Cond.code yJ6_bitCount_0f7a4 cJ6_bitCount_0f7a4 1 (some .int), Cond.constant RJ6 265 (1431655765), Cond.constant RJ6 266 (858993459), Cond.constant RJ6 267 (252645135), Cond.methodLink RX8 169 yX2_wayCount, Cond.instanceMethod yX2_wayCount, Cond.selects RX2 yX2_wayCount yX2_wayCount, Cond.code yX2_wayCount cX2_wayCount 4 (some .int), Cond.methodLink RX2 96 yX2_ofProduct]
def wsX8_count : List Cond := .code yX8_count cX8_count 2 (some .int) :: ((wsX8_count_r1 ++ wsX8_count_r2) ++ wsX80 ++ wsX50 ++ wsX30 ++ wsX00 ++ wsX20)
def wsX9_init_r1 : List Cond := [Cond.methodLink RX9 1 objectInit, Cond.instanceMethod objectInit, Cond.code objectInit ⟨#[0xb1]⟩ 1 none, Cond.arrayClass .int, Cond.fieldLink RX9 7 "TermsDeskModel" "asked" "[I", Cond.arrayClass .long, Cond.fieldLink RX9 13 "TermsDeskModel" "along" "[J", Cond.fieldLink RX9 17 "TermsDeskModel" "barred" "[I", Cond.fieldLink RX9 20 "TermsDeskModel" "choice" "[I", Cond.fieldLink RX9 23 "TermsDeskModel" "many" "[I", Cond.fieldLink RX9 26 "TermsDeskModel" "taken" "[I", Cond.fieldLink RX9 29 "TermsDeskModel" "lifted" "[J", Cond.fieldLink RX9 32 "TermsDeskModel" "from" "[I", Cond.fieldLink RX9 35 "TermsDeskModel" "to" "[I", Cond.fieldLink RX9 38 "TermsDeskModel" "kind" "[I", Cond.arrayClass .boolean, Cond.fieldLink RX9 41 "TermsDeskModel" "isCut" "[Z", Cond.fieldLink RX9 45 "TermsDeskModel" "sort" "[I", Cond.fieldLink RX9 48 "TermsDeskModel" "which" "[I", Cond.fieldLink RX9 51 "TermsDeskModel" "gets" "[I", Cond.fieldLink RX9 54 "TermsDeskModel" "cost" "[I", Cond.fieldLink RX9 57 "TermsDeskModel" "isReached" "[Z", Cond.fieldLink RX9 60 "TermsDeskModel" "isGone" "[Z", Cond.fieldLink RX9 63 "TermsDeskModel" "has" "[I"]
def wsX9_init_r2 : List Cond := [Cond.fieldLink RX9 66 "TermsDeskModel" "come" "[J", Cond.fieldLink RX9 69 "TermsDeskModel" "order" "[I", Cond.fieldLink RX9 72 "TermsDeskModel" "level" "[I", Cond.fieldLink RX9 75 "TermsDeskModel" "place" "[I", Cond.fieldLink RX9 78 "TermsDeskModel" "best" "[I", Cond.fieldLink RX9 81 "TermsDeskModel" "far" "[I", Cond.fieldLink RX9 84 "TermsDeskModel" "other" "[J"]
def wsX9_init : List Cond := .code yX9_init cX9_init 1 none :: ((wsX9_init_r1 ++ wsX9_init_r2) ++ wsX90)
def wsX9_lies : List Cond := .code yX9_lies cX9_lies 3 (some .boolean) :: ([])
def wsX9_isPart : List Cond := .code yX9_isPart cX9_isPart 2 (some .boolean) :: ([.fieldLink RX9 87 "TermsDeskModel" "parts" "I", .methodLink RX9 91 yX9_lies, .static yX9_lies, .initialized RX9, .code yX9_lies cX9_lies 3 (some .boolean)] ++ wsX90)
def wsX9_isLicence : List Cond := .code yX9_isLicence cX9_isLicence 1 (some .boolean) :: ([.methodLink RX9 91 yX9_lies, .static yX9_lies, .initialized RX9, .code yX9_lies cX9_lies 3 (some .boolean)])
def wsX9_isShipping : List Cond := .code yX9_isShipping cX9_isShipping 1 (some .boolean) :: ([.methodLink RX9 91 yX9_lies, .static yX9_lies, .initialized RX9, .code yX9_lies cX9_lies 3 (some .boolean)])
def wsX9_bit : List Cond := .code yX9_bit cX9_bit 2 (some .long) :: ([])
def wsX9_asks : List Cond := .code yX9_asks cX9_asks 6 (some .boolean) :: ([.fieldLink RX9 7 "TermsDeskModel" "asked" "[I", .fieldLink RX9 13 "TermsDeskModel" "along" "[J", .constantLong RX9 103 (-1), .methodLink RX9 95 yX9_isLicence, .static yX9_isLicence, .initialized RX9, .code yX9_isLicence cX9_isLicence 1 (some .boolean), .methodLink RX9 91 yX9_lies, .static yX9_lies, .code yX9_lies cX9_lies 3 (some .boolean), .methodLink RX9 99 yX9_bit, .static yX9_bit, .code yX9_bit cX9_bit 2 (some .long)] ++ wsX90)
def wsX9_bars : List Cond := .code yX9_bars cX9_bars 3 (some .boolean) :: ([.fieldLink RX9 17 "TermsDeskModel" "barred" "[I", .methodLink RX9 95 yX9_isLicence, .static yX9_isLicence, .initialized RX9, .code yX9_isLicence cX9_isLicence 1 (some .boolean), .methodLink RX9 91 yX9_lies, .static yX9_lies, .code yX9_lies cX9_lies 3 (some .boolean)] ++ wsX90)
def wsX9_part : List Cond := .code yX9_part cX9_part 4 (some .int) :: ([.fieldLink RX9 87 "TermsDeskModel" "parts" "I", .fieldLink RX9 20 "TermsDeskModel" "choice" "[I", .fieldLink RX9 23 "TermsDeskModel" "many" "[I", .methodLink RX9 95 yX9_isLicence, .static yX9_isLicence, .initialized RX9, .code yX9_isLicence cX9_isLicence 1 (some .boolean), .methodLink RX9 91 yX9_lies, .static yX9_lies, .code yX9_lies cX9_lies 3 (some .boolean)] ++ wsX90)
def wsX9_take : List Cond := .code yX9_take cX9_take 3 (some .boolean) :: ([.fieldLink RX9 23 "TermsDeskModel" "many" "[I", .fieldLink RX9 26 "TermsDeskModel" "taken" "[I", .methodLink RX9 105 yX9_isPart, .instanceMethod yX9_isPart, .selects RX9 yX9_isPart yX9_isPart, .initialized RX9, .code yX9_isPart cX9_isPart 2 (some .boolean), .fieldLink RX9 87 "TermsDeskModel" "parts" "I", .methodLink RX9 91 yX9_lies, .static yX9_lies, .code yX9_lies cX9_lies 3 (some .boolean)] ++ wsX90)
def wsX9_reaches : List Cond := .code yX9_reaches cX9_reaches 4 none :: ([.fieldLink RX9 57 "TermsDeskModel" "isReached" "[Z", .fieldLink RX9 108 "TermsDeskModel" "joins" "I", .fieldLink RX9 60 "TermsDeskModel" "isGone" "[Z", .fieldLink RX9 35 "TermsDeskModel" "to" "[I", .fieldLink RX9 32 "TermsDeskModel" "from" "[I"] ++ wsX90)
def wsX9_asItIs : List Cond := .code yX9_asItIs cX9_asItIs 2 none :: ([.fieldLink RX9 108 "TermsDeskModel" "joins" "I", .fieldLink RX9 60 "TermsDeskModel" "isGone" "[Z", .fieldLink RX9 41 "TermsDeskModel" "isCut" "[Z", .fieldLink RX9 87 "TermsDeskModel" "parts" "I", .fieldLink RX9 63 "TermsDeskModel" "has" "[I", .fieldLink RX9 20 "TermsDeskModel" "choice" "[I", .fieldLink RX9 26 "TermsDeskModel" "taken" "[I"] ++ wsX90)
def wsX9_join_r1 : List Cond := [Cond.fieldLink RX9 108 "TermsDeskModel" "joins" "I", Cond.fieldLink RX9 41 "TermsDeskModel" "isCut" "[Z", Cond.fieldLink RX9 32 "TermsDeskModel" "from" "[I", Cond.fieldLink RX9 35 "TermsDeskModel" "to" "[I", Cond.fieldLink RX9 57 "TermsDeskModel" "isReached" "[Z", Cond.fieldLink RX9 38 "TermsDeskModel" "kind" "[I", Cond.methodLink RX9 105 yX9_isPart, Cond.instanceMethod yX9_isPart, Cond.selects RX9 yX9_isPart yX9_isPart, Cond.initialized RX9, Cond.code yX9_isPart cX9_isPart 2 (some .boolean), Cond.fieldLink RX9 87 "TermsDeskModel" "parts" "I", Cond.methodLink RX9 91 yX9_lies, Cond.static yX9_lies, Cond.code yX9_lies cX9_lies 3 (some .boolean), Cond.methodLink RX9 111 yX9_asItIs, Cond.instanceMethod yX9_asItIs, Cond.selects RX9 yX9_asItIs yX9_asItIs, Cond.code yX9_asItIs cX9_asItIs 2 none, Cond.fieldLink RX9 60 "TermsDeskModel" "isGone" "[Z", Cond.fieldLink RX9 63 "TermsDeskModel" "has" "[I", Cond.fieldLink RX9 20 "TermsDeskModel" "choice" "[I", Cond.fieldLink RX9 26 "TermsDeskModel" "taken" "[I", Cond.methodLink RX9 114 yX9_reaches]
def wsX9_join_r2 : List Cond := [Cond.instanceMethod yX9_reaches, Cond.selects RX9 yX9_reaches yX9_reaches, Cond.code yX9_reaches cX9_reaches 4 none]
def wsX9_join : List Cond := .code yX9_join cX9_join 5 (some .int) :: ((wsX9_join_r1 ++ wsX9_join_r2) ++ wsX90)
def wsX9_cut : List Cond := .code yX9_cut cX9_cut 2 (some .boolean) :: ([.fieldLink RX9 108 "TermsDeskModel" "joins" "I", .fieldLink RX9 41 "TermsDeskModel" "isCut" "[Z", .methodLink RX9 91 yX9_lies, .static yX9_lies, .initialized RX9, .code yX9_lies cX9_lies 3 (some .boolean)] ++ wsX90)
def wsX9_except : List Cond := .code yX9_except cX9_except 4 (some .boolean) :: ([.fieldLink RX9 29 "TermsDeskModel" "lifted" "[J", .methodLink RX9 105 yX9_isPart, .instanceMethod yX9_isPart, .selects RX9 yX9_isPart yX9_isPart, .initialized RX9, .code yX9_isPart cX9_isPart 2 (some .boolean), .fieldLink RX9 87 "TermsDeskModel" "parts" "I", .methodLink RX9 91 yX9_lies, .static yX9_lies, .code yX9_lies cX9_lies 3 (some .boolean), .methodLink RX9 95 yX9_isLicence, .static yX9_isLicence, .code yX9_isLicence cX9_isLicence 1 (some .boolean), .methodLink RX9 99 yX9_bit, .static yX9_bit, .code yX9_bit cX9_bit 2 (some .long)] ++ wsX90)
def wsX9_product : List Cond := .code yX9_product cX9_product 2 (some .boolean) :: ([.fieldLink RX9 118 "TermsDeskModel" "product" "I", .methodLink RX9 105 yX9_isPart, .instanceMethod yX9_isPart, .selects RX9 yX9_isPart yX9_isPart, .initialized RX9, .code yX9_isPart cX9_isPart 2 (some .boolean), .fieldLink RX9 87 "TermsDeskModel" "parts" "I", .methodLink RX9 91 yX9_lies, .static yX9_lies, .code yX9_lies cX9_lies 3 (some .boolean)] ++ wsX90)
def wsX9_change : List Cond := .code yX9_change cX9_change 5 (some .int) :: ([.fieldLink RX9 121 "TermsDeskModel" "changes" "I", .constant RX9 124 (100000), .fieldLink RX9 108 "TermsDeskModel" "joins" "I", .fieldLink RX9 45 "TermsDeskModel" "sort" "[I", .fieldLink RX9 48 "TermsDeskModel" "which" "[I", .fieldLink RX9 51 "TermsDeskModel" "gets" "[I", .fieldLink RX9 54 "TermsDeskModel" "cost" "[I", .methodLink RX9 91 yX9_lies, .static yX9_lies, .initialized RX9, .code yX9_lies cX9_lies 3 (some .boolean), .methodLink RX9 105 yX9_isPart, .instanceMethod yX9_isPart, .selects RX9 yX9_isPart yX9_isPart, .code yX9_isPart cX9_isPart 2 (some .boolean), .fieldLink RX9 87 "TermsDeskModel" "parts" "I", .methodLink RX9 95 yX9_isLicence, .static yX9_isLicence, .code yX9_isLicence cX9_isLicence 1 (some .boolean)] ++ wsX90)
def wsX9_orders : List Cond := .code yX9_orders cX9_orders 3 none :: ([.fieldLink RX9 72 "TermsDeskModel" "level" "[I", .fieldLink RX9 87 "TermsDeskModel" "parts" "I", .fieldLink RX9 108 "TermsDeskModel" "joins" "I", .fieldLink RX9 60 "TermsDeskModel" "isGone" "[Z", .fieldLink RX9 35 "TermsDeskModel" "to" "[I", .fieldLink RX9 32 "TermsDeskModel" "from" "[I", .fieldLink RX9 125 "TermsDeskModel" "orderMany" "I", .fieldLink RX9 69 "TermsDeskModel" "order" "[I"] ++ wsX90)
def wsX9_brings : List Cond := .code yX9_brings cX9_brings 3 (some .long) :: ([.fieldLink RX9 7 "TermsDeskModel" "asked" "[I", .fieldLink RX9 63 "TermsDeskModel" "has" "[I", .fieldLink RX9 29 "TermsDeskModel" "lifted" "[J", .constantLong RX9 103 (-1)] ++ wsX90)
def wsX9_comes : List Cond := .code yX9_comes cX9_comes 4 none :: ([.fieldLink RX9 87 "TermsDeskModel" "parts" "I", .fieldLink RX9 66 "TermsDeskModel" "come" "[J", .fieldLink RX9 125 "TermsDeskModel" "orderMany" "I", .fieldLink RX9 69 "TermsDeskModel" "order" "[I", .fieldLink RX9 35 "TermsDeskModel" "to" "[I", .fieldLink RX9 32 "TermsDeskModel" "from" "[I", .fieldLink RX9 13 "TermsDeskModel" "along" "[J", .fieldLink RX9 38 "TermsDeskModel" "kind" "[I", .methodLink RX9 128 yX9_brings, .instanceMethod yX9_brings, .selects RX9 yX9_brings yX9_brings, .initialized RX9, .code yX9_brings cX9_brings 3 (some .long), .fieldLink RX9 7 "TermsDeskModel" "asked" "[I", .fieldLink RX9 63 "TermsDeskModel" "has" "[I", .fieldLink RX9 29 "TermsDeskModel" "lifted" "[J", .constantLong RX9 103 (-1)] ++ wsX90)
def wsX9_bits : List Cond := .code yX9_bits cX9_bits 5 (some .int) :: ([])
def wsX9_bars_ : List Cond := .code yX9_bars_ cX9_bars_ 5 (some .long) :: ([.fieldLink RX9 17 "TermsDeskModel" "barred" "[I"] ++ wsX90)
def wsX9_quarrelsNow : List Cond := .code yX9_quarrelsNow cX9_quarrelsNow 3 (some .int) :: ([.fieldLink RX9 87 "TermsDeskModel" "parts" "I", .fieldLink RX9 57 "TermsDeskModel" "isReached" "[Z", .fieldLink RX9 66 "TermsDeskModel" "come" "[J", .fieldLink RX9 63 "TermsDeskModel" "has" "[I", .methodLink RX9 131 yX9_bars_, .instanceMethod yX9_bars_, .selects RX9 yX9_bars_ yX9_bars_, .initialized RX9, .code yX9_bars_ cX9_bars_ 5 (some .long), .fieldLink RX9 17 "TermsDeskModel" "barred" "[I", .methodLink RX9 135 yX9_bits, .static yX9_bits, .code yX9_bits cX9_bits 5 (some .int)] ++ wsX90)
def wsX9_works_r1 : List Cond := [Cond.fieldLink RX9 118 "TermsDeskModel" "product" "I", Cond.methodLink RX9 111 yX9_asItIs, Cond.instanceMethod yX9_asItIs, Cond.selects RX9 yX9_asItIs yX9_asItIs, Cond.initialized RX9, Cond.code yX9_asItIs cX9_asItIs 2 none, Cond.fieldLink RX9 108 "TermsDeskModel" "joins" "I", Cond.fieldLink RX9 60 "TermsDeskModel" "isGone" "[Z", Cond.fieldLink RX9 41 "TermsDeskModel" "isCut" "[Z", Cond.fieldLink RX9 87 "TermsDeskModel" "parts" "I", Cond.fieldLink RX9 63 "TermsDeskModel" "has" "[I", Cond.fieldLink RX9 20 "TermsDeskModel" "choice" "[I", Cond.fieldLink RX9 26 "TermsDeskModel" "taken" "[I", Cond.methodLink RX9 139 yX9_orders, Cond.instanceMethod yX9_orders, Cond.selects RX9 yX9_orders yX9_orders, Cond.code yX9_orders cX9_orders 3 none, Cond.fieldLink RX9 72 "TermsDeskModel" "level" "[I", Cond.fieldLink RX9 35 "TermsDeskModel" "to" "[I", Cond.fieldLink RX9 32 "TermsDeskModel" "from" "[I", Cond.fieldLink RX9 125 "TermsDeskModel" "orderMany" "I", Cond.fieldLink RX9 69 "TermsDeskModel" "order" "[I", Cond.methodLink RX9 114 yX9_reaches, Cond.instanceMethod yX9_reaches]
def wsX9_works_r2 : List Cond := [Cond.selects RX9 yX9_reaches yX9_reaches, Cond.code yX9_reaches cX9_reaches 4 none, Cond.fieldLink RX9 57 "TermsDeskModel" "isReached" "[Z", Cond.methodLink RX9 142 yX9_comes, Cond.instanceMethod yX9_comes, Cond.selects RX9 yX9_comes yX9_comes, Cond.code yX9_comes cX9_comes 4 none, Cond.fieldLink RX9 66 "TermsDeskModel" "come" "[J", Cond.fieldLink RX9 13 "TermsDeskModel" "along" "[J", Cond.fieldLink RX9 38 "TermsDeskModel" "kind" "[I", Cond.methodLink RX9 128 yX9_brings, Cond.instanceMethod yX9_brings, Cond.selects RX9 yX9_brings yX9_brings, Cond.code yX9_brings cX9_brings 3 (some .long), Cond.fieldLink RX9 7 "TermsDeskModel" "asked" "[I", Cond.fieldLink RX9 29 "TermsDeskModel" "lifted" "[J", Cond.constantLong RX9 103 (-1)]
def wsX9_works : List Cond := .code yX9_works cX9_works 2 none :: ((wsX9_works_r1 ++ wsX9_works_r2) ++ wsX90)
def wsX9_come_r1 : List Cond := [Cond.fieldLink RX9 66 "TermsDeskModel" "come" "[J", Cond.constantLong RX9 151 (255), Cond.methodLink RX9 145 yX9_isShipping, Cond.static yX9_isShipping, Cond.initialized RX9, Cond.code yX9_isShipping cX9_isShipping 1 (some .boolean), Cond.methodLink RX9 91 yX9_lies, Cond.static yX9_lies, Cond.code yX9_lies cX9_lies 3 (some .boolean), Cond.methodLink RX9 105 yX9_isPart, Cond.instanceMethod yX9_isPart, Cond.selects RX9 yX9_isPart yX9_isPart, Cond.code yX9_isPart cX9_isPart 2 (some .boolean), Cond.fieldLink RX9 87 "TermsDeskModel" "parts" "I", Cond.methodLink RX9 95 yX9_isLicence, Cond.static yX9_isLicence, Cond.code yX9_isLicence cX9_isLicence 1 (some .boolean), Cond.methodLink RX9 148 yX9_works, Cond.instanceMethod yX9_works, Cond.selects RX9 yX9_works yX9_works, Cond.code yX9_works cX9_works 2 none, Cond.fieldLink RX9 118 "TermsDeskModel" "product" "I", Cond.methodLink RX9 111 yX9_asItIs, Cond.instanceMethod yX9_asItIs]
def wsX9_come_r2 : List Cond := [Cond.selects RX9 yX9_asItIs yX9_asItIs, Cond.code yX9_asItIs cX9_asItIs 2 none, Cond.fieldLink RX9 108 "TermsDeskModel" "joins" "I", Cond.fieldLink RX9 60 "TermsDeskModel" "isGone" "[Z", Cond.fieldLink RX9 41 "TermsDeskModel" "isCut" "[Z", Cond.fieldLink RX9 63 "TermsDeskModel" "has" "[I", Cond.fieldLink RX9 20 "TermsDeskModel" "choice" "[I", Cond.fieldLink RX9 26 "TermsDeskModel" "taken" "[I", Cond.methodLink RX9 139 yX9_orders, Cond.instanceMethod yX9_orders, Cond.selects RX9 yX9_orders yX9_orders, Cond.code yX9_orders cX9_orders 3 none, Cond.fieldLink RX9 72 "TermsDeskModel" "level" "[I", Cond.fieldLink RX9 35 "TermsDeskModel" "to" "[I", Cond.fieldLink RX9 32 "TermsDeskModel" "from" "[I", Cond.fieldLink RX9 125 "TermsDeskModel" "orderMany" "I", Cond.fieldLink RX9 69 "TermsDeskModel" "order" "[I", Cond.methodLink RX9 114 yX9_reaches, Cond.instanceMethod yX9_reaches, Cond.selects RX9 yX9_reaches yX9_reaches, Cond.code yX9_reaches cX9_reaches 4 none, Cond.fieldLink RX9 57 "TermsDeskModel" "isReached" "[Z", Cond.methodLink RX9 142 yX9_comes, Cond.instanceMethod yX9_comes]
def wsX9_come_r3 : List Cond := [Cond.selects RX9 yX9_comes yX9_comes, Cond.code yX9_comes cX9_comes 4 none, Cond.fieldLink RX9 13 "TermsDeskModel" "along" "[J", Cond.fieldLink RX9 38 "TermsDeskModel" "kind" "[I", Cond.methodLink RX9 128 yX9_brings, Cond.instanceMethod yX9_brings, Cond.selects RX9 yX9_brings yX9_brings, Cond.code yX9_brings cX9_brings 3 (some .long), Cond.fieldLink RX9 7 "TermsDeskModel" "asked" "[I", Cond.fieldLink RX9 29 "TermsDeskModel" "lifted" "[J", Cond.constantLong RX9 103 (-1)]
def wsX9_come : List Cond := .code yX9_come cX9_come 4 (some .int) :: ((wsX9_come_r1 ++ (wsX9_come_r2 ++ wsX9_come_r3)) ++ wsX90)
def wsX9_quarrels_r1 : List Cond := [Cond.methodLink RX9 145 yX9_isShipping, Cond.static yX9_isShipping, Cond.initialized RX9, Cond.code yX9_isShipping cX9_isShipping 1 (some .boolean), Cond.methodLink RX9 91 yX9_lies, Cond.static yX9_lies, Cond.code yX9_lies cX9_lies 3 (some .boolean), Cond.methodLink RX9 148 yX9_works, Cond.instanceMethod yX9_works, Cond.selects RX9 yX9_works yX9_works, Cond.code yX9_works cX9_works 2 none, Cond.fieldLink RX9 118 "TermsDeskModel" "product" "I", Cond.methodLink RX9 111 yX9_asItIs, Cond.instanceMethod yX9_asItIs, Cond.selects RX9 yX9_asItIs yX9_asItIs, Cond.code yX9_asItIs cX9_asItIs 2 none, Cond.fieldLink RX9 108 "TermsDeskModel" "joins" "I", Cond.fieldLink RX9 60 "TermsDeskModel" "isGone" "[Z", Cond.fieldLink RX9 41 "TermsDeskModel" "isCut" "[Z", Cond.fieldLink RX9 87 "TermsDeskModel" "parts" "I", Cond.fieldLink RX9 63 "TermsDeskModel" "has" "[I", Cond.fieldLink RX9 20 "TermsDeskModel" "choice" "[I", Cond.fieldLink RX9 26 "TermsDeskModel" "taken" "[I", Cond.methodLink RX9 139 yX9_orders]
def wsX9_quarrels_r2 : List Cond := [Cond.instanceMethod yX9_orders, Cond.selects RX9 yX9_orders yX9_orders, Cond.code yX9_orders cX9_orders 3 none, Cond.fieldLink RX9 72 "TermsDeskModel" "level" "[I", Cond.fieldLink RX9 35 "TermsDeskModel" "to" "[I", Cond.fieldLink RX9 32 "TermsDeskModel" "from" "[I", Cond.fieldLink RX9 125 "TermsDeskModel" "orderMany" "I", Cond.fieldLink RX9 69 "TermsDeskModel" "order" "[I", Cond.methodLink RX9 114 yX9_reaches, Cond.instanceMethod yX9_reaches, Cond.selects RX9 yX9_reaches yX9_reaches, Cond.code yX9_reaches cX9_reaches 4 none, Cond.fieldLink RX9 57 "TermsDeskModel" "isReached" "[Z", Cond.methodLink RX9 142 yX9_comes, Cond.instanceMethod yX9_comes, Cond.selects RX9 yX9_comes yX9_comes, Cond.code yX9_comes cX9_comes 4 none, Cond.fieldLink RX9 66 "TermsDeskModel" "come" "[J", Cond.fieldLink RX9 13 "TermsDeskModel" "along" "[J", Cond.fieldLink RX9 38 "TermsDeskModel" "kind" "[I", Cond.methodLink RX9 128 yX9_brings, Cond.instanceMethod yX9_brings, Cond.selects RX9 yX9_brings yX9_brings, Cond.code yX9_brings cX9_brings 3 (some .long)]
def wsX9_quarrels_r3 : List Cond := [Cond.fieldLink RX9 7 "TermsDeskModel" "asked" "[I", Cond.fieldLink RX9 29 "TermsDeskModel" "lifted" "[J", Cond.constantLong RX9 103 (-1), Cond.methodLink RX9 153 yX9_quarrelsNow, Cond.instanceMethod yX9_quarrelsNow, Cond.selects RX9 yX9_quarrelsNow yX9_quarrelsNow, Cond.code yX9_quarrelsNow cX9_quarrelsNow 3 (some .int), Cond.methodLink RX9 131 yX9_bars_, Cond.instanceMethod yX9_bars_, Cond.selects RX9 yX9_bars_ yX9_bars_, Cond.code yX9_bars_ cX9_bars_ 5 (some .long), Cond.fieldLink RX9 17 "TermsDeskModel" "barred" "[I", Cond.methodLink RX9 135 yX9_bits, Cond.static yX9_bits, Cond.code yX9_bits cX9_bits 5 (some .int)]
def wsX9_quarrels : List Cond := .code yX9_quarrels cX9_quarrels 2 (some .int) :: ((wsX9_quarrels_r1 ++ (wsX9_quarrels_r2 ++ wsX9_quarrels_r3)) ++ wsX90)
def wsX9_quarrel_r1 : List Cond := [Cond.fieldLink RX9 87 "TermsDeskModel" "parts" "I", Cond.fieldLink RX9 57 "TermsDeskModel" "isReached" "[Z", Cond.fieldLink RX9 66 "TermsDeskModel" "come" "[J", Cond.fieldLink RX9 63 "TermsDeskModel" "has" "[I", Cond.methodLink RX9 145 yX9_isShipping, Cond.static yX9_isShipping, Cond.initialized RX9, Cond.code yX9_isShipping cX9_isShipping 1 (some .boolean), Cond.methodLink RX9 91 yX9_lies, Cond.static yX9_lies, Cond.code yX9_lies cX9_lies 3 (some .boolean), Cond.methodLink RX9 148 yX9_works, Cond.instanceMethod yX9_works, Cond.selects RX9 yX9_works yX9_works, Cond.code yX9_works cX9_works 2 none, Cond.fieldLink RX9 118 "TermsDeskModel" "product" "I", Cond.methodLink RX9 111 yX9_asItIs, Cond.instanceMethod yX9_asItIs, Cond.selects RX9 yX9_asItIs yX9_asItIs, Cond.code yX9_asItIs cX9_asItIs 2 none, Cond.fieldLink RX9 108 "TermsDeskModel" "joins" "I", Cond.fieldLink RX9 60 "TermsDeskModel" "isGone" "[Z", Cond.fieldLink RX9 41 "TermsDeskModel" "isCut" "[Z", Cond.fieldLink RX9 20 "TermsDeskModel" "choice" "[I"]
def wsX9_quarrel_r2 : List Cond := [Cond.fieldLink RX9 26 "TermsDeskModel" "taken" "[I", Cond.methodLink RX9 139 yX9_orders, Cond.instanceMethod yX9_orders, Cond.selects RX9 yX9_orders yX9_orders, Cond.code yX9_orders cX9_orders 3 none, Cond.fieldLink RX9 72 "TermsDeskModel" "level" "[I", Cond.fieldLink RX9 35 "TermsDeskModel" "to" "[I", Cond.fieldLink RX9 32 "TermsDeskModel" "from" "[I", Cond.fieldLink RX9 125 "TermsDeskModel" "orderMany" "I", Cond.fieldLink RX9 69 "TermsDeskModel" "order" "[I", Cond.methodLink RX9 114 yX9_reaches, Cond.instanceMethod yX9_reaches, Cond.selects RX9 yX9_reaches yX9_reaches, Cond.code yX9_reaches cX9_reaches 4 none, Cond.methodLink RX9 142 yX9_comes, Cond.instanceMethod yX9_comes, Cond.selects RX9 yX9_comes yX9_comes, Cond.code yX9_comes cX9_comes 4 none, Cond.fieldLink RX9 13 "TermsDeskModel" "along" "[J", Cond.fieldLink RX9 38 "TermsDeskModel" "kind" "[I", Cond.methodLink RX9 128 yX9_brings, Cond.instanceMethod yX9_brings, Cond.selects RX9 yX9_brings yX9_brings, Cond.code yX9_brings cX9_brings 3 (some .long)]
def wsX9_quarrel_r3 : List Cond := [Cond.fieldLink RX9 7 "TermsDeskModel" "asked" "[I", Cond.fieldLink RX9 29 "TermsDeskModel" "lifted" "[J", Cond.constantLong RX9 103 (-1), Cond.methodLink RX9 131 yX9_bars_, Cond.instanceMethod yX9_bars_, Cond.selects RX9 yX9_bars_ yX9_bars_, Cond.code yX9_bars_ cX9_bars_ 5 (some .long), Cond.fieldLink RX9 17 "TermsDeskModel" "barred" "[I"]
def wsX9_quarrel : List Cond := .code yX9_quarrel cX9_quarrel 8 (some .int) :: ((wsX9_quarrel_r1 ++ (wsX9_quarrel_r2 ++ wsX9_quarrel_r3)) ++ wsX90)
def wsX9_ways : List Cond := .code yX9_ways cX9_ways 4 (some .int) :: ([.fieldLink RX9 118 "TermsDeskModel" "product" "I", .fieldLink RX9 87 "TermsDeskModel" "parts" "I", .fieldLink RX9 57 "TermsDeskModel" "isReached" "[Z", .constantLong RX9 157 (6561), .fieldLink RX9 23 "TermsDeskModel" "many" "[I", .methodLink RX9 111 yX9_asItIs, .instanceMethod yX9_asItIs, .selects RX9 yX9_asItIs yX9_asItIs, .initialized RX9, .code yX9_asItIs cX9_asItIs 2 none, .fieldLink RX9 108 "TermsDeskModel" "joins" "I", .fieldLink RX9 60 "TermsDeskModel" "isGone" "[Z", .fieldLink RX9 41 "TermsDeskModel" "isCut" "[Z", .fieldLink RX9 63 "TermsDeskModel" "has" "[I", .fieldLink RX9 20 "TermsDeskModel" "choice" "[I", .fieldLink RX9 26 "TermsDeskModel" "taken" "[I", .methodLink RX9 114 yX9_reaches, .instanceMethod yX9_reaches, .selects RX9 yX9_reaches yX9_reaches, .code yX9_reaches cX9_reaches 4 none, .fieldLink RX9 35 "TermsDeskModel" "to" "[I", .fieldLink RX9 32 "TermsDeskModel" "from" "[I"] ++ wsX90)
def wsX9_judge_r1 : List Cond := [Cond.fieldLink RX9 87 "TermsDeskModel" "parts" "I", Cond.fieldLink RX9 75 "TermsDeskModel" "place" "[I", Cond.fieldLink RX9 26 "TermsDeskModel" "taken" "[I", Cond.fieldLink RX9 57 "TermsDeskModel" "isReached" "[Z", Cond.fieldLink RX9 23 "TermsDeskModel" "many" "[I", Cond.fieldLink RX9 63 "TermsDeskModel" "has" "[I", Cond.fieldLink RX9 20 "TermsDeskModel" "choice" "[I", Cond.fieldLink RX9 66 "TermsDeskModel" "come" "[J", Cond.fieldLink RX9 118 "TermsDeskModel" "product" "I", Cond.fieldLink RX9 78 "TermsDeskModel" "best" "[I", Cond.methodLink RX9 145 yX9_isShipping, Cond.static yX9_isShipping, Cond.initialized RX9, Cond.code yX9_isShipping cX9_isShipping 1 (some .boolean), Cond.methodLink RX9 91 yX9_lies, Cond.static yX9_lies, Cond.code yX9_lies cX9_lies 3 (some .boolean), Cond.methodLink RX9 159 yX9_ways, Cond.instanceMethod yX9_ways, Cond.selects RX9 yX9_ways yX9_ways, Cond.code yX9_ways cX9_ways 4 (some .int), Cond.constantLong RX9 157 (6561), Cond.methodLink RX9 111 yX9_asItIs, Cond.instanceMethod yX9_asItIs]
def wsX9_judge_r2 : List Cond := [Cond.selects RX9 yX9_asItIs yX9_asItIs, Cond.code yX9_asItIs cX9_asItIs 2 none, Cond.fieldLink RX9 108 "TermsDeskModel" "joins" "I", Cond.fieldLink RX9 60 "TermsDeskModel" "isGone" "[Z", Cond.fieldLink RX9 41 "TermsDeskModel" "isCut" "[Z", Cond.methodLink RX9 114 yX9_reaches, Cond.instanceMethod yX9_reaches, Cond.selects RX9 yX9_reaches yX9_reaches, Cond.code yX9_reaches cX9_reaches 4 none, Cond.fieldLink RX9 35 "TermsDeskModel" "to" "[I", Cond.fieldLink RX9 32 "TermsDeskModel" "from" "[I", Cond.methodLink RX9 148 yX9_works, Cond.instanceMethod yX9_works, Cond.selects RX9 yX9_works yX9_works, Cond.code yX9_works cX9_works 2 none, Cond.methodLink RX9 139 yX9_orders, Cond.instanceMethod yX9_orders, Cond.selects RX9 yX9_orders yX9_orders, Cond.code yX9_orders cX9_orders 3 none, Cond.fieldLink RX9 72 "TermsDeskModel" "level" "[I", Cond.fieldLink RX9 125 "TermsDeskModel" "orderMany" "I", Cond.fieldLink RX9 69 "TermsDeskModel" "order" "[I", Cond.methodLink RX9 142 yX9_comes, Cond.instanceMethod yX9_comes]
def wsX9_judge_r3 : List Cond := [Cond.selects RX9 yX9_comes yX9_comes, Cond.code yX9_comes cX9_comes 4 none, Cond.fieldLink RX9 13 "TermsDeskModel" "along" "[J", Cond.fieldLink RX9 38 "TermsDeskModel" "kind" "[I", Cond.methodLink RX9 128 yX9_brings, Cond.instanceMethod yX9_brings, Cond.selects RX9 yX9_brings yX9_brings, Cond.code yX9_brings cX9_brings 3 (some .long), Cond.fieldLink RX9 7 "TermsDeskModel" "asked" "[I", Cond.fieldLink RX9 29 "TermsDeskModel" "lifted" "[J", Cond.constantLong RX9 103 (-1), Cond.methodLink RX9 153 yX9_quarrelsNow, Cond.instanceMethod yX9_quarrelsNow, Cond.selects RX9 yX9_quarrelsNow yX9_quarrelsNow, Cond.code yX9_quarrelsNow cX9_quarrelsNow 3 (some .int), Cond.methodLink RX9 131 yX9_bars_, Cond.instanceMethod yX9_bars_, Cond.selects RX9 yX9_bars_ yX9_bars_, Cond.code yX9_bars_ cX9_bars_ 5 (some .long), Cond.fieldLink RX9 17 "TermsDeskModel" "barred" "[I", Cond.methodLink RX9 135 yX9_bits, Cond.static yX9_bits, Cond.code yX9_bits cX9_bits 5 (some .int)]
def wsX9_judge : List Cond := .code yX9_judge cX9_judge 10 (some .int) :: ((wsX9_judge_r1 ++ (wsX9_judge_r2 ++ wsX9_judge_r3)) ++ wsX90)
def wsX9_priceOf : List Cond := .code yX9_priceOf cX9_priceOf 4 (some .int) :: ([.fieldLink RX9 121 "TermsDeskModel" "changes" "I", .fieldLink RX9 54 "TermsDeskModel" "cost" "[I"] ++ wsX90)
def wsX9_price : List Cond := .code yX9_price cX9_price 2 (some .int) :: ([.fieldLink RX9 121 "TermsDeskModel" "changes" "I", .methodLink RX9 91 yX9_lies, .static yX9_lies, .initialized RX9, .code yX9_lies cX9_lies 3 (some .boolean), .methodLink RX9 162 yX9_priceOf, .instanceMethod yX9_priceOf, .selects RX9 yX9_priceOf yX9_priceOf, .code yX9_priceOf cX9_priceOf 4 (some .int), .fieldLink RX9 54 "TermsDeskModel" "cost" "[I"] ++ wsX90)
def wsX9_quarrelsWith_r1 : List Cond := [Cond.fieldLink RX9 121 "TermsDeskModel" "changes" "I", Cond.fieldLink RX9 45 "TermsDeskModel" "sort" "[I", Cond.fieldLink RX9 63 "TermsDeskModel" "has" "[I", Cond.fieldLink RX9 48 "TermsDeskModel" "which" "[I", Cond.fieldLink RX9 51 "TermsDeskModel" "gets" "[I", Cond.fieldLink RX9 60 "TermsDeskModel" "isGone" "[Z", Cond.fieldLink RX9 118 "TermsDeskModel" "product" "I", Cond.methodLink RX9 111 yX9_asItIs, Cond.instanceMethod yX9_asItIs, Cond.selects RX9 yX9_asItIs yX9_asItIs, Cond.initialized RX9, Cond.code yX9_asItIs cX9_asItIs 2 none, Cond.fieldLink RX9 108 "TermsDeskModel" "joins" "I", Cond.fieldLink RX9 41 "TermsDeskModel" "isCut" "[Z", Cond.fieldLink RX9 87 "TermsDeskModel" "parts" "I", Cond.fieldLink RX9 20 "TermsDeskModel" "choice" "[I", Cond.fieldLink RX9 26 "TermsDeskModel" "taken" "[I", Cond.methodLink RX9 139 yX9_orders, Cond.instanceMethod yX9_orders, Cond.selects RX9 yX9_orders yX9_orders, Cond.code yX9_orders cX9_orders 3 none, Cond.fieldLink RX9 72 "TermsDeskModel" "level" "[I", Cond.fieldLink RX9 35 "TermsDeskModel" "to" "[I", Cond.fieldLink RX9 32 "TermsDeskModel" "from" "[I"]
def wsX9_quarrelsWith_r2 : List Cond := [Cond.fieldLink RX9 125 "TermsDeskModel" "orderMany" "I", Cond.fieldLink RX9 69 "TermsDeskModel" "order" "[I", Cond.methodLink RX9 114 yX9_reaches, Cond.instanceMethod yX9_reaches, Cond.selects RX9 yX9_reaches yX9_reaches, Cond.code yX9_reaches cX9_reaches 4 none, Cond.fieldLink RX9 57 "TermsDeskModel" "isReached" "[Z", Cond.methodLink RX9 142 yX9_comes, Cond.instanceMethod yX9_comes, Cond.selects RX9 yX9_comes yX9_comes, Cond.code yX9_comes cX9_comes 4 none, Cond.fieldLink RX9 66 "TermsDeskModel" "come" "[J", Cond.fieldLink RX9 13 "TermsDeskModel" "along" "[J", Cond.fieldLink RX9 38 "TermsDeskModel" "kind" "[I", Cond.methodLink RX9 128 yX9_brings, Cond.instanceMethod yX9_brings, Cond.selects RX9 yX9_brings yX9_brings, Cond.code yX9_brings cX9_brings 3 (some .long), Cond.fieldLink RX9 7 "TermsDeskModel" "asked" "[I", Cond.fieldLink RX9 29 "TermsDeskModel" "lifted" "[J", Cond.constantLong RX9 103 (-1), Cond.methodLink RX9 153 yX9_quarrelsNow, Cond.instanceMethod yX9_quarrelsNow, Cond.selects RX9 yX9_quarrelsNow yX9_quarrelsNow]
def wsX9_quarrelsWith_r3 : List Cond := [Cond.code yX9_quarrelsNow cX9_quarrelsNow 3 (some .int), Cond.methodLink RX9 131 yX9_bars_, Cond.instanceMethod yX9_bars_, Cond.selects RX9 yX9_bars_ yX9_bars_, Cond.code yX9_bars_ cX9_bars_ 5 (some .long), Cond.fieldLink RX9 17 "TermsDeskModel" "barred" "[I", Cond.methodLink RX9 135 yX9_bits, Cond.static yX9_bits, Cond.code yX9_bits cX9_bits 5 (some .int)]
def wsX9_quarrelsWith : List Cond := .code yX9_quarrelsWith cX9_quarrelsWith 4 (some .int) :: ((wsX9_quarrelsWith_r1 ++ (wsX9_quarrelsWith_r2 ++ wsX9_quarrelsWith_r3)) ++ wsX90)
def wsX9_isAhead : List Cond := .code yX9_isAhead cX9_isAhead 3 (some .boolean) :: ([.methodLink RX9 135 yX9_bits, .static yX9_bits, .initialized RX9, .code yX9_bits cX9_bits 5 (some .int)])
def wsX9_cheapest_r1 : List Cond := [Cond.fieldLink RX9 121 "TermsDeskModel" "changes" "I", Cond.methodLink RX9 145 yX9_isShipping, Cond.static yX9_isShipping, Cond.initialized RX9, Cond.code yX9_isShipping cX9_isShipping 1 (some .boolean), Cond.methodLink RX9 91 yX9_lies, Cond.static yX9_lies, Cond.code yX9_lies cX9_lies 3 (some .boolean), Cond.methodLink RX9 162 yX9_priceOf, Cond.instanceMethod yX9_priceOf, Cond.selects RX9 yX9_priceOf yX9_priceOf, Cond.code yX9_priceOf cX9_priceOf 4 (some .int), Cond.fieldLink RX9 54 "TermsDeskModel" "cost" "[I", Cond.methodLink RX9 166 yX9_isAhead, Cond.static yX9_isAhead, Cond.code yX9_isAhead cX9_isAhead 3 (some .boolean), Cond.methodLink RX9 135 yX9_bits, Cond.static yX9_bits, Cond.code yX9_bits cX9_bits 5 (some .int), Cond.methodLink RX9 170 yX9_quarrelsWith, Cond.instanceMethod yX9_quarrelsWith, Cond.selects RX9 yX9_quarrelsWith yX9_quarrelsWith, Cond.code yX9_quarrelsWith cX9_quarrelsWith 4 (some .int), Cond.fieldLink RX9 45 "TermsDeskModel" "sort" "[I"]
def wsX9_cheapest_r2 : List Cond := [Cond.fieldLink RX9 63 "TermsDeskModel" "has" "[I", Cond.fieldLink RX9 48 "TermsDeskModel" "which" "[I", Cond.fieldLink RX9 51 "TermsDeskModel" "gets" "[I", Cond.fieldLink RX9 60 "TermsDeskModel" "isGone" "[Z", Cond.fieldLink RX9 118 "TermsDeskModel" "product" "I", Cond.methodLink RX9 111 yX9_asItIs, Cond.instanceMethod yX9_asItIs, Cond.selects RX9 yX9_asItIs yX9_asItIs, Cond.code yX9_asItIs cX9_asItIs 2 none, Cond.fieldLink RX9 108 "TermsDeskModel" "joins" "I", Cond.fieldLink RX9 41 "TermsDeskModel" "isCut" "[Z", Cond.fieldLink RX9 87 "TermsDeskModel" "parts" "I", Cond.fieldLink RX9 20 "TermsDeskModel" "choice" "[I", Cond.fieldLink RX9 26 "TermsDeskModel" "taken" "[I", Cond.methodLink RX9 139 yX9_orders, Cond.instanceMethod yX9_orders, Cond.selects RX9 yX9_orders yX9_orders, Cond.code yX9_orders cX9_orders 3 none, Cond.fieldLink RX9 72 "TermsDeskModel" "level" "[I", Cond.fieldLink RX9 35 "TermsDeskModel" "to" "[I", Cond.fieldLink RX9 32 "TermsDeskModel" "from" "[I", Cond.fieldLink RX9 125 "TermsDeskModel" "orderMany" "I", Cond.fieldLink RX9 69 "TermsDeskModel" "order" "[I", Cond.methodLink RX9 114 yX9_reaches]
def wsX9_cheapest_r3 : List Cond := [Cond.instanceMethod yX9_reaches, Cond.selects RX9 yX9_reaches yX9_reaches, Cond.code yX9_reaches cX9_reaches 4 none, Cond.fieldLink RX9 57 "TermsDeskModel" "isReached" "[Z", Cond.methodLink RX9 142 yX9_comes, Cond.instanceMethod yX9_comes, Cond.selects RX9 yX9_comes yX9_comes, Cond.code yX9_comes cX9_comes 4 none, Cond.fieldLink RX9 66 "TermsDeskModel" "come" "[J", Cond.fieldLink RX9 13 "TermsDeskModel" "along" "[J", Cond.fieldLink RX9 38 "TermsDeskModel" "kind" "[I", Cond.methodLink RX9 128 yX9_brings, Cond.instanceMethod yX9_brings, Cond.selects RX9 yX9_brings yX9_brings, Cond.code yX9_brings cX9_brings 3 (some .long), Cond.fieldLink RX9 7 "TermsDeskModel" "asked" "[I", Cond.fieldLink RX9 29 "TermsDeskModel" "lifted" "[J", Cond.constantLong RX9 103 (-1), Cond.methodLink RX9 153 yX9_quarrelsNow, Cond.instanceMethod yX9_quarrelsNow, Cond.selects RX9 yX9_quarrelsNow yX9_quarrelsNow, Cond.code yX9_quarrelsNow cX9_quarrelsNow 3 (some .int), Cond.methodLink RX9 131 yX9_bars_, Cond.instanceMethod yX9_bars_]
def wsX9_cheapest_r4 : List Cond := [Cond.selects RX9 yX9_bars_ yX9_bars_, Cond.code yX9_bars_ cX9_bars_ 5 (some .long), Cond.fieldLink RX9 17 "TermsDeskModel" "barred" "[I"]
def wsX9_cheapest : List Cond := .code yX9_cheapest cX9_cheapest 5 (some .int) :: ((wsX9_cheapest_r1 ++ (wsX9_cheapest_r2 ++ (wsX9_cheapest_r3 ++ wsX9_cheapest_r4))) ++ wsX90)
def wsX9_measures : List Cond := .code yX9_measures cX9_measures 6 none :: ([.fieldLink RX9 81 "TermsDeskModel" "far" "[I", .fieldLink RX9 87 "TermsDeskModel" "parts" "I", .fieldLink RX9 108 "TermsDeskModel" "joins" "I", .fieldLink RX9 60 "TermsDeskModel" "isGone" "[Z", .fieldLink RX9 13 "TermsDeskModel" "along" "[J", .fieldLink RX9 38 "TermsDeskModel" "kind" "[I", .fieldLink RX9 35 "TermsDeskModel" "to" "[I", .fieldLink RX9 32 "TermsDeskModel" "from" "[I", .methodLink RX9 99 yX9_bit, .static yX9_bit, .initialized RX9, .code yX9_bit cX9_bit 2 (some .long)] ++ wsX90)
def wsX9_hasBrought : List Cond := .code yX9_hasBrought cX9_hasBrought 5 (some .boolean) :: ([.methodLink RX9 128 yX9_brings, .instanceMethod yX9_brings, .selects RX9 yX9_brings yX9_brings, .initialized RX9, .code yX9_brings cX9_brings 3 (some .long), .fieldLink RX9 7 "TermsDeskModel" "asked" "[I", .fieldLink RX9 63 "TermsDeskModel" "has" "[I", .fieldLink RX9 29 "TermsDeskModel" "lifted" "[J", .constantLong RX9 103 (-1), .methodLink RX9 99 yX9_bit, .static yX9_bit, .code yX9_bit cX9_bit 2 (some .long)] ++ wsX90)
def wsX9_way_r1 : List Cond := [Cond.fieldLink RX9 87 "TermsDeskModel" "parts" "I", Cond.fieldLink RX9 81 "TermsDeskModel" "far" "[I", Cond.fieldLink RX9 108 "TermsDeskModel" "joins" "I", Cond.fieldLink RX9 60 "TermsDeskModel" "isGone" "[Z", Cond.fieldLink RX9 32 "TermsDeskModel" "from" "[I", Cond.fieldLink RX9 13 "TermsDeskModel" "along" "[J", Cond.fieldLink RX9 38 "TermsDeskModel" "kind" "[I", Cond.fieldLink RX9 35 "TermsDeskModel" "to" "[I", Cond.methodLink RX9 145 yX9_isShipping, Cond.static yX9_isShipping, Cond.initialized RX9, Cond.code yX9_isShipping cX9_isShipping 1 (some .boolean), Cond.methodLink RX9 91 yX9_lies, Cond.static yX9_lies, Cond.code yX9_lies cX9_lies 3 (some .boolean), Cond.methodLink RX9 95 yX9_isLicence, Cond.static yX9_isLicence, Cond.code yX9_isLicence cX9_isLicence 1 (some .boolean), Cond.methodLink RX9 105 yX9_isPart, Cond.instanceMethod yX9_isPart, Cond.selects RX9 yX9_isPart yX9_isPart, Cond.code yX9_isPart cX9_isPart 2 (some .boolean), Cond.methodLink RX9 111 yX9_asItIs, Cond.instanceMethod yX9_asItIs]
def wsX9_way_r2 : List Cond := [Cond.selects RX9 yX9_asItIs yX9_asItIs, Cond.code yX9_asItIs cX9_asItIs 2 none, Cond.fieldLink RX9 41 "TermsDeskModel" "isCut" "[Z", Cond.fieldLink RX9 63 "TermsDeskModel" "has" "[I", Cond.fieldLink RX9 20 "TermsDeskModel" "choice" "[I", Cond.fieldLink RX9 26 "TermsDeskModel" "taken" "[I", Cond.methodLink RX9 174 yX9_measures, Cond.instanceMethod yX9_measures, Cond.selects RX9 yX9_measures yX9_measures, Cond.code yX9_measures cX9_measures 6 none, Cond.methodLink RX9 99 yX9_bit, Cond.static yX9_bit, Cond.code yX9_bit cX9_bit 2 (some .long), Cond.methodLink RX9 178 yX9_hasBrought, Cond.instanceMethod yX9_hasBrought, Cond.selects RX9 yX9_hasBrought yX9_hasBrought, Cond.code yX9_hasBrought cX9_hasBrought 5 (some .boolean), Cond.methodLink RX9 128 yX9_brings, Cond.instanceMethod yX9_brings, Cond.selects RX9 yX9_brings yX9_brings, Cond.code yX9_brings cX9_brings 3 (some .long), Cond.fieldLink RX9 7 "TermsDeskModel" "asked" "[I", Cond.fieldLink RX9 29 "TermsDeskModel" "lifted" "[J", Cond.constantLong RX9 103 (-1)]
def wsX9_way : List Cond := .code yX9_way cX9_way 10 (some .int) :: ((wsX9_way_r1 ++ wsX9_way_r2) ++ wsX90)
def wsX9_notice_r1 : List Cond := [Cond.fieldLink RX9 87 "TermsDeskModel" "parts" "I", Cond.fieldLink RX9 63 "TermsDeskModel" "has" "[I", Cond.fieldLink RX9 118 "TermsDeskModel" "product" "I", Cond.fieldLink RX9 81 "TermsDeskModel" "far" "[I", Cond.methodLink RX9 145 yX9_isShipping, Cond.static yX9_isShipping, Cond.initialized RX9, Cond.code yX9_isShipping cX9_isShipping 1 (some .boolean), Cond.methodLink RX9 91 yX9_lies, Cond.static yX9_lies, Cond.code yX9_lies cX9_lies 3 (some .boolean), Cond.methodLink RX9 111 yX9_asItIs, Cond.instanceMethod yX9_asItIs, Cond.selects RX9 yX9_asItIs yX9_asItIs, Cond.code yX9_asItIs cX9_asItIs 2 none, Cond.fieldLink RX9 108 "TermsDeskModel" "joins" "I", Cond.fieldLink RX9 60 "TermsDeskModel" "isGone" "[Z", Cond.fieldLink RX9 41 "TermsDeskModel" "isCut" "[Z", Cond.fieldLink RX9 20 "TermsDeskModel" "choice" "[I", Cond.fieldLink RX9 26 "TermsDeskModel" "taken" "[I", Cond.methodLink RX9 178 yX9_hasBrought, Cond.instanceMethod yX9_hasBrought, Cond.selects RX9 yX9_hasBrought yX9_hasBrought, Cond.code yX9_hasBrought cX9_hasBrought 5 (some .boolean)]
def wsX9_notice_r2 : List Cond := [Cond.methodLink RX9 128 yX9_brings, Cond.instanceMethod yX9_brings, Cond.selects RX9 yX9_brings yX9_brings, Cond.code yX9_brings cX9_brings 3 (some .long), Cond.fieldLink RX9 7 "TermsDeskModel" "asked" "[I", Cond.fieldLink RX9 29 "TermsDeskModel" "lifted" "[J", Cond.constantLong RX9 103 (-1), Cond.methodLink RX9 99 yX9_bit, Cond.static yX9_bit, Cond.code yX9_bit cX9_bit 2 (some .long), Cond.methodLink RX9 174 yX9_measures, Cond.instanceMethod yX9_measures, Cond.selects RX9 yX9_measures yX9_measures, Cond.code yX9_measures cX9_measures 6 none, Cond.fieldLink RX9 13 "TermsDeskModel" "along" "[J", Cond.fieldLink RX9 38 "TermsDeskModel" "kind" "[I", Cond.fieldLink RX9 35 "TermsDeskModel" "to" "[I", Cond.fieldLink RX9 32 "TermsDeskModel" "from" "[I"]
def wsX9_notice : List Cond := .code yX9_notice cX9_notice 5 (some .int) :: ((wsX9_notice_r1 ++ wsX9_notice_r2) ++ wsX90)
def wsX9_differ_r1 : List Cond := [Cond.fieldLink RX9 87 "TermsDeskModel" "parts" "I", Cond.fieldLink RX9 84 "TermsDeskModel" "other" "[J", Cond.fieldLink RX9 66 "TermsDeskModel" "come" "[J", Cond.fieldLink RX9 57 "TermsDeskModel" "isReached" "[Z", Cond.methodLink RX9 145 yX9_isShipping, Cond.static yX9_isShipping, Cond.initialized RX9, Cond.code yX9_isShipping cX9_isShipping 1 (some .boolean), Cond.methodLink RX9 91 yX9_lies, Cond.static yX9_lies, Cond.code yX9_lies cX9_lies 3 (some .boolean), Cond.methodLink RX9 148 yX9_works, Cond.instanceMethod yX9_works, Cond.selects RX9 yX9_works yX9_works, Cond.code yX9_works cX9_works 2 none, Cond.fieldLink RX9 118 "TermsDeskModel" "product" "I", Cond.methodLink RX9 111 yX9_asItIs, Cond.instanceMethod yX9_asItIs, Cond.selects RX9 yX9_asItIs yX9_asItIs, Cond.code yX9_asItIs cX9_asItIs 2 none, Cond.fieldLink RX9 108 "TermsDeskModel" "joins" "I", Cond.fieldLink RX9 60 "TermsDeskModel" "isGone" "[Z", Cond.fieldLink RX9 41 "TermsDeskModel" "isCut" "[Z", Cond.fieldLink RX9 63 "TermsDeskModel" "has" "[I"]
def wsX9_differ_r2 : List Cond := [Cond.fieldLink RX9 20 "TermsDeskModel" "choice" "[I", Cond.fieldLink RX9 26 "TermsDeskModel" "taken" "[I", Cond.methodLink RX9 139 yX9_orders, Cond.instanceMethod yX9_orders, Cond.selects RX9 yX9_orders yX9_orders, Cond.code yX9_orders cX9_orders 3 none, Cond.fieldLink RX9 72 "TermsDeskModel" "level" "[I", Cond.fieldLink RX9 35 "TermsDeskModel" "to" "[I", Cond.fieldLink RX9 32 "TermsDeskModel" "from" "[I", Cond.fieldLink RX9 125 "TermsDeskModel" "orderMany" "I", Cond.fieldLink RX9 69 "TermsDeskModel" "order" "[I", Cond.methodLink RX9 114 yX9_reaches, Cond.instanceMethod yX9_reaches, Cond.selects RX9 yX9_reaches yX9_reaches, Cond.code yX9_reaches cX9_reaches 4 none, Cond.methodLink RX9 142 yX9_comes, Cond.instanceMethod yX9_comes, Cond.selects RX9 yX9_comes yX9_comes, Cond.code yX9_comes cX9_comes 4 none, Cond.fieldLink RX9 13 "TermsDeskModel" "along" "[J", Cond.fieldLink RX9 38 "TermsDeskModel" "kind" "[I", Cond.methodLink RX9 128 yX9_brings, Cond.instanceMethod yX9_brings, Cond.selects RX9 yX9_brings yX9_brings]
def wsX9_differ_r3 : List Cond := [Cond.code yX9_brings cX9_brings 3 (some .long), Cond.fieldLink RX9 7 "TermsDeskModel" "asked" "[I", Cond.fieldLink RX9 29 "TermsDeskModel" "lifted" "[J", Cond.constantLong RX9 103 (-1)]
def wsX9_differ : List Cond := .code yX9_differ cX9_differ 6 (some .int) :: ((wsX9_differ_r1 ++ (wsX9_differ_r2 ++ wsX9_differ_r3)) ++ wsX90)
def wsX9_look_r1 : List Cond := [Cond.fieldLink RX9 23 "TermsDeskModel" "many" "[I", Cond.fieldLink RX9 20 "TermsDeskModel" "choice" "[I", Cond.fieldLink RX9 26 "TermsDeskModel" "taken" "[I", Cond.fieldLink RX9 118 "TermsDeskModel" "product" "I", Cond.fieldLink RX9 57 "TermsDeskModel" "isReached" "[Z", Cond.fieldLink RX9 108 "TermsDeskModel" "joins" "I", Cond.fieldLink RX9 41 "TermsDeskModel" "isCut" "[Z", Cond.fieldLink RX9 35 "TermsDeskModel" "to" "[I", Cond.fieldLink RX9 32 "TermsDeskModel" "from" "[I", Cond.methodLink RX9 105 yX9_isPart, Cond.instanceMethod yX9_isPart, Cond.selects RX9 yX9_isPart yX9_isPart, Cond.initialized RX9, Cond.code yX9_isPart cX9_isPart 2 (some .boolean), Cond.fieldLink RX9 87 "TermsDeskModel" "parts" "I", Cond.methodLink RX9 91 yX9_lies, Cond.static yX9_lies, Cond.code yX9_lies cX9_lies 3 (some .boolean), Cond.methodLink RX9 111 yX9_asItIs, Cond.instanceMethod yX9_asItIs, Cond.selects RX9 yX9_asItIs yX9_asItIs, Cond.code yX9_asItIs cX9_asItIs 2 none, Cond.fieldLink RX9 60 "TermsDeskModel" "isGone" "[Z", Cond.fieldLink RX9 63 "TermsDeskModel" "has" "[I"]
def wsX9_look_r2 : List Cond := [Cond.methodLink RX9 114 yX9_reaches, Cond.instanceMethod yX9_reaches, Cond.selects RX9 yX9_reaches yX9_reaches, Cond.code yX9_reaches cX9_reaches 4 none]
def wsX9_look : List Cond := .code yX9_look cX9_look 5 (some .int) :: ((wsX9_look_r1 ++ wsX9_look_r2) ++ wsX90)
def wsX9_count_r1 : List Cond := [Cond.fieldLink RX9 87 "TermsDeskModel" "parts" "I", Cond.fieldLink RX9 108 "TermsDeskModel" "joins" "I", Cond.fieldLink RX9 41 "TermsDeskModel" "isCut" "[Z", Cond.fieldLink RX9 118 "TermsDeskModel" "product" "I", Cond.fieldLink RX9 57 "TermsDeskModel" "isReached" "[Z", Cond.fieldLink RX9 121 "TermsDeskModel" "changes" "I", Cond.methodLink RX9 111 yX9_asItIs, Cond.instanceMethod yX9_asItIs, Cond.selects RX9 yX9_asItIs yX9_asItIs, Cond.initialized RX9, Cond.code yX9_asItIs cX9_asItIs 2 none, Cond.fieldLink RX9 60 "TermsDeskModel" "isGone" "[Z", Cond.fieldLink RX9 63 "TermsDeskModel" "has" "[I", Cond.fieldLink RX9 20 "TermsDeskModel" "choice" "[I", Cond.fieldLink RX9 26 "TermsDeskModel" "taken" "[I", Cond.methodLink RX9 114 yX9_reaches, Cond.instanceMethod yX9_reaches, Cond.selects RX9 yX9_reaches yX9_reaches, Cond.code yX9_reaches cX9_reaches 4 none, Cond.fieldLink RX9 35 "TermsDeskModel" "to" "[I", Cond.fieldLink RX9 32 "TermsDeskModel" "from" "[I", Cond.methodLink RX9 159 yX9_ways, Cond.instanceMethod yX9_ways, Cond.selects RX9 yX9_ways yX9_ways]
def wsX9_count_r2 : List Cond := [Cond.code yX9_ways cX9_ways 4 (some .int), Cond.constantLong RX9 157 (6561), Cond.fieldLink RX9 23 "TermsDeskModel" "many" "[I"]
def wsX9_count : List Cond := .code yX9_count cX9_count 4 (some .int) :: ((wsX9_count_r1 ++ wsX9_count_r2) ++ wsX90)
def wsJ9_min_7cf53 : List Cond := .code yJ9_min_7cf53 cJ9_min_7cf53 2 (some .int) :: ([])
theorem dX0_init_0 : decode cX0_init 0 = .ok (.aload_n 0, 1) := by decide +kernel
theorem dX0_init_1 : decode cX0_init 1 = .ok (.invokespecial 3, 3) := by decide +kernel
theorem dX0_init_4 : decode cX0_init 4 = .ok (.aload_n 0, 1) := by decide +kernel
theorem dX0_init_5 : decode cX0_init 5 = .ok (.bipush 10, 2) := by decide +kernel
theorem dX0_init_7 : decode cX0_init 7 = .ok (.newarray .int, 2) := by decide +kernel
theorem dX0_init_9 : decode cX0_init 9 = .ok (.putfield 9, 3) := by decide +kernel
theorem dX0_init_12 : decode cX0_init 12 = .ok (.aload_n 0, 1) := by decide +kernel
theorem dX0_init_13 : decode cX0_init 13 = .ok (.bipush 10, 2) := by decide +kernel
theorem dX0_init_15 : decode cX0_init 15 = .ok (.newarray .int, 2) := by decide +kernel
theorem dX0_init_17 : decode cX0_init 17 = .ok (.putfield 15, 3) := by decide +kernel
theorem dX0_init_20 : decode cX0_init 20 = .ok (.aload_n 0, 1) := by decide +kernel
theorem dX0_init_21 : decode cX0_init 21 = .ok (.bipush 10, 2) := by decide +kernel
theorem dX0_init_23 : decode cX0_init 23 = .ok (.newarray .int, 2) := by decide +kernel
theorem dX0_init_25 : decode cX0_init 25 = .ok (.putfield 18, 3) := by decide +kernel
theorem dX0_init_28 : decode cX0_init 28 = .ok (.aload_n 0, 1) := by decide +kernel
theorem dX0_init_29 : decode cX0_init 29 = .ok (.bipush 10, 2) := by decide +kernel
theorem dX0_init_31 : decode cX0_init 31 = .ok (.newarray .int, 2) := by decide +kernel
theorem dX0_init_33 : decode cX0_init 33 = .ok (.putfield 21, 3) := by decide +kernel
theorem dX0_init_36 : decode cX0_init 36 = .ok (.return_, 1) := by decide +kernel
theorem dX0_add_0 : decode cX0_add 0 = .ok (.aload_n 0, 1) := by decide +kernel
theorem dX0_add_1 : decode cX0_add 1 = .ok (.getfield 24, 3) := by decide +kernel
theorem dX0_add_4 : decode cX0_add 4 = .ok (.istore 5, 2) := by decide +kernel
theorem dX0_add_6 : decode cX0_add 6 = .ok (.aload_n 0, 1) := by decide +kernel
theorem dX0_add_7 : decode cX0_add 7 = .ok (.dup, 1) := by decide +kernel
theorem dX0_add_8 : decode cX0_add 8 = .ok (.getfield 24, 3) := by decide +kernel
theorem dX0_add_11 : decode cX0_add 11 = .ok (.iconst 1, 1) := by decide +kernel
theorem dX0_add_12 : decode cX0_add 12 = .ok (.iadd, 1) := by decide +kernel
theorem dX0_add_13 : decode cX0_add 13 = .ok (.putfield 24, 3) := by decide +kernel
theorem dX0_add_16 : decode cX0_add 16 = .ok (.aload_n 0, 1) := by decide +kernel
theorem dX0_add_17 : decode cX0_add 17 = .ok (.getfield 9, 3) := by decide +kernel
theorem dX0_add_20 : decode cX0_add 20 = .ok (.iload 5, 2) := by decide +kernel
theorem dX0_add_22 : decode cX0_add 22 = .ok (.iload_n 1, 1) := by decide +kernel
theorem dX0_add_23 : decode cX0_add 23 = .ok (.iastore, 1) := by decide +kernel
theorem dX0_add_24 : decode cX0_add 24 = .ok (.aload_n 0, 1) := by decide +kernel
theorem dX0_add_25 : decode cX0_add 25 = .ok (.getfield 15, 3) := by decide +kernel
theorem dX0_add_28 : decode cX0_add 28 = .ok (.iload 5, 2) := by decide +kernel
theorem dX0_add_30 : decode cX0_add 30 = .ok (.iload_n 2, 1) := by decide +kernel
theorem dX0_add_31 : decode cX0_add 31 = .ok (.iastore, 1) := by decide +kernel
theorem dX0_add_32 : decode cX0_add 32 = .ok (.aload_n 0, 1) := by decide +kernel
theorem dX0_add_33 : decode cX0_add 33 = .ok (.getfield 18, 3) := by decide +kernel
theorem dX0_add_36 : decode cX0_add 36 = .ok (.iload 5, 2) := by decide +kernel
theorem dX0_add_38 : decode cX0_add 38 = .ok (.iload_n 3, 1) := by decide +kernel
theorem dX0_add_39 : decode cX0_add 39 = .ok (.iastore, 1) := by decide +kernel
theorem dX0_add_40 : decode cX0_add 40 = .ok (.aload_n 0, 1) := by decide +kernel
theorem dX0_add_41 : decode cX0_add 41 = .ok (.getfield 21, 3) := by decide +kernel
theorem dX0_add_44 : decode cX0_add 44 = .ok (.iload 5, 2) := by decide +kernel
theorem dX0_add_46 : decode cX0_add 46 = .ok (.iload 4, 2) := by decide +kernel
theorem dX0_add_48 : decode cX0_add 48 = .ok (.iastore, 1) := by decide +kernel
theorem dX0_add_49 : decode cX0_add 49 = .ok (.iload 5, 2) := by decide +kernel
theorem dX0_add_51 : decode cX0_add 51 = .ok (.ireturn, 1) := by decide +kernel
set_option maxRecDepth 20000 in
theorem ggX0_priceOf_X8_holds : GoodIn wsX0_priceOf wsX8_holds := goodIn_r _ [5] (by decide +kernel) (by decide +kernel)
set_option maxRecDepth 20000 in
theorem gX0_priceOf_X8_holds_n28 : GoodIn wsX0_priceOf (wsX8_holds) := ggX0_priceOf_X8_holds
theorem dX0_priceOf_0 : decode cX0_priceOf 0 = .ok (.iconst 0, 1) := by decide +kernel
theorem dX0_priceOf_1 : decode cX0_priceOf 1 = .ok (.istore_n 2, 1) := by decide +kernel
theorem dX0_priceOf_2 : decode cX0_priceOf 2 = .ok (.iconst 0, 1) := by decide +kernel
theorem dX0_priceOf_3 : decode cX0_priceOf 3 = .ok (.istore_n 3, 1) := by decide +kernel
theorem dX0_priceOf_4 : decode cX0_priceOf 4 = .ok (.iload_n 3, 1) := by decide +kernel
theorem dX0_priceOf_5 : decode cX0_priceOf 5 = .ok (.aload_n 0, 1) := by decide +kernel
theorem dX0_priceOf_6 : decode cX0_priceOf 6 = .ok (.getfield 24, 3) := by decide +kernel
theorem dX0_priceOf_9 : decode cX0_priceOf 9 = .ok (.if_icmp .ge 27, 3) := by decide +kernel
theorem dX0_priceOf_12 : decode cX0_priceOf 12 = .ok (.iload_n 1, 1) := by decide +kernel
theorem dX0_priceOf_13 : decode cX0_priceOf 13 = .ok (.i2l, 1) := by decide +kernel
theorem dX0_priceOf_14 : decode cX0_priceOf 14 = .ok (.iload_n 3, 1) := by decide +kernel
theorem dX0_priceOf_15 : decode cX0_priceOf 15 = .ok (.invokestatic 28, 3) := by decide +kernel
theorem dX0_priceOf_18 : decode cX0_priceOf 18 = .ok (.ifCond .eq 12, 3) := by decide +kernel
theorem dX0_priceOf_21 : decode cX0_priceOf 21 = .ok (.iload_n 2, 1) := by decide +kernel
theorem dX0_priceOf_22 : decode cX0_priceOf 22 = .ok (.aload_n 0, 1) := by decide +kernel
theorem dX0_priceOf_23 : decode cX0_priceOf 23 = .ok (.getfield 21, 3) := by decide +kernel
theorem dX0_priceOf_26 : decode cX0_priceOf 26 = .ok (.iload_n 3, 1) := by decide +kernel
theorem dX0_priceOf_27 : decode cX0_priceOf 27 = .ok (.iaload, 1) := by decide +kernel
theorem dX0_priceOf_28 : decode cX0_priceOf 28 = .ok (.iadd, 1) := by decide +kernel
theorem dX0_priceOf_29 : decode cX0_priceOf 29 = .ok (.istore_n 2, 1) := by decide +kernel
theorem dX0_priceOf_30 : decode cX0_priceOf 30 = .ok (.iinc 3 1, 3) := by decide +kernel
theorem dX0_priceOf_33 : decode cX0_priceOf 33 = .ok (.goto (-29), 3) := by decide +kernel
theorem dX0_priceOf_36 : decode cX0_priceOf 36 = .ok (.iload_n 2, 1) := by decide +kernel
theorem dX0_priceOf_37 : decode cX0_priceOf 37 = .ok (.ireturn, 1) := by decide +kernel
set_option maxRecDepth 20000 in
theorem ggX0_isBetter_X0_priceOf : GoodIn wsX0_isBetter wsX0_priceOf := goodIn_r _ [5, 6, 7, 8, 9, 10, 24, 25, 26, 27, 28] (by decide +kernel) (by decide +kernel)
set_option maxRecDepth 20000 in
theorem gX0_isBetter_X0_priceOf : GoodIn wsX0_isBetter (wsV RX0 32 RX0 yX0_priceOf wsX0_priceOf) := goodIn_app (goodIn_of _ (by decide +kernel)) ggX0_isBetter_X0_priceOf
set_option maxRecDepth 20000 in
theorem ggX0_isBetter_J6_compare_7cf53 : GoodIn wsX0_isBetter wsJ6_compare_7cf53 := goodIn_r _ [14] (by decide +kernel) (by decide +kernel)
set_option maxRecDepth 20000 in
theorem gX0_isBetter_J6_compare_7cf53 : GoodIn wsX0_isBetter (va_wsS RX0 36 yJ6_compare_7cf53 wsJ6_compare_7cf53) := goodIn_app (goodIn_of _ (by decide +kernel)) ggX0_isBetter_J6_compare_7cf53
set_option maxRecDepth 20000 in
theorem ggX0_isBetter_J6_bitCount_0f7a4 : GoodIn wsX0_isBetter wsJ6_bitCount_0f7a4 := goodIn_r _ [17, 18, 19, 20] (by decide +kernel) (by decide +kernel)
set_option maxRecDepth 20000 in
theorem gX0_isBetter_J6_bitCount_0f7a4 : GoodIn wsX0_isBetter (va_wsS RX0 42 yJ6_bitCount_0f7a4 wsJ6_bitCount_0f7a4) := goodIn_app (goodIn_of _ (by decide +kernel)) ggX0_isBetter_J6_bitCount_0f7a4
set_option maxRecDepth 20000 in
theorem ggX0_isBetter_J6_lowestOneBit_0f7a4 : GoodIn wsX0_isBetter wsJ6_lowestOneBit_0f7a4 := goodIn_r _ [23] (by decide +kernel) (by decide +kernel)
set_option maxRecDepth 20000 in
theorem gX0_isBetter_J6_lowestOneBit_0f7a4 : GoodIn wsX0_isBetter (va_wsS RX0 45 yJ6_lowestOneBit_0f7a4 wsJ6_lowestOneBit_0f7a4) := goodIn_app (goodIn_of _ (by decide +kernel)) ggX0_isBetter_J6_lowestOneBit_0f7a4
theorem dX0_isBetter_0 : decode cX0_isBetter 0 = .ok (.aload_n 0, 1) := by decide +kernel
theorem dX0_isBetter_1 : decode cX0_isBetter 1 = .ok (.iload_n 1, 1) := by decide +kernel
theorem dX0_isBetter_2 : decode cX0_isBetter 2 = .ok (.invokevirtual 32, 3) := by decide +kernel
theorem dX0_isBetter_5 : decode cX0_isBetter 5 = .ok (.aload_n 0, 1) := by decide +kernel
theorem dX0_isBetter_6 : decode cX0_isBetter 6 = .ok (.iload_n 2, 1) := by decide +kernel
theorem dX0_isBetter_7 : decode cX0_isBetter 7 = .ok (.invokevirtual 32, 3) := by decide +kernel
theorem dX0_isBetter_10 : decode cX0_isBetter 10 = .ok (.invokestatic 36, 3) := by decide +kernel
theorem dX0_isBetter_13 : decode cX0_isBetter 13 = .ok (.istore_n 3, 1) := by decide +kernel
theorem dX0_isBetter_14 : decode cX0_isBetter 14 = .ok (.iload_n 3, 1) := by decide +kernel
theorem dX0_isBetter_15 : decode cX0_isBetter 15 = .ok (.ifCond .eq 13, 3) := by decide +kernel
theorem dX0_isBetter_18 : decode cX0_isBetter 18 = .ok (.iload_n 3, 1) := by decide +kernel
theorem dX0_isBetter_19 : decode cX0_isBetter 19 = .ok (.ifCond .ge 7, 3) := by decide +kernel
theorem dX0_isBetter_22 : decode cX0_isBetter 22 = .ok (.iconst 1, 1) := by decide +kernel
theorem dX0_isBetter_23 : decode cX0_isBetter 23 = .ok (.goto 4, 3) := by decide +kernel
theorem dX0_isBetter_26 : decode cX0_isBetter 26 = .ok (.iconst 0, 1) := by decide +kernel
theorem dX0_isBetter_27 : decode cX0_isBetter 27 = .ok (.ireturn, 1) := by decide +kernel
theorem dX0_isBetter_28 : decode cX0_isBetter 28 = .ok (.iload_n 1, 1) := by decide +kernel
theorem dX0_isBetter_29 : decode cX0_isBetter 29 = .ok (.invokestatic 42, 3) := by decide +kernel
theorem dX0_isBetter_32 : decode cX0_isBetter 32 = .ok (.iload_n 2, 1) := by decide +kernel
theorem dX0_isBetter_33 : decode cX0_isBetter 33 = .ok (.invokestatic 42, 3) := by decide +kernel
theorem dX0_isBetter_36 : decode cX0_isBetter 36 = .ok (.invokestatic 36, 3) := by decide +kernel
theorem dX0_isBetter_39 : decode cX0_isBetter 39 = .ok (.istore 4, 2) := by decide +kernel
theorem dX0_isBetter_41 : decode cX0_isBetter 41 = .ok (.iload 4, 2) := by decide +kernel
theorem dX0_isBetter_43 : decode cX0_isBetter 43 = .ok (.ifCond .eq 14, 3) := by decide +kernel
theorem dX0_isBetter_46 : decode cX0_isBetter 46 = .ok (.iload 4, 2) := by decide +kernel
theorem dX0_isBetter_48 : decode cX0_isBetter 48 = .ok (.ifCond .ge 7, 3) := by decide +kernel
theorem dX0_isBetter_51 : decode cX0_isBetter 51 = .ok (.iconst 1, 1) := by decide +kernel
theorem dX0_isBetter_52 : decode cX0_isBetter 52 = .ok (.goto 4, 3) := by decide +kernel
theorem dX0_isBetter_55 : decode cX0_isBetter 55 = .ok (.iconst 0, 1) := by decide +kernel
theorem dX0_isBetter_56 : decode cX0_isBetter 56 = .ok (.ireturn, 1) := by decide +kernel
theorem dX0_isBetter_57 : decode cX0_isBetter 57 = .ok (.iload_n 1, 1) := by decide +kernel
end
section
theorem dX0_isBetter_58 : decode cX0_isBetter 58 = .ok (.iload_n 2, 1) := by decide +kernel
theorem dX0_isBetter_59 : decode cX0_isBetter 59 = .ok (.ixor, 1) := by decide +kernel
theorem dX0_isBetter_60 : decode cX0_isBetter 60 = .ok (.invokestatic 45, 3) := by decide +kernel
theorem dX0_isBetter_63 : decode cX0_isBetter 63 = .ok (.iload_n 1, 1) := by decide +kernel
theorem dX0_isBetter_64 : decode cX0_isBetter 64 = .ok (.iand, 1) := by decide +kernel
theorem dX0_isBetter_65 : decode cX0_isBetter 65 = .ok (.ifCond .eq 7, 3) := by decide +kernel
theorem dX0_isBetter_68 : decode cX0_isBetter 68 = .ok (.iconst 1, 1) := by decide +kernel
theorem dX0_isBetter_69 : decode cX0_isBetter 69 = .ok (.goto 4, 3) := by decide +kernel
theorem dX0_isBetter_72 : decode cX0_isBetter 72 = .ok (.iconst 0, 1) := by decide +kernel
theorem dX0_isBetter_73 : decode cX0_isBetter 73 = .ok (.ireturn, 1) := by decide +kernel
theorem dX1_init_0 : decode cX1_init 0 = .ok (.aload_n 0, 1) := by decide +kernel
theorem dX1_init_1 : decode cX1_init 1 = .ok (.invokespecial 3, 3) := by decide +kernel
theorem dX1_init_4 : decode cX1_init 4 = .ok (.aload_n 0, 1) := by decide +kernel
theorem dX1_init_5 : decode cX1_init 5 = .ok (.bipush 24, 2) := by decide +kernel
theorem dX1_init_7 : decode cX1_init 7 = .ok (.newarray .int, 2) := by decide +kernel
theorem dX1_init_9 : decode cX1_init 9 = .ok (.putfield 9, 3) := by decide +kernel
theorem dX1_init_12 : decode cX1_init 12 = .ok (.aload_n 0, 1) := by decide +kernel
theorem dX1_init_13 : decode cX1_init 13 = .ok (.bipush 24, 2) := by decide +kernel
theorem dX1_init_15 : decode cX1_init 15 = .ok (.newarray .int, 2) := by decide +kernel
theorem dX1_init_17 : decode cX1_init 17 = .ok (.putfield 15, 3) := by decide +kernel
theorem dX1_init_20 : decode cX1_init 20 = .ok (.aload_n 0, 1) := by decide +kernel
theorem dX1_init_21 : decode cX1_init 21 = .ok (.bipush 24, 2) := by decide +kernel
theorem dX1_init_23 : decode cX1_init 23 = .ok (.newarray .int, 2) := by decide +kernel
theorem dX1_init_25 : decode cX1_init 25 = .ok (.putfield 18, 3) := by decide +kernel
theorem dX1_init_28 : decode cX1_init 28 = .ok (.aload_n 0, 1) := by decide +kernel
theorem dX1_init_29 : decode cX1_init 29 = .ok (.bipush 25, 2) := by decide +kernel
theorem dX1_init_31 : decode cX1_init 31 = .ok (.newarray .int, 2) := by decide +kernel
theorem dX1_init_33 : decode cX1_init 33 = .ok (.putfield 21, 3) := by decide +kernel
theorem dX1_init_36 : decode cX1_init 36 = .ok (.aload_n 0, 1) := by decide +kernel
theorem dX1_init_37 : decode cX1_init 37 = .ok (.aload_n 1, 1) := by decide +kernel
theorem dX1_init_38 : decode cX1_init 38 = .ok (.putfield 24, 3) := by decide +kernel
theorem dX1_init_41 : decode cX1_init 41 = .ok (.aload_n 0, 1) := by decide +kernel
theorem dX1_init_42 : decode cX1_init 42 = .ok (.aload_n 2, 1) := by decide +kernel
theorem dX1_init_43 : decode cX1_init 43 = .ok (.putfield 28, 3) := by decide +kernel
theorem dX1_init_46 : decode cX1_init 46 = .ok (.aload_n 0, 1) := by decide +kernel
theorem dX1_init_47 : decode cX1_init 47 = .ok (.aload_n 3, 1) := by decide +kernel
theorem dX1_init_48 : decode cX1_init 48 = .ok (.putfield 32, 3) := by decide +kernel
theorem dX1_init_51 : decode cX1_init 51 = .ok (.return_, 1) := by decide +kernel
set_option maxRecDepth 20000 in
theorem ggX1_takeBest_X2_ofProduct : GoodIn wsX1_takeBest wsX2_ofProduct := goodIn_r _ [15, 16, 17, 18, 19, 20, 21, 22, 23, 24, 25, 26, 27, 28, 29, 30, 118, 119, 120, 121, 122, 123, 124, 125, 126, 127, 128, 109, 110, 111, 112, 113, 114, 115, 116, 117] (by decide +kernel) (by decide +kernel)
set_option maxRecDepth 20000 in
theorem gX1_takeBest_X2_ofProduct : GoodIn wsX1_takeBest (wsV RX1 42 RX2 yX2_ofProduct wsX2_ofProduct) := goodIn_app (goodIn_of _ (by decide +kernel)) ggX1_takeBest_X2_ofProduct
set_option maxRecDepth 20000 in
theorem ggX1_takeBest_X1_lineUp : GoodIn wsX1_takeBest wsX1_lineUp := goodIn_r _ [35, 6, 2, 36, 37, 28, 29, 30, 99, 100, 101, 102, 103, 104, 105, 106, 107, 108, 109, 110, 111, 112, 113, 114, 115, 116, 117] (by decide +kernel) (by decide +kernel)
set_option maxRecDepth 20000 in
theorem gX1_takeBest_X1_lineUp : GoodIn wsX1_takeBest (wsV RX1 48 RX1 yX1_lineUp wsX1_lineUp) := goodIn_app (goodIn_of _ (by decide +kernel)) ggX1_takeBest_X1_lineUp
set_option maxRecDepth 20000 in
theorem ggX1_takeBest_X1_settle : GoodIn wsX1_takeBest wsX1_settle := goodIn_r _ [41, 6, 37, 42, 36, 1, 2, 43, 4, 44, 45, 46, 47, 48, 49, 50, 51, 52, 14, 53, 54, 16, 55, 56, 29, 57, 58, 59, 60, 61, 62, 63, 64, 65, 17, 66, 28, 30, 67, 68, 69, 70, 71, 72, 73, 74, 75, 76, 77, 99, 100, 101, 102, 103, 104, 105, 106, 107, 108, 109, 110, 111, 112, 113, 114, 115, 116, 117, 123, 124, 125, 126, 127, 128, 118, 119, 120, 121, 122, 129, 130, 131] (by decide +kernel) (by decide +kernel)
set_option maxRecDepth 20000 in
theorem gX1_takeBest_X1_settle : GoodIn wsX1_takeBest (wsV RX1 62 RX1 yX1_settle wsX1_settle) := goodIn_app (goodIn_of _ (by decide +kernel)) ggX1_takeBest_X1_settle
set_option maxRecDepth 20000 in
theorem ggX1_takeBest_X1_keepIfBetter : GoodIn wsX1_takeBest wsX1_keepIfBetter := goodIn_r _ [81, 43, 6, 1, 42, 4, 5, 36, 82, 83, 84, 85, 86, 71, 72, 73, 74, 75, 76, 77, 87, 88, 89, 34, 90, 99, 100, 101, 102, 103, 104, 105, 106, 107, 108, 118, 119, 120, 121, 122, 123, 124, 125, 126, 127, 128] (by decide +kernel) (by decide +kernel)
set_option maxRecDepth 20000 in
theorem gX1_takeBest_X1_keepIfBetter : GoodIn wsX1_takeBest (wsV RX1 69 RX1 yX1_keepIfBetter wsX1_keepIfBetter) := goodIn_app (goodIn_of _ (by decide +kernel)) ggX1_takeBest_X1_keepIfBetter
set_option maxRecDepth 20000 in
theorem ggX1_takeBest_X1_advance : GoodIn wsX1_takeBest wsX1_advance := goodIn_r _ [94, 37, 36, 42, 99, 100, 101, 102, 103, 104, 105, 106, 107, 108, 123, 124, 125, 126, 127, 128] (by decide +kernel) (by decide +kernel)
set_option maxRecDepth 20000 in
theorem gX1_takeBest_X1_advance : GoodIn wsX1_takeBest (wsV RX1 77 RX1 yX1_advance wsX1_advance) := goodIn_app (goodIn_of _ (by decide +kernel)) ggX1_takeBest_X1_advance
set_option maxRecDepth 20000 in
theorem ggX1_takeBest_X1_takeKept : GoodIn wsX1_takeBest wsX1_takeKept := goodIn_r _ [98, 6, 37, 42, 82, 44, 45, 46, 47, 48, 49, 99, 100, 101, 102, 103, 104, 105, 106, 107, 108, 123, 124, 125, 126, 127, 128] (by decide +kernel) (by decide +kernel)
set_option maxRecDepth 20000 in
theorem gX1_takeBest_X1_takeKept : GoodIn wsX1_takeBest (wsV RX1 81 RX1 yX1_takeKept wsX1_takeKept) := goodIn_app (goodIn_of _ (by decide +kernel)) ggX1_takeBest_X1_takeKept
theorem dX1_takeBest_0 : decode cX1_takeBest 0 = .ok (.aload_n 0, 1) := by decide +kernel
theorem dX1_takeBest_1 : decode cX1_takeBest 1 = .ok (.aload_n 0, 1) := by decide +kernel
theorem dX1_takeBest_2 : decode cX1_takeBest 2 = .ok (.getfield 32, 3) := by decide +kernel
theorem dX1_takeBest_5 : decode cX1_takeBest 5 = .ok (.aload_n 0, 1) := by decide +kernel
theorem dX1_takeBest_6 : decode cX1_takeBest 6 = .ok (.getfield 28, 3) := by decide +kernel
theorem dX1_takeBest_9 : decode cX1_takeBest 9 = .ok (.getfield 36, 3) := by decide +kernel
theorem dX1_takeBest_12 : decode cX1_takeBest 12 = .ok (.invokevirtual 42, 3) := by decide +kernel
theorem dX1_takeBest_15 : decode cX1_takeBest 15 = .ok (.invokevirtual 48, 3) := by decide +kernel
theorem dX1_takeBest_18 : decode cX1_takeBest 18 = .ok (.aload_n 0, 1) := by decide +kernel
theorem dX1_takeBest_19 : decode cX1_takeBest 19 = .ok (.ldc 54, 2) := by decide +kernel
theorem dX1_takeBest_21 : decode cX1_takeBest 21 = .ok (.putfield 55, 3) := by decide +kernel
theorem dX1_takeBest_24 : decode cX1_takeBest 24 = .ok (.aload_n 0, 1) := by decide +kernel
theorem dX1_takeBest_25 : decode cX1_takeBest 25 = .ok (.ldc 54, 2) := by decide +kernel
theorem dX1_takeBest_27 : decode cX1_takeBest 27 = .ok (.putfield 59, 3) := by decide +kernel
theorem dX1_takeBest_30 : decode cX1_takeBest 30 = .ok (.iconst 0, 1) := by decide +kernel
theorem dX1_takeBest_31 : decode cX1_takeBest 31 = .ok (.istore_n 2, 1) := by decide +kernel
theorem dX1_takeBest_32 : decode cX1_takeBest 32 = .ok (.iconst 0, 1) := by decide +kernel
theorem dX1_takeBest_33 : decode cX1_takeBest 33 = .ok (.istore_n 3, 1) := by decide +kernel
theorem dX1_takeBest_34 : decode cX1_takeBest 34 = .ok (.iload_n 3, 1) := by decide +kernel
theorem dX1_takeBest_35 : decode cX1_takeBest 35 = .ok (.sipush 6561, 3) := by decide +kernel
theorem dX1_takeBest_38 : decode cX1_takeBest 38 = .ok (.if_icmp .ge 51, 3) := by decide +kernel
theorem dX1_takeBest_41 : decode cX1_takeBest 41 = .ok (.iload_n 2, 1) := by decide +kernel
theorem dX1_takeBest_42 : decode cX1_takeBest 42 = .ok (.iconst (-1), 1) := by decide +kernel
theorem dX1_takeBest_43 : decode cX1_takeBest 43 = .ok (.if_icmp .eq 46, 3) := by decide +kernel
theorem dX1_takeBest_46 : decode cX1_takeBest 46 = .ok (.aload_n 0, 1) := by decide +kernel
theorem dX1_takeBest_47 : decode cX1_takeBest 47 = .ok (.iload_n 1, 1) := by decide +kernel
theorem dX1_takeBest_48 : decode cX1_takeBest 48 = .ok (.iload_n 2, 1) := by decide +kernel
theorem dX1_takeBest_49 : decode cX1_takeBest 49 = .ok (.invokevirtual 62, 3) := by decide +kernel
theorem dX1_takeBest_52 : decode cX1_takeBest 52 = .ok (.istore 4, 2) := by decide +kernel
theorem dX1_takeBest_54 : decode cX1_takeBest 54 = .ok (.iload 4, 2) := by decide +kernel
theorem dX1_takeBest_56 : decode cX1_takeBest 56 = .ok (.aload_n 0, 1) := by decide +kernel
theorem dX1_takeBest_57 : decode cX1_takeBest 57 = .ok (.getfield 66, 3) := by decide +kernel
theorem dX1_takeBest_60 : decode cX1_takeBest 60 = .ok (.if_icmp .ne 7, 3) := by decide +kernel
theorem dX1_takeBest_63 : decode cX1_takeBest 63 = .ok (.aload_n 0, 1) := by decide +kernel
theorem dX1_takeBest_64 : decode cX1_takeBest 64 = .ok (.invokevirtual 69, 3) := by decide +kernel
theorem dX1_takeBest_67 : decode cX1_takeBest 67 = .ok (.aload_n 0, 1) := by decide +kernel
theorem dX1_takeBest_68 : decode cX1_takeBest 68 = .ok (.iload 4, 2) := by decide +kernel
theorem dX1_takeBest_70 : decode cX1_takeBest 70 = .ok (.aload_n 0, 1) := by decide +kernel
theorem dX1_takeBest_71 : decode cX1_takeBest 71 = .ok (.getfield 66, 3) := by decide +kernel
theorem dX1_takeBest_74 : decode cX1_takeBest 74 = .ok (.iconst 1, 1) := by decide +kernel
theorem dX1_takeBest_75 : decode cX1_takeBest 75 = .ok (.isub, 1) := by decide +kernel
theorem dX1_takeBest_76 : decode cX1_takeBest 76 = .ok (.invokestatic 72, 3) := by decide +kernel
theorem dX1_takeBest_79 : decode cX1_takeBest 79 = .ok (.invokevirtual 77, 3) := by decide +kernel
theorem dX1_takeBest_82 : decode cX1_takeBest 82 = .ok (.istore_n 2, 1) := by decide +kernel
theorem dX1_takeBest_83 : decode cX1_takeBest 83 = .ok (.iinc 3 1, 3) := by decide +kernel
theorem dX1_takeBest_86 : decode cX1_takeBest 86 = .ok (.goto (-52), 3) := by decide +kernel
theorem dX1_takeBest_89 : decode cX1_takeBest 89 = .ok (.aload_n 0, 1) := by decide +kernel
theorem dX1_takeBest_90 : decode cX1_takeBest 90 = .ok (.invokevirtual 81, 3) := by decide +kernel
theorem dX1_takeBest_93 : decode cX1_takeBest 93 = .ok (.aload_n 0, 1) := by decide +kernel
theorem dX1_takeBest_94 : decode cX1_takeBest 94 = .ok (.getfield 55, 3) := by decide +kernel
theorem dX1_takeBest_97 : decode cX1_takeBest 97 = .ok (.ireturn, 1) := by decide +kernel
set_option maxRecDepth 20000 in
theorem ggX1_lineUp_X8_holds : GoodIn wsX1_lineUp wsX8_holds := goodIn_r _ [7] (by decide +kernel) (by decide +kernel)
set_option maxRecDepth 20000 in
theorem gX1_lineUp_X8_holds_n87 : GoodIn wsX1_lineUp (wsX8_holds) := ggX1_lineUp_X8_holds
theorem dX1_lineUp_0 : decode cX1_lineUp 0 = .ok (.aload_n 0, 1) := by decide +kernel
theorem dX1_lineUp_1 : decode cX1_lineUp 1 = .ok (.iconst 0, 1) := by decide +kernel
theorem dX1_lineUp_2 : decode cX1_lineUp 2 = .ok (.putfield 66, 3) := by decide +kernel
theorem dX1_lineUp_5 : decode cX1_lineUp 5 = .ok (.iconst 0, 1) := by decide +kernel
theorem dX1_lineUp_6 : decode cX1_lineUp 6 = .ok (.istore_n 2, 1) := by decide +kernel
theorem dX1_lineUp_7 : decode cX1_lineUp 7 = .ok (.iload_n 2, 1) := by decide +kernel
theorem dX1_lineUp_8 : decode cX1_lineUp 8 = .ok (.bipush 24, 2) := by decide +kernel
theorem dX1_lineUp_10 : decode cX1_lineUp 10 = .ok (.if_icmp .ge 64, 3) := by decide +kernel
theorem dX1_lineUp_13 : decode cX1_lineUp 13 = .ok (.aload_n 0, 1) := by decide +kernel
theorem dX1_lineUp_14 : decode cX1_lineUp 14 = .ok (.getfield 28, 3) := by decide +kernel
theorem dX1_lineUp_17 : decode cX1_lineUp 17 = .ok (.getfield 84, 3) := by decide +kernel
theorem dX1_lineUp_20 : decode cX1_lineUp 20 = .ok (.iload_n 2, 1) := by decide +kernel
theorem dX1_lineUp_21 : decode cX1_lineUp 21 = .ok (.iaload, 1) := by decide +kernel
theorem dX1_lineUp_22 : decode cX1_lineUp 22 = .ok (.istore_n 3, 1) := by decide +kernel
theorem dX1_lineUp_23 : decode cX1_lineUp 23 = .ok (.aload_n 0, 1) := by decide +kernel
theorem dX1_lineUp_24 : decode cX1_lineUp 24 = .ok (.getfield 15, 3) := by decide +kernel
theorem dX1_lineUp_27 : decode cX1_lineUp 27 = .ok (.iload_n 3, 1) := by decide +kernel
theorem dX1_lineUp_28 : decode cX1_lineUp 28 = .ok (.iconst 0, 1) := by decide +kernel
theorem dX1_lineUp_29 : decode cX1_lineUp 29 = .ok (.iastore, 1) := by decide +kernel
theorem dX1_lineUp_30 : decode cX1_lineUp 30 = .ok (.iload_n 1, 1) := by decide +kernel
theorem dX1_lineUp_31 : decode cX1_lineUp 31 = .ok (.i2l, 1) := by decide +kernel
theorem dX1_lineUp_32 : decode cX1_lineUp 32 = .ok (.iload_n 3, 1) := by decide +kernel
theorem dX1_lineUp_33 : decode cX1_lineUp 33 = .ok (.invokestatic 87, 3) := by decide +kernel
theorem dX1_lineUp_36 : decode cX1_lineUp 36 = .ok (.ifCond .eq 32, 3) := by decide +kernel
theorem dX1_lineUp_39 : decode cX1_lineUp 39 = .ok (.aload_n 0, 1) := by decide +kernel
theorem dX1_lineUp_40 : decode cX1_lineUp 40 = .ok (.getfield 66, 3) := by decide +kernel
theorem dX1_lineUp_43 : decode cX1_lineUp 43 = .ok (.bipush 24, 2) := by decide +kernel
theorem dX1_lineUp_45 : decode cX1_lineUp 45 = .ok (.if_icmp .ge 23, 3) := by decide +kernel
theorem dX1_lineUp_48 : decode cX1_lineUp 48 = .ok (.aload_n 0, 1) := by decide +kernel
theorem dX1_lineUp_49 : decode cX1_lineUp 49 = .ok (.getfield 9, 3) := by decide +kernel
theorem dX1_lineUp_52 : decode cX1_lineUp 52 = .ok (.aload_n 0, 1) := by decide +kernel
theorem dX1_lineUp_53 : decode cX1_lineUp 53 = .ok (.getfield 66, 3) := by decide +kernel
theorem dX1_lineUp_56 : decode cX1_lineUp 56 = .ok (.iload_n 3, 1) := by decide +kernel
theorem dX1_lineUp_57 : decode cX1_lineUp 57 = .ok (.iastore, 1) := by decide +kernel
theorem dX1_lineUp_58 : decode cX1_lineUp 58 = .ok (.aload_n 0, 1) := by decide +kernel
theorem dX1_lineUp_59 : decode cX1_lineUp 59 = .ok (.dup, 1) := by decide +kernel
theorem dX1_lineUp_60 : decode cX1_lineUp 60 = .ok (.getfield 66, 3) := by decide +kernel
theorem dX1_lineUp_63 : decode cX1_lineUp 63 = .ok (.iconst 1, 1) := by decide +kernel
theorem dX1_lineUp_64 : decode cX1_lineUp 64 = .ok (.iadd, 1) := by decide +kernel
theorem dX1_lineUp_65 : decode cX1_lineUp 65 = .ok (.putfield 66, 3) := by decide +kernel
theorem dX1_lineUp_68 : decode cX1_lineUp 68 = .ok (.iinc 2 1, 3) := by decide +kernel
theorem dX1_lineUp_71 : decode cX1_lineUp 71 = .ok (.goto (-64), 3) := by decide +kernel
theorem dX1_lineUp_74 : decode cX1_lineUp 74 = .ok (.return_, 1) := by decide +kernel
set_option maxRecDepth 20000 in
theorem ggX1_settle_X5_choiceOf : GoodIn wsX1_settle wsX5_choiceOf := goodIn_r _ [13, 14, 68, 69, 70, 71, 72, 73] (by decide +kernel) (by decide +kernel)
set_option maxRecDepth 20000 in
theorem gX1_settle_X5_choiceOf : GoodIn wsX1_settle (wsV RX1 91 RX5 yX5_choiceOf wsX5_choiceOf) := goodIn_app (goodIn_of _ (by decide +kernel)) ggX1_settle_X5_choiceOf
set_option maxRecDepth 20000 in
theorem ggX1_settle_X2_brought : GoodIn wsX1_settle wsX2_brought := goodIn_r _ [19, 20, 21, 22, 23, 24, 25, 26, 27, 28, 29, 74, 75, 76, 77, 78, 79, 80, 81, 68, 69, 70, 71, 72, 73] (by decide +kernel) (by decide +kernel)
set_option maxRecDepth 20000 in
theorem gX1_settle_X2_brought : GoodIn wsX1_settle (wsV RX1 96 RX2 yX2_brought wsX2_brought) := goodIn_app (goodIn_of _ (by decide +kernel)) ggX1_settle_X2_brought
set_option maxRecDepth 20000 in
theorem ggX1_settle_X2_arrive : GoodIn wsX1_settle wsX2_arrive := goodIn_r _ [33, 34, 35, 20, 36, 24, 37, 74, 75, 76, 77, 78, 59, 60, 61, 62, 63, 64, 65, 66, 67, 79, 80, 81] (by decide +kernel) (by decide +kernel)
set_option maxRecDepth 20000 in
theorem gX1_settle_X2_arrive : GoodIn wsX1_settle (wsV RX1 100 RX2 yX2_arrive wsX2_arrive) := goodIn_app (goodIn_of _ (by decide +kernel)) ggX1_settle_X2_arrive
set_option maxRecDepth 20000 in
theorem ggX1_settle_X2_foughtAt : GoodIn wsX1_settle wsX2_foughtAt := goodIn_r _ [41, 35, 20, 74, 75, 76, 77, 78, 79, 80, 81] (by decide +kernel) (by decide +kernel)
set_option maxRecDepth 20000 in
theorem gX1_settle_X2_foughtAt : GoodIn wsX1_settle (wsV RX1 104 RX2 yX2_foughtAt wsX2_foughtAt) := goodIn_app (goodIn_of _ (by decide +kernel)) ggX1_settle_X2_foughtAt
set_option maxRecDepth 20000 in
theorem ggX1_settle_J13_bitCount_95d88 : GoodIn wsX1_settle wsJ13_bitCount_95d88 := goodIn_r _ [45, 46, 47, 48] (by decide +kernel) (by decide +kernel)
set_option maxRecDepth 20000 in
theorem gX1_settle_J13_bitCount_95d88 : GoodIn wsX1_settle (va_wsS RX1 108 yJ13_bitCount_95d88 wsJ13_bitCount_95d88) := goodIn_app (goodIn_of _ (by decide +kernel)) ggX1_settle_J13_bitCount_95d88
theorem dX1_settle_0 : decode cX1_settle 0 = .ok (.iload_n 2, 1) := by decide +kernel
theorem dX1_settle_1 : decode cX1_settle 1 = .ok (.istore_n 3, 1) := by decide +kernel
theorem dX1_settle_2 : decode cX1_settle 2 = .ok (.iload_n 3, 1) := by decide +kernel
theorem dX1_settle_3 : decode cX1_settle 3 = .ok (.aload_n 0, 1) := by decide +kernel
theorem dX1_settle_4 : decode cX1_settle 4 = .ok (.getfield 66, 3) := by decide +kernel
theorem dX1_settle_7 : decode cX1_settle 7 = .ok (.if_icmp .ge 109, 3) := by decide +kernel
theorem dX1_settle_10 : decode cX1_settle 10 = .ok (.aload_n 0, 1) := by decide +kernel
theorem dX1_settle_11 : decode cX1_settle 11 = .ok (.getfield 9, 3) := by decide +kernel
theorem dX1_settle_14 : decode cX1_settle 14 = .ok (.iload_n 3, 1) := by decide +kernel
theorem dX1_settle_15 : decode cX1_settle 15 = .ok (.iaload, 1) := by decide +kernel
theorem dX1_settle_16 : decode cX1_settle 16 = .ok (.istore 4, 2) := by decide +kernel
theorem dX1_settle_18 : decode cX1_settle 18 = .ok (.aload_n 0, 1) := by decide +kernel
theorem dX1_settle_19 : decode cX1_settle 19 = .ok (.getfield 24, 3) := by decide +kernel
theorem dX1_settle_22 : decode cX1_settle 22 = .ok (.iload 4, 2) := by decide +kernel
theorem dX1_settle_24 : decode cX1_settle 24 = .ok (.aload_n 0, 1) := by decide +kernel
theorem dX1_settle_25 : decode cX1_settle 25 = .ok (.getfield 15, 3) := by decide +kernel
theorem dX1_settle_28 : decode cX1_settle 28 = .ok (.iload 4, 2) := by decide +kernel
theorem dX1_settle_30 : decode cX1_settle 30 = .ok (.iaload, 1) := by decide +kernel
theorem dX1_settle_31 : decode cX1_settle 31 = .ok (.invokevirtual 91, 3) := by decide +kernel
theorem dX1_settle_34 : decode cX1_settle 34 = .ok (.istore 5, 2) := by decide +kernel
theorem dX1_settle_36 : decode cX1_settle 36 = .ok (.aload_n 0, 1) := by decide +kernel
theorem dX1_settle_37 : decode cX1_settle 37 = .ok (.getfield 32, 3) := by decide +kernel
theorem dX1_settle_40 : decode cX1_settle 40 = .ok (.iload 4, 2) := by decide +kernel
theorem dX1_settle_42 : decode cX1_settle 42 = .ok (.aload_n 0, 1) := by decide +kernel
theorem dX1_settle_43 : decode cX1_settle 43 = .ok (.getfield 32, 3) := by decide +kernel
theorem dX1_settle_46 : decode cX1_settle 46 = .ok (.iload_n 1, 1) := by decide +kernel
theorem dX1_settle_47 : decode cX1_settle 47 = .ok (.iload 4, 2) := by decide +kernel
theorem dX1_settle_49 : decode cX1_settle 49 = .ok (.iload 5, 2) := by decide +kernel
theorem dX1_settle_51 : decode cX1_settle 51 = .ok (.invokevirtual 96, 3) := by decide +kernel
theorem dX1_settle_54 : decode cX1_settle 54 = .ok (.aload_n 0, 1) := by decide +kernel
theorem dX1_settle_55 : decode cX1_settle 55 = .ok (.getfield 28, 3) := by decide +kernel
theorem dX1_settle_58 : decode cX1_settle 58 = .ok (.getfield 36, 3) := by decide +kernel
theorem dX1_settle_61 : decode cX1_settle 61 = .ok (.invokevirtual 100, 3) := by decide +kernel
theorem dX1_settle_64 : decode cX1_settle 64 = .ok (.aload_n 0, 1) := by decide +kernel
theorem dX1_settle_65 : decode cX1_settle 65 = .ok (.getfield 21, 3) := by decide +kernel
theorem dX1_settle_68 : decode cX1_settle 68 = .ok (.iload_n 3, 1) := by decide +kernel
theorem dX1_settle_69 : decode cX1_settle 69 = .ok (.iconst 1, 1) := by decide +kernel
theorem dX1_settle_70 : decode cX1_settle 70 = .ok (.iadd, 1) := by decide +kernel
theorem dX1_settle_71 : decode cX1_settle 71 = .ok (.aload_n 0, 1) := by decide +kernel
theorem dX1_settle_72 : decode cX1_settle 72 = .ok (.getfield 21, 3) := by decide +kernel
theorem dX1_settle_75 : decode cX1_settle 75 = .ok (.iload_n 3, 1) := by decide +kernel
theorem dX1_settle_76 : decode cX1_settle 76 = .ok (.iaload, 1) := by decide +kernel
theorem dX1_settle_77 : decode cX1_settle 77 = .ok (.aload_n 0, 1) := by decide +kernel
theorem dX1_settle_78 : decode cX1_settle 78 = .ok (.getfield 32, 3) := by decide +kernel
theorem dX1_settle_81 : decode cX1_settle 81 = .ok (.iload 4, 2) := by decide +kernel
theorem dX1_settle_83 : decode cX1_settle 83 = .ok (.iload 5, 2) := by decide +kernel
theorem dX1_settle_85 : decode cX1_settle 85 = .ok (.invokevirtual 104, 3) := by decide +kernel
theorem dX1_settle_88 : decode cX1_settle 88 = .ok (.invokestatic 108, 3) := by decide +kernel
theorem dX1_settle_91 : decode cX1_settle 91 = .ok (.iadd, 1) := by decide +kernel
theorem dX1_settle_92 : decode cX1_settle 92 = .ok (.iastore, 1) := by decide +kernel
theorem dX1_settle_93 : decode cX1_settle 93 = .ok (.aload_n 0, 1) := by decide +kernel
theorem dX1_settle_94 : decode cX1_settle 94 = .ok (.getfield 21, 3) := by decide +kernel
theorem dX1_settle_97 : decode cX1_settle 97 = .ok (.iload_n 3, 1) := by decide +kernel
theorem dX1_settle_98 : decode cX1_settle 98 = .ok (.iconst 1, 1) := by decide +kernel
theorem dX1_settle_99 : decode cX1_settle 99 = .ok (.iadd, 1) := by decide +kernel
theorem dX1_settle_100 : decode cX1_settle 100 = .ok (.iaload, 1) := by decide +kernel
theorem dX1_settle_101 : decode cX1_settle 101 = .ok (.aload_n 0, 1) := by decide +kernel
theorem dX1_settle_102 : decode cX1_settle 102 = .ok (.getfield 55, 3) := by decide +kernel
theorem dX1_settle_105 : decode cX1_settle 105 = .ok (.if_icmp .le 5, 3) := by decide +kernel
theorem dX1_settle_108 : decode cX1_settle 108 = .ok (.iload_n 3, 1) := by decide +kernel
theorem dX1_settle_109 : decode cX1_settle 109 = .ok (.ireturn, 1) := by decide +kernel
theorem dX1_settle_110 : decode cX1_settle 110 = .ok (.iinc 3 1, 3) := by decide +kernel
theorem dX1_settle_113 : decode cX1_settle 113 = .ok (.goto (-111), 3) := by decide +kernel
theorem dX1_settle_116 : decode cX1_settle 116 = .ok (.aload_n 0, 1) := by decide +kernel
theorem dX1_settle_117 : decode cX1_settle 117 = .ok (.getfield 66, 3) := by decide +kernel
theorem dX1_settle_120 : decode cX1_settle 120 = .ok (.ireturn, 1) := by decide +kernel
theorem dX1_advance_0 : decode cX1_advance 0 = .ok (.iload_n 1, 1) := by decide +kernel
theorem dX1_advance_1 : decode cX1_advance 1 = .ok (.istore_n 2, 1) := by decide +kernel
theorem dX1_advance_2 : decode cX1_advance 2 = .ok (.iload_n 2, 1) := by decide +kernel
theorem dX1_advance_3 : decode cX1_advance 3 = .ok (.ifCond .lt 55, 3) := by decide +kernel
theorem dX1_advance_6 : decode cX1_advance 6 = .ok (.aload_n 0, 1) := by decide +kernel
theorem dX1_advance_7 : decode cX1_advance 7 = .ok (.getfield 9, 3) := by decide +kernel
theorem dX1_advance_10 : decode cX1_advance 10 = .ok (.iload_n 2, 1) := by decide +kernel
theorem dX1_advance_11 : decode cX1_advance 11 = .ok (.iaload, 1) := by decide +kernel
theorem dX1_advance_12 : decode cX1_advance 12 = .ok (.istore_n 3, 1) := by decide +kernel
theorem dX1_advance_13 : decode cX1_advance 13 = .ok (.aload_n 0, 1) := by decide +kernel
theorem dX1_advance_14 : decode cX1_advance 14 = .ok (.getfield 15, 3) := by decide +kernel
theorem dX1_advance_17 : decode cX1_advance 17 = .ok (.iload_n 3, 1) := by decide +kernel
theorem dX1_advance_18 : decode cX1_advance 18 = .ok (.iaload, 1) := by decide +kernel
theorem dX1_advance_19 : decode cX1_advance 19 = .ok (.iconst 1, 1) := by decide +kernel
theorem dX1_advance_20 : decode cX1_advance 20 = .ok (.iadd, 1) := by decide +kernel
theorem dX1_advance_21 : decode cX1_advance 21 = .ok (.aload_n 0, 1) := by decide +kernel
theorem dX1_advance_22 : decode cX1_advance 22 = .ok (.getfield 24, 3) := by decide +kernel
theorem dX1_advance_25 : decode cX1_advance 25 = .ok (.getfield 113, 3) := by decide +kernel
theorem dX1_advance_28 : decode cX1_advance 28 = .ok (.iload_n 3, 1) := by decide +kernel
theorem dX1_advance_29 : decode cX1_advance 29 = .ok (.iaload, 1) := by decide +kernel
theorem dX1_advance_30 : decode cX1_advance 30 = .ok (.if_icmp .ge 15, 3) := by decide +kernel
theorem dX1_advance_33 : decode cX1_advance 33 = .ok (.aload_n 0, 1) := by decide +kernel
theorem dX1_advance_34 : decode cX1_advance 34 = .ok (.getfield 15, 3) := by decide +kernel
theorem dX1_advance_37 : decode cX1_advance 37 = .ok (.iload_n 3, 1) := by decide +kernel
theorem dX1_advance_38 : decode cX1_advance 38 = .ok (.dup2, 1) := by decide +kernel
theorem dX1_advance_39 : decode cX1_advance 39 = .ok (.iaload, 1) := by decide +kernel
theorem dX1_advance_40 : decode cX1_advance 40 = .ok (.iconst 1, 1) := by decide +kernel
theorem dX1_advance_41 : decode cX1_advance 41 = .ok (.iadd, 1) := by decide +kernel
theorem dX1_advance_42 : decode cX1_advance 42 = .ok (.iastore, 1) := by decide +kernel
theorem dX1_advance_43 : decode cX1_advance 43 = .ok (.iload_n 2, 1) := by decide +kernel
theorem dX1_advance_44 : decode cX1_advance 44 = .ok (.ireturn, 1) := by decide +kernel
theorem dX1_advance_45 : decode cX1_advance 45 = .ok (.aload_n 0, 1) := by decide +kernel
theorem dX1_advance_46 : decode cX1_advance 46 = .ok (.getfield 15, 3) := by decide +kernel
theorem dX1_advance_49 : decode cX1_advance 49 = .ok (.iload_n 3, 1) := by decide +kernel
theorem dX1_advance_50 : decode cX1_advance 50 = .ok (.iconst 0, 1) := by decide +kernel
theorem dX1_advance_51 : decode cX1_advance 51 = .ok (.iastore, 1) := by decide +kernel
theorem dX1_advance_52 : decode cX1_advance 52 = .ok (.iinc 2 (-1), 3) := by decide +kernel
theorem dX1_advance_55 : decode cX1_advance 55 = .ok (.goto (-53), 3) := by decide +kernel
theorem dX1_advance_58 : decode cX1_advance 58 = .ok (.iconst (-1), 1) := by decide +kernel
theorem dX1_advance_59 : decode cX1_advance 59 = .ok (.ireturn, 1) := by decide +kernel
set_option maxRecDepth 20000 in
theorem ggX1_keepIfBetter_J13_bitCount_95d88 : GoodIn wsX1_keepIfBetter wsJ13_bitCount_95d88 := goodIn_r _ [16, 17, 18, 19] (by decide +kernel) (by decide +kernel)
set_option maxRecDepth 20000 in
theorem gX1_keepIfBetter_J13_bitCount_95d88 : GoodIn wsX1_keepIfBetter (va_wsS RX1 108 yJ13_bitCount_95d88 wsJ13_bitCount_95d88) := goodIn_app (goodIn_of _ (by decide +kernel)) ggX1_keepIfBetter_J13_bitCount_95d88
set_option maxRecDepth 20000 in
theorem ggX1_keepIfBetter_X1_isBetter : GoodIn wsX1_keepIfBetter wsX1_isBetter := goodIn_r _ [24, 5, 6, 7, 8, 25, 26, 27, 28, 29, 30, 31, 32, 33, 34] (by decide +kernel) (by decide +kernel)
set_option maxRecDepth 20000 in
theorem gX1_keepIfBetter_X1_isBetter : GoodIn wsX1_keepIfBetter (wsV RX1 123 RX1 yX1_isBetter wsX1_isBetter) := goodIn_app (goodIn_of _ (by decide +kernel)) ggX1_keepIfBetter_X1_isBetter
theorem dX1_keepIfBetter_0 : decode cX1_keepIfBetter 0 = .ok (.aload_n 0, 1) := by decide +kernel
theorem dX1_keepIfBetter_1 : decode cX1_keepIfBetter 1 = .ok (.getfield 21, 3) := by decide +kernel
theorem dX1_keepIfBetter_4 : decode cX1_keepIfBetter 4 = .ok (.aload_n 0, 1) := by decide +kernel
theorem dX1_keepIfBetter_5 : decode cX1_keepIfBetter 5 = .ok (.getfield 66, 3) := by decide +kernel
theorem dX1_keepIfBetter_8 : decode cX1_keepIfBetter 8 = .ok (.iaload, 1) := by decide +kernel
theorem dX1_keepIfBetter_9 : decode cX1_keepIfBetter 9 = .ok (.istore_n 1, 1) := by decide +kernel
theorem dX1_keepIfBetter_10 : decode cX1_keepIfBetter 10 = .ok (.aload_n 0, 1) := by decide +kernel
theorem dX1_keepIfBetter_11 : decode cX1_keepIfBetter 11 = .ok (.getfield 32, 3) := by decide +kernel
theorem dX1_keepIfBetter_14 : decode cX1_keepIfBetter 14 = .ok (.getfield 116, 3) := by decide +kernel
theorem dX1_keepIfBetter_17 : decode cX1_keepIfBetter 17 = .ok (.aload_n 0, 1) := by decide +kernel
theorem dX1_keepIfBetter_18 : decode cX1_keepIfBetter 18 = .ok (.getfield 24, 3) := by decide +kernel
theorem dX1_keepIfBetter_21 : decode cX1_keepIfBetter 21 = .ok (.getfield 120, 3) := by decide +kernel
theorem dX1_keepIfBetter_24 : decode cX1_keepIfBetter 24 = .ok (.laload, 1) := by decide +kernel
theorem dX1_keepIfBetter_25 : decode cX1_keepIfBetter 25 = .ok (.invokestatic 108, 3) := by decide +kernel
theorem dX1_keepIfBetter_28 : decode cX1_keepIfBetter 28 = .ok (.istore_n 2, 1) := by decide +kernel
theorem dX1_keepIfBetter_29 : decode cX1_keepIfBetter 29 = .ok (.aload_n 0, 1) := by decide +kernel
theorem dX1_keepIfBetter_30 : decode cX1_keepIfBetter 30 = .ok (.iload_n 1, 1) := by decide +kernel
theorem dX1_keepIfBetter_31 : decode cX1_keepIfBetter 31 = .ok (.iload_n 2, 1) := by decide +kernel
theorem dX1_keepIfBetter_32 : decode cX1_keepIfBetter 32 = .ok (.invokevirtual 123, 3) := by decide +kernel
theorem dX1_keepIfBetter_35 : decode cX1_keepIfBetter 35 = .ok (.ifCond .eq 28, 3) := by decide +kernel
theorem dX1_keepIfBetter_38 : decode cX1_keepIfBetter 38 = .ok (.aload_n 0, 1) := by decide +kernel
theorem dX1_keepIfBetter_39 : decode cX1_keepIfBetter 39 = .ok (.iload_n 1, 1) := by decide +kernel
theorem dX1_keepIfBetter_40 : decode cX1_keepIfBetter 40 = .ok (.putfield 55, 3) := by decide +kernel
theorem dX1_keepIfBetter_43 : decode cX1_keepIfBetter 43 = .ok (.aload_n 0, 1) := by decide +kernel
theorem dX1_keepIfBetter_44 : decode cX1_keepIfBetter 44 = .ok (.iload_n 2, 1) := by decide +kernel
theorem dX1_keepIfBetter_45 : decode cX1_keepIfBetter 45 = .ok (.putfield 59, 3) := by decide +kernel
theorem dX1_keepIfBetter_48 : decode cX1_keepIfBetter 48 = .ok (.aload_n 0, 1) := by decide +kernel
theorem dX1_keepIfBetter_49 : decode cX1_keepIfBetter 49 = .ok (.getfield 15, 3) := by decide +kernel
theorem dX1_keepIfBetter_52 : decode cX1_keepIfBetter 52 = .ok (.iconst 0, 1) := by decide +kernel
theorem dX1_keepIfBetter_53 : decode cX1_keepIfBetter 53 = .ok (.aload_n 0, 1) := by decide +kernel
theorem dX1_keepIfBetter_54 : decode cX1_keepIfBetter 54 = .ok (.getfield 18, 3) := by decide +kernel
theorem dX1_keepIfBetter_57 : decode cX1_keepIfBetter 57 = .ok (.iconst 0, 1) := by decide +kernel
theorem dX1_keepIfBetter_58 : decode cX1_keepIfBetter 58 = .ok (.bipush 24, 2) := by decide +kernel
theorem dX1_keepIfBetter_60 : decode cX1_keepIfBetter 60 = .ok (.invokestatic 127, 3) := by decide +kernel
theorem dX1_keepIfBetter_63 : decode cX1_keepIfBetter 63 = .ok (.return_, 1) := by decide +kernel
theorem dX1_isBetter_0 : decode cX1_isBetter 0 = .ok (.iload_n 1, 1) := by decide +kernel
theorem dX1_isBetter_1 : decode cX1_isBetter 1 = .ok (.aload_n 0, 1) := by decide +kernel
theorem dX1_isBetter_2 : decode cX1_isBetter 2 = .ok (.getfield 55, 3) := by decide +kernel
theorem dX1_isBetter_5 : decode cX1_isBetter 5 = .ok (.if_icmp .eq 17, 3) := by decide +kernel
theorem dX1_isBetter_8 : decode cX1_isBetter 8 = .ok (.iload_n 1, 1) := by decide +kernel
theorem dX1_isBetter_9 : decode cX1_isBetter 9 = .ok (.aload_n 0, 1) := by decide +kernel
theorem dX1_isBetter_10 : decode cX1_isBetter 10 = .ok (.getfield 55, 3) := by decide +kernel
theorem dX1_isBetter_13 : decode cX1_isBetter 13 = .ok (.if_icmp .ge 7, 3) := by decide +kernel
theorem dX1_isBetter_16 : decode cX1_isBetter 16 = .ok (.iconst 1, 1) := by decide +kernel
theorem dX1_isBetter_17 : decode cX1_isBetter 17 = .ok (.goto 4, 3) := by decide +kernel
theorem dX1_isBetter_20 : decode cX1_isBetter 20 = .ok (.iconst 0, 1) := by decide +kernel
theorem dX1_isBetter_21 : decode cX1_isBetter 21 = .ok (.ireturn, 1) := by decide +kernel
theorem dX1_isBetter_22 : decode cX1_isBetter 22 = .ok (.iload_n 2, 1) := by decide +kernel
theorem dX1_isBetter_23 : decode cX1_isBetter 23 = .ok (.aload_n 0, 1) := by decide +kernel
theorem dX1_isBetter_24 : decode cX1_isBetter 24 = .ok (.getfield 59, 3) := by decide +kernel
theorem dX1_isBetter_27 : decode cX1_isBetter 27 = .ok (.if_icmp .eq 17, 3) := by decide +kernel
theorem dX1_isBetter_30 : decode cX1_isBetter 30 = .ok (.iload_n 2, 1) := by decide +kernel
theorem dX1_isBetter_31 : decode cX1_isBetter 31 = .ok (.aload_n 0, 1) := by decide +kernel
theorem dX1_isBetter_32 : decode cX1_isBetter 32 = .ok (.getfield 59, 3) := by decide +kernel
theorem dX1_isBetter_35 : decode cX1_isBetter 35 = .ok (.if_icmp .ge 7, 3) := by decide +kernel
theorem dX1_isBetter_38 : decode cX1_isBetter 38 = .ok (.iconst 1, 1) := by decide +kernel
theorem dX1_isBetter_39 : decode cX1_isBetter 39 = .ok (.goto 4, 3) := by decide +kernel
theorem dX1_isBetter_42 : decode cX1_isBetter 42 = .ok (.iconst 0, 1) := by decide +kernel
theorem dX1_isBetter_43 : decode cX1_isBetter 43 = .ok (.ireturn, 1) := by decide +kernel
theorem dX1_isBetter_44 : decode cX1_isBetter 44 = .ok (.iconst 0, 1) := by decide +kernel
theorem dX1_isBetter_45 : decode cX1_isBetter 45 = .ok (.istore_n 3, 1) := by decide +kernel
theorem dX1_isBetter_46 : decode cX1_isBetter 46 = .ok (.iload_n 3, 1) := by decide +kernel
theorem dX1_isBetter_47 : decode cX1_isBetter 47 = .ok (.bipush 24, 2) := by decide +kernel
theorem dX1_isBetter_49 : decode cX1_isBetter 49 = .ok (.if_icmp .ge 45, 3) := by decide +kernel
theorem dX1_isBetter_52 : decode cX1_isBetter 52 = .ok (.aload_n 0, 1) := by decide +kernel
theorem dX1_isBetter_53 : decode cX1_isBetter 53 = .ok (.getfield 15, 3) := by decide +kernel
theorem dX1_isBetter_56 : decode cX1_isBetter 56 = .ok (.iload_n 3, 1) := by decide +kernel
theorem dX1_isBetter_57 : decode cX1_isBetter 57 = .ok (.iaload, 1) := by decide +kernel
theorem dX1_isBetter_58 : decode cX1_isBetter 58 = .ok (.aload_n 0, 1) := by decide +kernel
theorem dX1_isBetter_59 : decode cX1_isBetter 59 = .ok (.getfield 18, 3) := by decide +kernel
theorem dX1_isBetter_62 : decode cX1_isBetter 62 = .ok (.iload_n 3, 1) := by decide +kernel
theorem dX1_isBetter_63 : decode cX1_isBetter 63 = .ok (.iaload, 1) := by decide +kernel
theorem dX1_isBetter_64 : decode cX1_isBetter 64 = .ok (.if_icmp .eq 24, 3) := by decide +kernel
theorem dX1_isBetter_67 : decode cX1_isBetter 67 = .ok (.aload_n 0, 1) := by decide +kernel
theorem dX1_isBetter_68 : decode cX1_isBetter 68 = .ok (.getfield 15, 3) := by decide +kernel
theorem dX1_isBetter_71 : decode cX1_isBetter 71 = .ok (.iload_n 3, 1) := by decide +kernel
theorem dX1_isBetter_72 : decode cX1_isBetter 72 = .ok (.iaload, 1) := by decide +kernel
theorem dX1_isBetter_73 : decode cX1_isBetter 73 = .ok (.aload_n 0, 1) := by decide +kernel
theorem dX1_isBetter_74 : decode cX1_isBetter 74 = .ok (.getfield 18, 3) := by decide +kernel
theorem dX1_isBetter_77 : decode cX1_isBetter 77 = .ok (.iload_n 3, 1) := by decide +kernel
theorem dX1_isBetter_78 : decode cX1_isBetter 78 = .ok (.iaload, 1) := by decide +kernel
theorem dX1_isBetter_79 : decode cX1_isBetter 79 = .ok (.if_icmp .ge 7, 3) := by decide +kernel
theorem dX1_isBetter_82 : decode cX1_isBetter 82 = .ok (.iconst 1, 1) := by decide +kernel
theorem dX1_isBetter_83 : decode cX1_isBetter 83 = .ok (.goto 4, 3) := by decide +kernel
theorem dX1_isBetter_86 : decode cX1_isBetter 86 = .ok (.iconst 0, 1) := by decide +kernel
theorem dX1_isBetter_87 : decode cX1_isBetter 87 = .ok (.ireturn, 1) := by decide +kernel
theorem dX1_isBetter_88 : decode cX1_isBetter 88 = .ok (.iinc 3 1, 3) := by decide +kernel
theorem dX1_isBetter_91 : decode cX1_isBetter 91 = .ok (.goto (-45), 3) := by decide +kernel
theorem dX1_isBetter_94 : decode cX1_isBetter 94 = .ok (.iconst 0, 1) := by decide +kernel
theorem dX1_isBetter_95 : decode cX1_isBetter 95 = .ok (.ireturn, 1) := by decide +kernel
set_option maxRecDepth 20000 in
theorem ggX1_takeKept_X5_choiceOf : GoodIn wsX1_takeKept wsX5_choiceOf := goodIn_r _ [9, 10, 21, 22, 23, 24, 25, 26] (by decide +kernel) (by decide +kernel)
set_option maxRecDepth 20000 in
theorem gX1_takeKept_X5_choiceOf : GoodIn wsX1_takeKept (wsV RX1 91 RX5 yX5_choiceOf wsX5_choiceOf) := goodIn_app (goodIn_of _ (by decide +kernel)) ggX1_takeKept_X5_choiceOf
theorem dX1_takeKept_0 : decode cX1_takeKept 0 = .ok (.iconst 0, 1) := by decide +kernel
theorem dX1_takeKept_1 : decode cX1_takeKept 1 = .ok (.istore_n 1, 1) := by decide +kernel
theorem dX1_takeKept_2 : decode cX1_takeKept 2 = .ok (.iload_n 1, 1) := by decide +kernel
theorem dX1_takeKept_3 : decode cX1_takeKept 3 = .ok (.aload_n 0, 1) := by decide +kernel
theorem dX1_takeKept_4 : decode cX1_takeKept 4 = .ok (.getfield 66, 3) := by decide +kernel
theorem dX1_takeKept_7 : decode cX1_takeKept 7 = .ok (.if_icmp .ge 39, 3) := by decide +kernel
theorem dX1_takeKept_10 : decode cX1_takeKept 10 = .ok (.aload_n 0, 1) := by decide +kernel
theorem dX1_takeKept_11 : decode cX1_takeKept 11 = .ok (.getfield 9, 3) := by decide +kernel
theorem dX1_takeKept_14 : decode cX1_takeKept 14 = .ok (.iload_n 1, 1) := by decide +kernel
theorem dX1_takeKept_15 : decode cX1_takeKept 15 = .ok (.iaload, 1) := by decide +kernel
theorem dX1_takeKept_16 : decode cX1_takeKept 16 = .ok (.istore_n 2, 1) := by decide +kernel
theorem dX1_takeKept_17 : decode cX1_takeKept 17 = .ok (.aload_n 0, 1) := by decide +kernel
theorem dX1_takeKept_18 : decode cX1_takeKept 18 = .ok (.getfield 24, 3) := by decide +kernel
theorem dX1_takeKept_21 : decode cX1_takeKept 21 = .ok (.getfield 133, 3) := by decide +kernel
theorem dX1_takeKept_24 : decode cX1_takeKept 24 = .ok (.iload_n 2, 1) := by decide +kernel
theorem dX1_takeKept_25 : decode cX1_takeKept 25 = .ok (.aload_n 0, 1) := by decide +kernel
theorem dX1_takeKept_26 : decode cX1_takeKept 26 = .ok (.getfield 24, 3) := by decide +kernel
theorem dX1_takeKept_29 : decode cX1_takeKept 29 = .ok (.iload_n 2, 1) := by decide +kernel
theorem dX1_takeKept_30 : decode cX1_takeKept 30 = .ok (.aload_n 0, 1) := by decide +kernel
theorem dX1_takeKept_31 : decode cX1_takeKept 31 = .ok (.getfield 18, 3) := by decide +kernel
theorem dX1_takeKept_34 : decode cX1_takeKept 34 = .ok (.iload_n 2, 1) := by decide +kernel
theorem dX1_takeKept_35 : decode cX1_takeKept 35 = .ok (.iaload, 1) := by decide +kernel
theorem dX1_takeKept_36 : decode cX1_takeKept 36 = .ok (.invokevirtual 91, 3) := by decide +kernel
theorem dX1_takeKept_39 : decode cX1_takeKept 39 = .ok (.iastore, 1) := by decide +kernel
theorem dX1_takeKept_40 : decode cX1_takeKept 40 = .ok (.iinc 1 1, 3) := by decide +kernel
theorem dX1_takeKept_43 : decode cX1_takeKept 43 = .ok (.goto (-41), 3) := by decide +kernel
theorem dX1_takeKept_46 : decode cX1_takeKept 46 = .ok (.return_, 1) := by decide +kernel
theorem dX2_init_0 : decode cX2_init 0 = .ok (.aload_n 0, 1) := by decide +kernel
theorem dX2_init_1 : decode cX2_init 1 = .ok (.invokespecial 3, 3) := by decide +kernel
theorem dX2_init_4 : decode cX2_init 4 = .ok (.aload_n 0, 1) := by decide +kernel
theorem dX2_init_5 : decode cX2_init 5 = .ok (.bipush 24, 2) := by decide +kernel
theorem dX2_init_7 : decode cX2_init 7 = .ok (.newarray .long, 2) := by decide +kernel
theorem dX2_init_9 : decode cX2_init 9 = .ok (.putfield 9, 3) := by decide +kernel
theorem dX2_init_12 : decode cX2_init 12 = .ok (.aload_n 0, 1) := by decide +kernel
theorem dX2_init_13 : decode cX2_init 13 = .ok (.bipush 24, 2) := by decide +kernel
theorem dX2_init_15 : decode cX2_init 15 = .ok (.newarray .long, 2) := by decide +kernel
theorem dX2_init_17 : decode cX2_init 17 = .ok (.putfield 15, 3) := by decide +kernel
theorem dX2_init_20 : decode cX2_init 20 = .ok (.aload_n 0, 1) := by decide +kernel
theorem dX2_init_21 : decode cX2_init 21 = .ok (.aload_n 1, 1) := by decide +kernel
theorem dX2_init_22 : decode cX2_init 22 = .ok (.putfield 18, 3) := by decide +kernel
theorem dX2_init_25 : decode cX2_init 25 = .ok (.aload_n 0, 1) := by decide +kernel
theorem dX2_init_26 : decode cX2_init 26 = .ok (.aload_n 2, 1) := by decide +kernel
theorem dX2_init_27 : decode cX2_init 27 = .ok (.putfield 22, 3) := by decide +kernel
theorem dX2_init_30 : decode cX2_init 30 = .ok (.aload_n 0, 1) := by decide +kernel
theorem dX2_init_31 : decode cX2_init 31 = .ok (.aload_n 3, 1) := by decide +kernel
theorem dX2_init_32 : decode cX2_init 32 = .ok (.putfield 26, 3) := by decide +kernel
theorem dX2_init_35 : decode cX2_init 35 = .ok (.return_, 1) := by decide +kernel
set_option maxRecDepth 20000 in
theorem ggX2_brought_X8_pairsOf : GoodIn wsX2_brought wsX8_pairsOf := goodIn_r _ [6, 7, 8, 9, 5, 10] (by decide +kernel) (by decide +kernel)
set_option maxRecDepth 20000 in
theorem gX2_brought_X8_pairsOf_n35 : GoodIn wsX2_brought (wsX8_pairsOf) := ggX2_brought_X8_pairsOf
theorem dX2_brought_0 : decode cX2_brought 0 = .ok (.aload_n 0, 1) := by decide +kernel
theorem dX2_brought_1 : decode cX2_brought 1 = .ok (.getfield 18, 3) := by decide +kernel
theorem dX2_brought_4 : decode cX2_brought 4 = .ok (.getfield 30, 3) := by decide +kernel
theorem dX2_brought_7 : decode cX2_brought 7 = .ok (.iload_n 1, 1) := by decide +kernel
theorem dX2_brought_8 : decode cX2_brought 8 = .ok (.laload, 1) := by decide +kernel
theorem dX2_brought_9 : decode cX2_brought 9 = .ok (.iload_n 3, 1) := by decide +kernel
theorem dX2_brought_10 : decode cX2_brought 10 = .ok (.invokestatic 35, 3) := by decide +kernel
theorem dX2_brought_13 : decode cX2_brought 13 = .ok (.land, 1) := by decide +kernel
theorem dX2_brought_14 : decode cX2_brought 14 = .ok (.aload_n 0, 1) := by decide +kernel
theorem dX2_brought_15 : decode cX2_brought 15 = .ok (.getfield 22, 3) := by decide +kernel
theorem dX2_brought_18 : decode cX2_brought 18 = .ok (.getfield 39, 3) := by decide +kernel
theorem dX2_brought_21 : decode cX2_brought 21 = .ok (.iload_n 2, 1) := by decide +kernel
theorem dX2_brought_22 : decode cX2_brought 22 = .ok (.laload, 1) := by decide +kernel
theorem dX2_brought_23 : decode cX2_brought 23 = .ok (.ldc2_w 44, 3) := by decide +kernel
theorem dX2_brought_26 : decode cX2_brought 26 = .ok (.lxor, 1) := by decide +kernel
theorem dX2_brought_27 : decode cX2_brought 27 = .ok (.land, 1) := by decide +kernel
theorem dX2_brought_28 : decode cX2_brought 28 = .ok (.lreturn, 1) := by decide +kernel
set_option maxRecDepth 20000 in
theorem ggX2_run_X2_brought : GoodIn wsX2_run wsX2_brought := goodIn_r _ [6, 7, 8, 9, 10, 11, 12, 13, 14, 15, 16, 24, 25, 26, 27, 28, 38, 39, 40, 41, 42, 43, 44, 45, 46] (by decide +kernel) (by decide +kernel)
set_option maxRecDepth 20000 in
theorem gX2_run_X2_brought : GoodIn wsX2_run (wsV RX2 52 RX2 yX2_brought wsX2_brought) := goodIn_app (goodIn_of _ (by decide +kernel)) ggX2_run_X2_brought
set_option maxRecDepth 20000 in
theorem ggX2_run_X2_arrive : GoodIn wsX2_run wsX2_arrive := goodIn_r _ [20, 1, 21, 7, 22, 11, 23, 24, 25, 26, 27, 28, 29, 30, 31, 32, 33, 34, 35, 36, 37, 38, 39, 40] (by decide +kernel) (by decide +kernel)
set_option maxRecDepth 20000 in
theorem gX2_run_X2_arrive : GoodIn wsX2_run (wsV RX2 56 RX2 yX2_arrive wsX2_arrive) := goodIn_app (goodIn_of _ (by decide +kernel)) ggX2_run_X2_arrive
theorem dX2_run_0 : decode cX2_run 0 = .ok (.iconst 0, 1) := by decide +kernel
theorem dX2_run_1 : decode cX2_run 1 = .ok (.istore 5, 2) := by decide +kernel
theorem dX2_run_3 : decode cX2_run 3 = .ok (.iload 5, 2) := by decide +kernel
theorem dX2_run_5 : decode cX2_run 5 = .ok (.bipush 24, 2) := by decide +kernel
theorem dX2_run_7 : decode cX2_run 7 = .ok (.if_icmp .ge 39, 3) := by decide +kernel
theorem dX2_run_10 : decode cX2_run 10 = .ok (.aload_n 0, 1) := by decide +kernel
theorem dX2_run_11 : decode cX2_run 11 = .ok (.getfield 26, 3) := by decide +kernel
theorem dX2_run_14 : decode cX2_run 14 = .ok (.getfield 46, 3) := by decide +kernel
theorem dX2_run_17 : decode cX2_run 17 = .ok (.iload 5, 2) := by decide +kernel
theorem dX2_run_19 : decode cX2_run 19 = .ok (.iaload, 1) := by decide +kernel
theorem dX2_run_20 : decode cX2_run 20 = .ok (.istore 6, 2) := by decide +kernel
theorem dX2_run_22 : decode cX2_run 22 = .ok (.aload_n 0, 1) := by decide +kernel
theorem dX2_run_23 : decode cX2_run 23 = .ok (.iload 6, 2) := by decide +kernel
theorem dX2_run_25 : decode cX2_run 25 = .ok (.aload_n 0, 1) := by decide +kernel
theorem dX2_run_26 : decode cX2_run 26 = .ok (.iload_n 1, 1) := by decide +kernel
theorem dX2_run_27 : decode cX2_run 27 = .ok (.iload 6, 2) := by decide +kernel
theorem dX2_run_29 : decode cX2_run 29 = .ok (.aload_n 2, 1) := by decide +kernel
theorem dX2_run_30 : decode cX2_run 30 = .ok (.iload 6, 2) := by decide +kernel
theorem dX2_run_32 : decode cX2_run 32 = .ok (.iaload, 1) := by decide +kernel
theorem dX2_run_33 : decode cX2_run 33 = .ok (.invokevirtual 52, 3) := by decide +kernel
theorem dX2_run_36 : decode cX2_run 36 = .ok (.lload_n 3, 1) := by decide +kernel
theorem dX2_run_37 : decode cX2_run 37 = .ok (.invokevirtual 56, 3) := by decide +kernel
theorem dX2_run_40 : decode cX2_run 40 = .ok (.iinc 5 1, 3) := by decide +kernel
theorem dX2_run_43 : decode cX2_run 43 = .ok (.goto (-40), 3) := by decide +kernel
theorem dX2_run_46 : decode cX2_run 46 = .ok (.return_, 1) := by decide +kernel
set_option maxRecDepth 20000 in
theorem ggX2_arrive_X8_holds : GoodIn wsX2_arrive wsX8_holds := goodIn_r _ [6] (by decide +kernel) (by decide +kernel)
set_option maxRecDepth 20000 in
theorem gX2_arrive_X8_holds_n69 : GoodIn wsX2_arrive (wsX8_holds) := ggX2_arrive_X8_holds
theorem dX2_arrive_0 : decode cX2_arrive 0 = .ok (.lload_n 2, 1) := by decide +kernel
theorem dX2_arrive_1 : decode cX2_arrive 1 = .ok (.lstore 6, 2) := by decide +kernel
theorem dX2_arrive_3 : decode cX2_arrive 3 = .ok (.aload_n 0, 1) := by decide +kernel
theorem dX2_arrive_4 : decode cX2_arrive 4 = .ok (.getfield 26, 3) := by decide +kernel
theorem dX2_arrive_7 : decode cX2_arrive 7 = .ok (.getfield 60, 3) := by decide +kernel
theorem dX2_arrive_10 : decode cX2_arrive 10 = .ok (.iload_n 1, 1) := by decide +kernel
theorem dX2_arrive_11 : decode cX2_arrive 11 = .ok (.iaload, 1) := by decide +kernel
theorem dX2_arrive_12 : decode cX2_arrive 12 = .ok (.istore 8, 2) := by decide +kernel
theorem dX2_arrive_14 : decode cX2_arrive 14 = .ok (.iload 8, 2) := by decide +kernel
theorem dX2_arrive_16 : decode cX2_arrive 16 = .ok (.aload_n 0, 1) := by decide +kernel
theorem dX2_arrive_17 : decode cX2_arrive 17 = .ok (.getfield 26, 3) := by decide +kernel
theorem dX2_arrive_20 : decode cX2_arrive 20 = .ok (.getfield 63, 3) := by decide +kernel
theorem dX2_arrive_23 : decode cX2_arrive 23 = .ok (.iload_n 1, 1) := by decide +kernel
theorem dX2_arrive_24 : decode cX2_arrive 24 = .ok (.iaload, 1) := by decide +kernel
theorem dX2_arrive_25 : decode cX2_arrive 25 = .ok (.if_icmp .ge 70, 3) := by decide +kernel
theorem dX2_arrive_28 : decode cX2_arrive 28 = .ok (.aload_n 0, 1) := by decide +kernel
theorem dX2_arrive_29 : decode cX2_arrive 29 = .ok (.getfield 26, 3) := by decide +kernel
theorem dX2_arrive_32 : decode cX2_arrive 32 = .ok (.getfield 66, 3) := by decide +kernel
theorem dX2_arrive_35 : decode cX2_arrive 35 = .ok (.iload 8, 2) := by decide +kernel
theorem dX2_arrive_37 : decode cX2_arrive 37 = .ok (.iaload, 1) := by decide +kernel
theorem dX2_arrive_38 : decode cX2_arrive 38 = .ok (.istore 9, 2) := by decide +kernel
theorem dX2_arrive_40 : decode cX2_arrive 40 = .ok (.lload 4, 2) := by decide +kernel
theorem dX2_arrive_42 : decode cX2_arrive 42 = .ok (.iload 9, 2) := by decide +kernel
theorem dX2_arrive_44 : decode cX2_arrive 44 = .ok (.invokestatic 69, 3) := by decide +kernel
theorem dX2_arrive_47 : decode cX2_arrive 47 = .ok (.ifCond .eq 42, 3) := by decide +kernel
theorem dX2_arrive_50 : decode cX2_arrive 50 = .ok (.lload 6, 2) := by decide +kernel
theorem dX2_arrive_52 : decode cX2_arrive 52 = .ok (.aload_n 0, 1) := by decide +kernel
theorem dX2_arrive_53 : decode cX2_arrive 53 = .ok (.getfield 9, 3) := by decide +kernel
theorem dX2_arrive_56 : decode cX2_arrive 56 = .ok (.aload_n 0, 1) := by decide +kernel
theorem dX2_arrive_57 : decode cX2_arrive 57 = .ok (.getfield 26, 3) := by decide +kernel
theorem dX2_arrive_60 : decode cX2_arrive 60 = .ok (.getfield 73, 3) := by decide +kernel
theorem dX2_arrive_63 : decode cX2_arrive 63 = .ok (.iload 9, 2) := by decide +kernel
theorem dX2_arrive_65 : decode cX2_arrive 65 = .ok (.iaload, 1) := by decide +kernel
theorem dX2_arrive_66 : decode cX2_arrive 66 = .ok (.laload, 1) := by decide +kernel
theorem dX2_arrive_67 : decode cX2_arrive 67 = .ok (.aload_n 0, 1) := by decide +kernel
theorem dX2_arrive_68 : decode cX2_arrive 68 = .ok (.getfield 18, 3) := by decide +kernel
theorem dX2_arrive_71 : decode cX2_arrive 71 = .ok (.getfield 76, 3) := by decide +kernel
theorem dX2_arrive_74 : decode cX2_arrive 74 = .ok (.aload_n 0, 1) := by decide +kernel
theorem dX2_arrive_75 : decode cX2_arrive 75 = .ok (.getfield 26, 3) := by decide +kernel
theorem dX2_arrive_78 : decode cX2_arrive 78 = .ok (.getfield 79, 3) := by decide +kernel
theorem dX2_arrive_81 : decode cX2_arrive 81 = .ok (.iload 9, 2) := by decide +kernel
theorem dX2_arrive_83 : decode cX2_arrive 83 = .ok (.iaload, 1) := by decide +kernel
theorem dX2_arrive_84 : decode cX2_arrive 84 = .ok (.laload, 1) := by decide +kernel
theorem dX2_arrive_85 : decode cX2_arrive 85 = .ok (.land, 1) := by decide +kernel
theorem dX2_arrive_86 : decode cX2_arrive 86 = .ok (.lor, 1) := by decide +kernel
theorem dX2_arrive_87 : decode cX2_arrive 87 = .ok (.lstore 6, 2) := by decide +kernel
theorem dX2_arrive_89 : decode cX2_arrive 89 = .ok (.iinc 8 1, 3) := by decide +kernel
theorem dX2_arrive_92 : decode cX2_arrive 92 = .ok (.goto (-78), 3) := by decide +kernel
theorem dX2_arrive_95 : decode cX2_arrive 95 = .ok (.aload_n 0, 1) := by decide +kernel
theorem dX2_arrive_96 : decode cX2_arrive 96 = .ok (.getfield 9, 3) := by decide +kernel
theorem dX2_arrive_99 : decode cX2_arrive 99 = .ok (.iload_n 1, 1) := by decide +kernel
theorem dX2_arrive_100 : decode cX2_arrive 100 = .ok (.lload 6, 2) := by decide +kernel
theorem dX2_arrive_102 : decode cX2_arrive 102 = .ok (.lastore, 1) := by decide +kernel
theorem dX2_arrive_103 : decode cX2_arrive 103 = .ok (.return_, 1) := by decide +kernel
theorem dX2_foughtAt_0 : decode cX2_foughtAt 0 = .ok (.aload_n 0, 1) := by decide +kernel
theorem dX2_foughtAt_1 : decode cX2_foughtAt 1 = .ok (.getfield 9, 3) := by decide +kernel
theorem dX2_foughtAt_4 : decode cX2_foughtAt 4 = .ok (.iload_n 1, 1) := by decide +kernel
theorem dX2_foughtAt_5 : decode cX2_foughtAt 5 = .ok (.laload, 1) := by decide +kernel
theorem dX2_foughtAt_6 : decode cX2_foughtAt 6 = .ok (.aload_n 0, 1) := by decide +kernel
theorem dX2_foughtAt_7 : decode cX2_foughtAt 7 = .ok (.getfield 18, 3) := by decide +kernel
theorem dX2_foughtAt_10 : decode cX2_foughtAt 10 = .ok (.getfield 82, 3) := by decide +kernel
theorem dX2_foughtAt_13 : decode cX2_foughtAt 13 = .ok (.iload_n 2, 1) := by decide +kernel
theorem dX2_foughtAt_14 : decode cX2_foughtAt 14 = .ok (.laload, 1) := by decide +kernel
theorem dX2_foughtAt_15 : decode cX2_foughtAt 15 = .ok (.land, 1) := by decide +kernel
theorem dX2_foughtAt_16 : decode cX2_foughtAt 16 = .ok (.lreturn, 1) := by decide +kernel
set_option maxRecDepth 20000 in
theorem ggX2_ofProduct_X3_allIn : GoodIn wsX2_ofProduct wsX3_allIn := goodIn_r _ [7, 8, 9, 10, 11, 12, 13, 14, 15, 27, 28, 29, 30, 31, 32, 33, 34, 35] (by decide +kernel) (by decide +kernel)
set_option maxRecDepth 20000 in
theorem gX2_ofProduct_X3_allIn : GoodIn wsX2_ofProduct (wsV RX2 92 RX3 yX3_allIn wsX3_allIn) := goodIn_app (goodIn_of _ (by decide +kernel)) ggX2_ofProduct_X3_allIn
theorem dX2_ofProduct_0 : decode cX2_ofProduct 0 = .ok (.aload_n 0, 1) := by decide +kernel
theorem dX2_ofProduct_1 : decode cX2_ofProduct 1 = .ok (.getfield 22, 3) := by decide +kernel
theorem dX2_ofProduct_4 : decode cX2_ofProduct 4 = .ok (.getfield 85, 3) := by decide +kernel
theorem dX2_ofProduct_7 : decode cX2_ofProduct 7 = .ok (.ifCond .ne 7, 3) := by decide +kernel
theorem dX2_ofProduct_10 : decode cX2_ofProduct 10 = .ok (.iconst 0, 1) := by decide +kernel
theorem dX2_ofProduct_11 : decode cX2_ofProduct 11 = .ok (.goto 18, 3) := by decide +kernel
theorem dX2_ofProduct_14 : decode cX2_ofProduct 14 = .ok (.aload_n 0, 1) := by decide +kernel
theorem dX2_ofProduct_15 : decode cX2_ofProduct 15 = .ok (.getfield 26, 3) := by decide +kernel
theorem dX2_ofProduct_18 : decode cX2_ofProduct 18 = .ok (.aload_n 0, 1) := by decide +kernel
theorem dX2_ofProduct_19 : decode cX2_ofProduct 19 = .ok (.getfield 22, 3) := by decide +kernel
theorem dX2_ofProduct_22 : decode cX2_ofProduct 22 = .ok (.getfield 89, 3) := by decide +kernel
theorem dX2_ofProduct_25 : decode cX2_ofProduct 25 = .ok (.lload_n 1, 1) := by decide +kernel
theorem dX2_ofProduct_26 : decode cX2_ofProduct 26 = .ok (.invokevirtual 92, 3) := by decide +kernel
theorem dX2_ofProduct_29 : decode cX2_ofProduct 29 = .ok (.ireturn, 1) := by decide +kernel
set_option maxRecDepth 20000 in
theorem ggX2_quarrelCount_X2_ofProduct : GoodIn wsX2_quarrelCount wsX2_ofProduct := goodIn_r _ [6, 1, 7, 8, 9, 10, 11, 12, 13, 14, 15, 16, 17, 18, 19, 20, 34, 35, 36, 37, 38, 39, 40, 41, 42, 43, 44, 45, 46, 47, 48, 49, 50, 51, 52, 53] (by decide +kernel) (by decide +kernel)
set_option maxRecDepth 20000 in
theorem gX2_quarrelCount_X2_ofProduct : GoodIn wsX2_quarrelCount (wsV RX2 96 RX2 yX2_ofProduct wsX2_ofProduct) := goodIn_app (goodIn_of _ (by decide +kernel)) ggX2_quarrelCount_X2_ofProduct
set_option maxRecDepth 20000 in
theorem ggX2_quarrelCount_X8_holds : GoodIn wsX2_quarrelCount wsX8_holds := goodIn_r _ [20] (by decide +kernel) (by decide +kernel)
set_option maxRecDepth 20000 in
theorem gX2_quarrelCount_X8_holds_n69 : GoodIn wsX2_quarrelCount (wsX8_holds) := ggX2_quarrelCount_X8_holds
set_option maxRecDepth 20000 in
theorem ggX2_quarrelCount_X2_foughtAt : GoodIn wsX2_quarrelCount wsX2_foughtAt := goodIn_r _ [24, 25, 26, 34, 35, 36, 37, 38, 54, 55, 56] (by decide +kernel) (by decide +kernel)
set_option maxRecDepth 20000 in
theorem gX2_quarrelCount_X2_foughtAt : GoodIn wsX2_quarrelCount (wsV RX2 100 RX2 yX2_foughtAt wsX2_foughtAt) := goodIn_app (goodIn_of _ (by decide +kernel)) ggX2_quarrelCount_X2_foughtAt
set_option maxRecDepth 20000 in
theorem ggX2_quarrelCount_J13_bitCount_95d88 : GoodIn wsX2_quarrelCount wsJ13_bitCount_95d88 := goodIn_r _ [30, 31, 32, 33] (by decide +kernel) (by decide +kernel)
set_option maxRecDepth 20000 in
theorem gX2_quarrelCount_J13_bitCount_95d88 : GoodIn wsX2_quarrelCount (va_wsS RX2 104 yJ13_bitCount_95d88 wsJ13_bitCount_95d88) := goodIn_app (goodIn_of _ (by decide +kernel)) ggX2_quarrelCount_J13_bitCount_95d88
theorem dX2_quarrelCount_0 : decode cX2_quarrelCount 0 = .ok (.aload_n 0, 1) := by decide +kernel
theorem dX2_quarrelCount_1 : decode cX2_quarrelCount 1 = .ok (.lload_n 2, 1) := by decide +kernel
theorem dX2_quarrelCount_2 : decode cX2_quarrelCount 2 = .ok (.invokevirtual 96, 3) := by decide +kernel
theorem dX2_quarrelCount_5 : decode cX2_quarrelCount 5 = .ok (.istore 4, 2) := by decide +kernel
theorem dX2_quarrelCount_7 : decode cX2_quarrelCount 7 = .ok (.iconst 0, 1) := by decide +kernel
theorem dX2_quarrelCount_8 : decode cX2_quarrelCount 8 = .ok (.istore 5, 2) := by decide +kernel
theorem dX2_quarrelCount_10 : decode cX2_quarrelCount 10 = .ok (.iconst 0, 1) := by decide +kernel
theorem dX2_quarrelCount_11 : decode cX2_quarrelCount 11 = .ok (.istore 6, 2) := by decide +kernel
theorem dX2_quarrelCount_13 : decode cX2_quarrelCount 13 = .ok (.iload 6, 2) := by decide +kernel
theorem dX2_quarrelCount_15 : decode cX2_quarrelCount 15 = .ok (.aload_n 0, 1) := by decide +kernel
theorem dX2_quarrelCount_16 : decode cX2_quarrelCount 16 = .ok (.getfield 22, 3) := by decide +kernel
theorem dX2_quarrelCount_19 : decode cX2_quarrelCount 19 = .ok (.getfield 85, 3) := by decide +kernel
theorem dX2_quarrelCount_22 : decode cX2_quarrelCount 22 = .ok (.if_icmp .ge 38, 3) := by decide +kernel
theorem dX2_quarrelCount_25 : decode cX2_quarrelCount 25 = .ok (.iload 4, 2) := by decide +kernel
theorem dX2_quarrelCount_27 : decode cX2_quarrelCount 27 = .ok (.i2l, 1) := by decide +kernel
theorem dX2_quarrelCount_28 : decode cX2_quarrelCount 28 = .ok (.iload 6, 2) := by decide +kernel
theorem dX2_quarrelCount_30 : decode cX2_quarrelCount 30 = .ok (.invokestatic 69, 3) := by decide +kernel
theorem dX2_quarrelCount_33 : decode cX2_quarrelCount 33 = .ok (.ifCond .eq 21, 3) := by decide +kernel
theorem dX2_quarrelCount_36 : decode cX2_quarrelCount 36 = .ok (.iload 5, 2) := by decide +kernel
theorem dX2_quarrelCount_38 : decode cX2_quarrelCount 38 = .ok (.aload_n 0, 1) := by decide +kernel
theorem dX2_quarrelCount_39 : decode cX2_quarrelCount 39 = .ok (.iload 6, 2) := by decide +kernel
theorem dX2_quarrelCount_41 : decode cX2_quarrelCount 41 = .ok (.aload_n 1, 1) := by decide +kernel
theorem dX2_quarrelCount_42 : decode cX2_quarrelCount 42 = .ok (.iload 6, 2) := by decide +kernel
theorem dX2_quarrelCount_44 : decode cX2_quarrelCount 44 = .ok (.iaload, 1) := by decide +kernel
theorem dX2_quarrelCount_45 : decode cX2_quarrelCount 45 = .ok (.invokevirtual 100, 3) := by decide +kernel
theorem dX2_quarrelCount_48 : decode cX2_quarrelCount 48 = .ok (.invokestatic 104, 3) := by decide +kernel
theorem dX2_quarrelCount_51 : decode cX2_quarrelCount 51 = .ok (.iadd, 1) := by decide +kernel
theorem dX2_quarrelCount_52 : decode cX2_quarrelCount 52 = .ok (.istore 5, 2) := by decide +kernel
theorem dX2_quarrelCount_54 : decode cX2_quarrelCount 54 = .ok (.iinc 6 1, 3) := by decide +kernel
theorem dX2_quarrelCount_57 : decode cX2_quarrelCount 57 = .ok (.goto (-44), 3) := by decide +kernel
theorem dX2_quarrelCount_60 : decode cX2_quarrelCount 60 = .ok (.iload 5, 2) := by decide +kernel
theorem dX2_quarrelCount_62 : decode cX2_quarrelCount 62 = .ok (.ireturn, 1) := by decide +kernel
set_option maxRecDepth 20000 in
theorem ggX2_quarrelAt_X2_ofProduct : GoodIn wsX2_quarrelAt wsX2_ofProduct := goodIn_r _ [7, 2, 1, 8, 9, 10, 11, 12, 13, 14, 15, 16, 17, 18, 19, 20, 37, 38, 39, 40, 41, 51, 52, 53, 54, 55, 56, 42, 43, 44, 45, 46, 47, 48, 49, 50] (by decide +kernel) (by decide +kernel)
set_option maxRecDepth 20000 in
theorem gX2_quarrelAt_X2_ofProduct : GoodIn wsX2_quarrelAt (wsV RX2 96 RX2 yX2_ofProduct wsX2_ofProduct) := goodIn_app (goodIn_of _ (by decide +kernel)) ggX2_quarrelAt_X2_ofProduct
set_option maxRecDepth 20000 in
theorem ggX2_quarrelAt_X8_holds : GoodIn wsX2_quarrelAt wsX8_holds := goodIn_r _ [20] (by decide +kernel) (by decide +kernel)
set_option maxRecDepth 20000 in
theorem gX2_quarrelAt_X8_holds_n69 : GoodIn wsX2_quarrelAt (wsX8_holds) := ggX2_quarrelAt_X8_holds
set_option maxRecDepth 20000 in
theorem ggX2_quarrelAt_X2_foughtAt : GoodIn wsX2_quarrelAt wsX2_foughtAt := goodIn_r _ [24, 25, 26, 37, 38, 39, 40, 41, 57, 58, 59] (by decide +kernel) (by decide +kernel)
set_option maxRecDepth 20000 in
theorem gX2_quarrelAt_X2_foughtAt : GoodIn wsX2_quarrelAt (wsV RX2 100 RX2 yX2_foughtAt wsX2_foughtAt) := goodIn_app (goodIn_of _ (by decide +kernel)) ggX2_quarrelAt_X2_foughtAt
set_option maxRecDepth 20000 in
theorem ggX2_quarrelAt_J13_bitCount_95d88 : GoodIn wsX2_quarrelAt wsJ13_bitCount_95d88 := goodIn_r _ [30, 31, 32, 33] (by decide +kernel) (by decide +kernel)
set_option maxRecDepth 20000 in
theorem gX2_quarrelAt_J13_bitCount_95d88 : GoodIn wsX2_quarrelAt (va_wsS RX2 104 yJ13_bitCount_95d88 wsJ13_bitCount_95d88) := goodIn_app (goodIn_of _ (by decide +kernel)) ggX2_quarrelAt_J13_bitCount_95d88
set_option maxRecDepth 20000 in
theorem ggX2_quarrelAt_X2_pairAt : GoodIn wsX2_quarrelAt wsX2_pairAt := goodIn_r _ [36, 18, 19, 20] (by decide +kernel) (by decide +kernel)
set_option maxRecDepth 20000 in
theorem gX2_quarrelAt_X2_pairAt : GoodIn wsX2_quarrelAt (va_wsS RX2 116 yX2_pairAt wsX2_pairAt) := goodIn_app (goodIn_of _ (by decide +kernel)) ggX2_quarrelAt_X2_pairAt
theorem dX2_quarrelAt_0 : decode cX2_quarrelAt 0 = .ok (.aload_n 0, 1) := by decide +kernel
theorem dX2_quarrelAt_1 : decode cX2_quarrelAt 1 = .ok (.aload_n 0, 1) := by decide +kernel
theorem dX2_quarrelAt_2 : decode cX2_quarrelAt 2 = .ok (.getfield 26, 3) := by decide +kernel
theorem dX2_quarrelAt_5 : decode cX2_quarrelAt 5 = .ok (.getfield 109, 3) := by decide +kernel
theorem dX2_quarrelAt_8 : decode cX2_quarrelAt 8 = .ok (.invokevirtual 96, 3) := by decide +kernel
theorem dX2_quarrelAt_11 : decode cX2_quarrelAt 11 = .ok (.istore_n 2, 1) := by decide +kernel
theorem dX2_quarrelAt_12 : decode cX2_quarrelAt 12 = .ok (.iconst 0, 1) := by decide +kernel
theorem dX2_quarrelAt_13 : decode cX2_quarrelAt 13 = .ok (.istore_n 3, 1) := by decide +kernel
theorem dX2_quarrelAt_14 : decode cX2_quarrelAt 14 = .ok (.iconst 0, 1) := by decide +kernel
theorem dX2_quarrelAt_15 : decode cX2_quarrelAt 15 = .ok (.istore 4, 2) := by decide +kernel
theorem dX2_quarrelAt_17 : decode cX2_quarrelAt 17 = .ok (.iload 4, 2) := by decide +kernel
theorem dX2_quarrelAt_19 : decode cX2_quarrelAt 19 = .ok (.aload_n 0, 1) := by decide +kernel
theorem dX2_quarrelAt_20 : decode cX2_quarrelAt 20 = .ok (.getfield 22, 3) := by decide +kernel
theorem dX2_quarrelAt_23 : decode cX2_quarrelAt 23 = .ok (.getfield 85, 3) := by decide +kernel
theorem dX2_quarrelAt_26 : decode cX2_quarrelAt 26 = .ok (.if_icmp .ge 76, 3) := by decide +kernel
theorem dX2_quarrelAt_29 : decode cX2_quarrelAt 29 = .ok (.iload_n 2, 1) := by decide +kernel
theorem dX2_quarrelAt_30 : decode cX2_quarrelAt 30 = .ok (.i2l, 1) := by decide +kernel
theorem dX2_quarrelAt_31 : decode cX2_quarrelAt 31 = .ok (.iload 4, 2) := by decide +kernel
theorem dX2_quarrelAt_33 : decode cX2_quarrelAt 33 = .ok (.invokestatic 69, 3) := by decide +kernel
theorem dX2_quarrelAt_36 : decode cX2_quarrelAt 36 = .ok (.ifCond .eq 22, 3) := by decide +kernel
theorem dX2_quarrelAt_39 : decode cX2_quarrelAt 39 = .ok (.aload_n 0, 1) := by decide +kernel
theorem dX2_quarrelAt_40 : decode cX2_quarrelAt 40 = .ok (.iload 4, 2) := by decide +kernel
theorem dX2_quarrelAt_42 : decode cX2_quarrelAt 42 = .ok (.aload_n 0, 1) := by decide +kernel
theorem dX2_quarrelAt_43 : decode cX2_quarrelAt 43 = .ok (.getfield 22, 3) := by decide +kernel
theorem dX2_quarrelAt_46 : decode cX2_quarrelAt 46 = .ok (.getfield 113, 3) := by decide +kernel
theorem dX2_quarrelAt_49 : decode cX2_quarrelAt 49 = .ok (.iload 4, 2) := by decide +kernel
theorem dX2_quarrelAt_51 : decode cX2_quarrelAt 51 = .ok (.iaload, 1) := by decide +kernel
theorem dX2_quarrelAt_52 : decode cX2_quarrelAt 52 = .ok (.invokevirtual 100, 3) := by decide +kernel
theorem dX2_quarrelAt_55 : decode cX2_quarrelAt 55 = .ok (.goto 4, 3) := by decide +kernel
theorem dX2_quarrelAt_58 : decode cX2_quarrelAt 58 = .ok (.lconst 0, 1) := by decide +kernel
theorem dX2_quarrelAt_59 : decode cX2_quarrelAt 59 = .ok (.lstore 5, 2) := by decide +kernel
theorem dX2_quarrelAt_61 : decode cX2_quarrelAt 61 = .ok (.lload 5, 2) := by decide +kernel
theorem dX2_quarrelAt_63 : decode cX2_quarrelAt 63 = .ok (.invokestatic 104, 3) := by decide +kernel
theorem dX2_quarrelAt_66 : decode cX2_quarrelAt 66 = .ok (.istore 7, 2) := by decide +kernel
theorem dX2_quarrelAt_68 : decode cX2_quarrelAt 68 = .ok (.iload_n 1, 1) := by decide +kernel
theorem dX2_quarrelAt_69 : decode cX2_quarrelAt 69 = .ok (.iload_n 3, 1) := by decide +kernel
theorem dX2_quarrelAt_70 : decode cX2_quarrelAt 70 = .ok (.iload 7, 2) := by decide +kernel
theorem dX2_quarrelAt_72 : decode cX2_quarrelAt 72 = .ok (.iadd, 1) := by decide +kernel
theorem dX2_quarrelAt_73 : decode cX2_quarrelAt 73 = .ok (.if_icmp .ge 18, 3) := by decide +kernel
theorem dX2_quarrelAt_76 : decode cX2_quarrelAt 76 = .ok (.iload 4, 2) := by decide +kernel
theorem dX2_quarrelAt_78 : decode cX2_quarrelAt 78 = .ok (.bipush 64, 2) := by decide +kernel
theorem dX2_quarrelAt_80 : decode cX2_quarrelAt 80 = .ok (.imul, 1) := by decide +kernel
theorem dX2_quarrelAt_81 : decode cX2_quarrelAt 81 = .ok (.lload 5, 2) := by decide +kernel
theorem dX2_quarrelAt_83 : decode cX2_quarrelAt 83 = .ok (.iload_n 1, 1) := by decide +kernel
theorem dX2_quarrelAt_84 : decode cX2_quarrelAt 84 = .ok (.iload_n 3, 1) := by decide +kernel
theorem dX2_quarrelAt_85 : decode cX2_quarrelAt 85 = .ok (.isub, 1) := by decide +kernel
theorem dX2_quarrelAt_86 : decode cX2_quarrelAt 86 = .ok (.invokestatic 116, 3) := by decide +kernel
theorem dX2_quarrelAt_89 : decode cX2_quarrelAt 89 = .ok (.iadd, 1) := by decide +kernel
theorem dX2_quarrelAt_90 : decode cX2_quarrelAt 90 = .ok (.ireturn, 1) := by decide +kernel
theorem dX2_quarrelAt_91 : decode cX2_quarrelAt 91 = .ok (.iload_n 3, 1) := by decide +kernel
theorem dX2_quarrelAt_92 : decode cX2_quarrelAt 92 = .ok (.iload 7, 2) := by decide +kernel
theorem dX2_quarrelAt_94 : decode cX2_quarrelAt 94 = .ok (.iadd, 1) := by decide +kernel
theorem dX2_quarrelAt_95 : decode cX2_quarrelAt 95 = .ok (.istore_n 3, 1) := by decide +kernel
theorem dX2_quarrelAt_96 : decode cX2_quarrelAt 96 = .ok (.iinc 4 1, 3) := by decide +kernel
theorem dX2_quarrelAt_99 : decode cX2_quarrelAt 99 = .ok (.goto (-82), 3) := by decide +kernel
theorem dX2_quarrelAt_102 : decode cX2_quarrelAt 102 = .ok (.iconst (-1), 1) := by decide +kernel
theorem dX2_quarrelAt_103 : decode cX2_quarrelAt 103 = .ok (.ireturn, 1) := by decide +kernel
set_option maxRecDepth 20000 in
theorem ggX2_pairAt_X8_holds : GoodIn wsX2_pairAt wsX8_holds := goodIn_r _ [3] (by decide +kernel) (by decide +kernel)
set_option maxRecDepth 20000 in
theorem gX2_pairAt_X8_holds_n69 : GoodIn wsX2_pairAt (wsX8_holds) := ggX2_pairAt_X8_holds
theorem dX2_pairAt_0 : decode cX2_pairAt 0 = .ok (.iconst 0, 1) := by decide +kernel
theorem dX2_pairAt_1 : decode cX2_pairAt 1 = .ok (.istore_n 3, 1) := by decide +kernel
theorem dX2_pairAt_2 : decode cX2_pairAt 2 = .ok (.iconst 0, 1) := by decide +kernel
theorem dX2_pairAt_3 : decode cX2_pairAt 3 = .ok (.istore 4, 2) := by decide +kernel
theorem dX2_pairAt_5 : decode cX2_pairAt 5 = .ok (.iload 4, 2) := by decide +kernel
theorem dX2_pairAt_7 : decode cX2_pairAt 7 = .ok (.bipush 64, 2) := by decide +kernel
theorem dX2_pairAt_9 : decode cX2_pairAt 9 = .ok (.if_icmp .ge 29, 3) := by decide +kernel
theorem dX2_pairAt_12 : decode cX2_pairAt 12 = .ok (.lload_n 0, 1) := by decide +kernel
theorem dX2_pairAt_13 : decode cX2_pairAt 13 = .ok (.iload 4, 2) := by decide +kernel
theorem dX2_pairAt_15 : decode cX2_pairAt 15 = .ok (.invokestatic 69, 3) := by decide +kernel
theorem dX2_pairAt_18 : decode cX2_pairAt 18 = .ok (.ifCond .eq 14, 3) := by decide +kernel
theorem dX2_pairAt_21 : decode cX2_pairAt 21 = .ok (.iload_n 3, 1) := by decide +kernel
theorem dX2_pairAt_22 : decode cX2_pairAt 22 = .ok (.iload_n 2, 1) := by decide +kernel
theorem dX2_pairAt_23 : decode cX2_pairAt 23 = .ok (.if_icmp .ne 6, 3) := by decide +kernel
theorem dX2_pairAt_26 : decode cX2_pairAt 26 = .ok (.iload 4, 2) := by decide +kernel
theorem dX2_pairAt_28 : decode cX2_pairAt 28 = .ok (.ireturn, 1) := by decide +kernel
theorem dX2_pairAt_29 : decode cX2_pairAt 29 = .ok (.iinc 3 1, 3) := by decide +kernel
theorem dX2_pairAt_32 : decode cX2_pairAt 32 = .ok (.iinc 4 1, 3) := by decide +kernel
theorem dX2_pairAt_35 : decode cX2_pairAt 35 = .ok (.goto (-30), 3) := by decide +kernel
theorem dX2_pairAt_38 : decode cX2_pairAt 38 = .ok (.iconst (-1), 1) := by decide +kernel
theorem dX2_pairAt_39 : decode cX2_pairAt 39 = .ok (.ireturn, 1) := by decide +kernel
set_option maxRecDepth 20000 in
theorem ggX2_unlike_X2_run : GoodIn wsX2_unlike wsX2_run := goodIn_r _ [13, 2, 14, 15, 16, 12, 17, 18, 1, 19, 20, 21, 22, 23, 24, 25, 26, 27, 28, 29, 30, 3, 31, 32, 47, 48, 49, 50, 51, 58, 59, 60, 61, 62, 63, 64, 65, 66, 67, 68, 69, 52, 53, 54, 55, 56, 57] (by decide +kernel) (by decide +kernel)
set_option maxRecDepth 20000 in
theorem gX2_unlike_X2_run : GoodIn wsX2_unlike (wsV RX2 120 RX2 yX2_run wsX2_run) := goodIn_app (goodIn_of _ (by decide +kernel)) ggX2_unlike_X2_run
set_option maxRecDepth 20000 in
theorem ggX2_unlike_X2_ofProduct : GoodIn wsX2_unlike wsX2_ofProduct := goodIn_r _ [36, 1, 2, 37, 38, 39, 40, 41, 42, 43, 44, 45, 46, 31, 21, 32, 47, 48, 49, 50, 51, 52, 53, 54, 55, 56, 57, 58, 59, 60, 61, 62, 63, 64, 65, 66] (by decide +kernel) (by decide +kernel)
set_option maxRecDepth 20000 in
theorem gX2_unlike_X2_ofProduct : GoodIn wsX2_unlike (wsV RX2 96 RX2 yX2_ofProduct wsX2_ofProduct) := goodIn_app (goodIn_of _ (by decide +kernel)) ggX2_unlike_X2_ofProduct
theorem dX2_unlike_0 : decode cX2_unlike 0 = .ok (.aload_n 0, 1) := by decide +kernel
theorem dX2_unlike_1 : decode cX2_unlike 1 = .ok (.iload_n 1, 1) := by decide +kernel
theorem dX2_unlike_2 : decode cX2_unlike 2 = .ok (.aload_n 0, 1) := by decide +kernel
theorem dX2_unlike_3 : decode cX2_unlike 3 = .ok (.getfield 22, 3) := by decide +kernel
theorem dX2_unlike_6 : decode cX2_unlike 6 = .ok (.getfield 113, 3) := by decide +kernel
theorem dX2_unlike_9 : decode cX2_unlike 9 = .ok (.aload_n 0, 1) := by decide +kernel
theorem dX2_unlike_10 : decode cX2_unlike 10 = .ok (.getfield 26, 3) := by decide +kernel
theorem dX2_unlike_13 : decode cX2_unlike 13 = .ok (.getfield 109, 3) := by decide +kernel
theorem dX2_unlike_16 : decode cX2_unlike 16 = .ok (.invokevirtual 120, 3) := by decide +kernel
theorem dX2_unlike_19 : decode cX2_unlike 19 = .ok (.aload_n 0, 1) := by decide +kernel
theorem dX2_unlike_20 : decode cX2_unlike 20 = .ok (.getfield 9, 3) := by decide +kernel
theorem dX2_unlike_23 : decode cX2_unlike 23 = .ok (.iconst 0, 1) := by decide +kernel
theorem dX2_unlike_24 : decode cX2_unlike 24 = .ok (.aload_n 0, 1) := by decide +kernel
theorem dX2_unlike_25 : decode cX2_unlike 25 = .ok (.getfield 15, 3) := by decide +kernel
theorem dX2_unlike_28 : decode cX2_unlike 28 = .ok (.iconst 0, 1) := by decide +kernel
theorem dX2_unlike_29 : decode cX2_unlike 29 = .ok (.bipush 24, 2) := by decide +kernel
theorem dX2_unlike_31 : decode cX2_unlike 31 = .ok (.invokestatic 124, 3) := by decide +kernel
theorem dX2_unlike_34 : decode cX2_unlike 34 = .ok (.aload_n 0, 1) := by decide +kernel
theorem dX2_unlike_35 : decode cX2_unlike 35 = .ok (.iload_n 2, 1) := by decide +kernel
theorem dX2_unlike_36 : decode cX2_unlike 36 = .ok (.aload_n 0, 1) := by decide +kernel
theorem dX2_unlike_37 : decode cX2_unlike 37 = .ok (.getfield 22, 3) := by decide +kernel
theorem dX2_unlike_40 : decode cX2_unlike 40 = .ok (.getfield 113, 3) := by decide +kernel
theorem dX2_unlike_43 : decode cX2_unlike 43 = .ok (.aload_n 0, 1) := by decide +kernel
theorem dX2_unlike_44 : decode cX2_unlike 44 = .ok (.getfield 26, 3) := by decide +kernel
theorem dX2_unlike_47 : decode cX2_unlike 47 = .ok (.getfield 109, 3) := by decide +kernel
theorem dX2_unlike_50 : decode cX2_unlike 50 = .ok (.invokevirtual 120, 3) := by decide +kernel
theorem dX2_unlike_53 : decode cX2_unlike 53 = .ok (.iconst 0, 1) := by decide +kernel
theorem dX2_unlike_54 : decode cX2_unlike 54 = .ok (.istore_n 3, 1) := by decide +kernel
theorem dX2_unlike_55 : decode cX2_unlike 55 = .ok (.iconst 0, 1) := by decide +kernel
theorem dX2_unlike_56 : decode cX2_unlike 56 = .ok (.istore 4, 2) := by decide +kernel
theorem dX2_unlike_58 : decode cX2_unlike 58 = .ok (.iload 4, 2) := by decide +kernel
theorem dX2_unlike_60 : decode cX2_unlike 60 = .ok (.bipush 24, 2) := by decide +kernel
theorem dX2_unlike_62 : decode cX2_unlike 62 = .ok (.if_icmp .ge 34, 3) := by decide +kernel
theorem dX2_unlike_65 : decode cX2_unlike 65 = .ok (.aload_n 0, 1) := by decide +kernel
theorem dX2_unlike_66 : decode cX2_unlike 66 = .ok (.getfield 9, 3) := by decide +kernel
theorem dX2_unlike_69 : decode cX2_unlike 69 = .ok (.iload 4, 2) := by decide +kernel
theorem dX2_unlike_71 : decode cX2_unlike 71 = .ok (.laload, 1) := by decide +kernel
theorem dX2_unlike_72 : decode cX2_unlike 72 = .ok (.aload_n 0, 1) := by decide +kernel
theorem dX2_unlike_73 : decode cX2_unlike 73 = .ok (.getfield 15, 3) := by decide +kernel
theorem dX2_unlike_76 : decode cX2_unlike 76 = .ok (.iload 4, 2) := by decide +kernel
theorem dX2_unlike_78 : decode cX2_unlike 78 = .ok (.laload, 1) := by decide +kernel
theorem dX2_unlike_79 : decode cX2_unlike 79 = .ok (.lcmp, 1) := by decide +kernel
theorem dX2_unlike_80 : decode cX2_unlike 80 = .ok (.ifCond .eq 10, 3) := by decide +kernel
theorem dX2_unlike_83 : decode cX2_unlike 83 = .ok (.iload_n 3, 1) := by decide +kernel
theorem dX2_unlike_84 : decode cX2_unlike 84 = .ok (.iconst 1, 1) := by decide +kernel
theorem dX2_unlike_85 : decode cX2_unlike 85 = .ok (.iload 4, 2) := by decide +kernel
theorem dX2_unlike_87 : decode cX2_unlike 87 = .ok (.ishl, 1) := by decide +kernel
theorem dX2_unlike_88 : decode cX2_unlike 88 = .ok (.ior, 1) := by decide +kernel
theorem dX2_unlike_89 : decode cX2_unlike 89 = .ok (.istore_n 3, 1) := by decide +kernel
theorem dX2_unlike_90 : decode cX2_unlike 90 = .ok (.iinc 4 1, 3) := by decide +kernel
theorem dX2_unlike_93 : decode cX2_unlike 93 = .ok (.goto (-35), 3) := by decide +kernel
theorem dX2_unlike_96 : decode cX2_unlike 96 = .ok (.iload_n 3, 1) := by decide +kernel
theorem dX2_unlike_97 : decode cX2_unlike 97 = .ok (.aload_n 0, 1) := by decide +kernel
theorem dX2_unlike_98 : decode cX2_unlike 98 = .ok (.aload_n 0, 1) := by decide +kernel
theorem dX2_unlike_99 : decode cX2_unlike 99 = .ok (.getfield 26, 3) := by decide +kernel
theorem dX2_unlike_102 : decode cX2_unlike 102 = .ok (.getfield 109, 3) := by decide +kernel
theorem dX2_unlike_105 : decode cX2_unlike 105 = .ok (.invokevirtual 96, 3) := by decide +kernel
theorem dX2_unlike_108 : decode cX2_unlike 108 = .ok (.iand, 1) := by decide +kernel
theorem dX2_unlike_109 : decode cX2_unlike 109 = .ok (.ireturn, 1) := by decide +kernel
set_option maxRecDepth 20000 in
theorem ggX2_wayCount_X2_ofProduct : GoodIn wsX2_wayCount wsX2_ofProduct := goodIn_r _ [7, 2, 1, 8, 9, 10, 11, 12, 13, 14, 15, 16, 17, 18, 19, 20, 21, 22, 23, 24, 25, 35, 36, 37, 38, 39, 40, 26, 27, 28, 29, 30, 31, 32, 33, 34] (by decide +kernel) (by decide +kernel)
set_option maxRecDepth 20000 in
theorem gX2_wayCount_X2_ofProduct : GoodIn wsX2_wayCount (wsV RX2 96 RX2 yX2_ofProduct wsX2_ofProduct) := goodIn_app (goodIn_of _ (by decide +kernel)) ggX2_wayCount_X2_ofProduct
set_option maxRecDepth 20000 in
theorem ggX2_wayCount_X8_holds : GoodIn wsX2_wayCount wsX8_holds := goodIn_r _ [20] (by decide +kernel) (by decide +kernel)
set_option maxRecDepth 20000 in
theorem gX2_wayCount_X8_holds_n69 : GoodIn wsX2_wayCount (wsX8_holds) := ggX2_wayCount_X8_holds
theorem dX2_wayCount_0 : decode cX2_wayCount 0 = .ok (.aload_n 0, 1) := by decide +kernel
theorem dX2_wayCount_1 : decode cX2_wayCount 1 = .ok (.aload_n 0, 1) := by decide +kernel
theorem dX2_wayCount_2 : decode cX2_wayCount 2 = .ok (.getfield 26, 3) := by decide +kernel
theorem dX2_wayCount_5 : decode cX2_wayCount 5 = .ok (.getfield 109, 3) := by decide +kernel
theorem dX2_wayCount_8 : decode cX2_wayCount 8 = .ok (.invokevirtual 96, 3) := by decide +kernel
theorem dX2_wayCount_11 : decode cX2_wayCount 11 = .ok (.istore_n 1, 1) := by decide +kernel
theorem dX2_wayCount_12 : decode cX2_wayCount 12 = .ok (.iconst 1, 1) := by decide +kernel
theorem dX2_wayCount_13 : decode cX2_wayCount 13 = .ok (.istore_n 2, 1) := by decide +kernel
theorem dX2_wayCount_14 : decode cX2_wayCount 14 = .ok (.iconst 0, 1) := by decide +kernel
theorem dX2_wayCount_15 : decode cX2_wayCount 15 = .ok (.istore_n 3, 1) := by decide +kernel
theorem dX2_wayCount_16 : decode cX2_wayCount 16 = .ok (.iload_n 3, 1) := by decide +kernel
theorem dX2_wayCount_17 : decode cX2_wayCount 17 = .ok (.aload_n 0, 1) := by decide +kernel
theorem dX2_wayCount_18 : decode cX2_wayCount 18 = .ok (.getfield 22, 3) := by decide +kernel
theorem dX2_wayCount_21 : decode cX2_wayCount 21 = .ok (.getfield 85, 3) := by decide +kernel
theorem dX2_wayCount_24 : decode cX2_wayCount 24 = .ok (.if_icmp .ge 39, 3) := by decide +kernel
theorem dX2_wayCount_27 : decode cX2_wayCount 27 = .ok (.iload_n 1, 1) := by decide +kernel
theorem dX2_wayCount_28 : decode cX2_wayCount 28 = .ok (.i2l, 1) := by decide +kernel
theorem dX2_wayCount_29 : decode cX2_wayCount 29 = .ok (.iload_n 3, 1) := by decide +kernel
theorem dX2_wayCount_30 : decode cX2_wayCount 30 = .ok (.invokestatic 69, 3) := by decide +kernel
theorem dX2_wayCount_33 : decode cX2_wayCount 33 = .ok (.ifCond .eq 15, 3) := by decide +kernel
theorem dX2_wayCount_36 : decode cX2_wayCount 36 = .ok (.iload_n 2, 1) := by decide +kernel
theorem dX2_wayCount_37 : decode cX2_wayCount 37 = .ok (.aload_n 0, 1) := by decide +kernel
theorem dX2_wayCount_38 : decode cX2_wayCount 38 = .ok (.getfield 22, 3) := by decide +kernel
theorem dX2_wayCount_41 : decode cX2_wayCount 41 = .ok (.getfield 130, 3) := by decide +kernel
theorem dX2_wayCount_44 : decode cX2_wayCount 44 = .ok (.iload_n 3, 1) := by decide +kernel
theorem dX2_wayCount_45 : decode cX2_wayCount 45 = .ok (.iaload, 1) := by decide +kernel
theorem dX2_wayCount_46 : decode cX2_wayCount 46 = .ok (.imul, 1) := by decide +kernel
theorem dX2_wayCount_47 : decode cX2_wayCount 47 = .ok (.istore_n 2, 1) := by decide +kernel
theorem dX2_wayCount_48 : decode cX2_wayCount 48 = .ok (.iload_n 2, 1) := by decide +kernel
theorem dX2_wayCount_49 : decode cX2_wayCount 49 = .ok (.sipush 6561, 3) := by decide +kernel
theorem dX2_wayCount_52 : decode cX2_wayCount 52 = .ok (.if_icmp .le 5, 3) := by decide +kernel
theorem dX2_wayCount_55 : decode cX2_wayCount 55 = .ok (.iconst (-1), 1) := by decide +kernel
theorem dX2_wayCount_56 : decode cX2_wayCount 56 = .ok (.ireturn, 1) := by decide +kernel
theorem dX2_wayCount_57 : decode cX2_wayCount 57 = .ok (.iinc 3 1, 3) := by decide +kernel
theorem dX2_wayCount_60 : decode cX2_wayCount 60 = .ok (.goto (-44), 3) := by decide +kernel
theorem dX2_wayCount_63 : decode cX2_wayCount 63 = .ok (.iload_n 2, 1) := by decide +kernel
theorem dX2_wayCount_64 : decode cX2_wayCount 64 = .ok (.ireturn, 1) := by decide +kernel
theorem dX3_init_0 : decode cX3_init 0 = .ok (.aload_n 0, 1) := by decide +kernel
theorem dX3_init_1 : decode cX3_init 1 = .ok (.invokespecial 3, 3) := by decide +kernel
theorem dX3_init_4 : decode cX3_init 4 = .ok (.aload_n 0, 1) := by decide +kernel
theorem dX3_init_5 : decode cX3_init 5 = .ok (.bipush 40, 2) := by decide +kernel
theorem dX3_init_7 : decode cX3_init 7 = .ok (.newarray .int, 2) := by decide +kernel
theorem dX3_init_9 : decode cX3_init 9 = .ok (.putfield 9, 3) := by decide +kernel
theorem dX3_init_12 : decode cX3_init 12 = .ok (.aload_n 0, 1) := by decide +kernel
theorem dX3_init_13 : decode cX3_init 13 = .ok (.bipush 40, 2) := by decide +kernel
theorem dX3_init_15 : decode cX3_init 15 = .ok (.newarray .int, 2) := by decide +kernel
theorem dX3_init_17 : decode cX3_init 17 = .ok (.putfield 15, 3) := by decide +kernel
theorem dX3_init_20 : decode cX3_init 20 = .ok (.aload_n 0, 1) := by decide +kernel
theorem dX3_init_21 : decode cX3_init 21 = .ok (.bipush 40, 2) := by decide +kernel
theorem dX3_init_23 : decode cX3_init 23 = .ok (.newarray .int, 2) := by decide +kernel
theorem dX3_init_25 : decode cX3_init 25 = .ok (.putfield 18, 3) := by decide +kernel
theorem dX3_init_28 : decode cX3_init 28 = .ok (.aload_n 0, 1) := by decide +kernel
theorem dX3_init_29 : decode cX3_init 29 = .ok (.bipush 24, 2) := by decide +kernel
theorem dX3_init_31 : decode cX3_init 31 = .ok (.newarray .int, 2) := by decide +kernel
theorem dX3_init_33 : decode cX3_init 33 = .ok (.putfield 21, 3) := by decide +kernel
theorem dX3_init_36 : decode cX3_init 36 = .ok (.aload_n 0, 1) := by decide +kernel
theorem dX3_init_37 : decode cX3_init 37 = .ok (.bipush 40, 2) := by decide +kernel
theorem dX3_init_39 : decode cX3_init 39 = .ok (.newarray .int, 2) := by decide +kernel
theorem dX3_init_41 : decode cX3_init 41 = .ok (.putfield 24, 3) := by decide +kernel
theorem dX3_init_44 : decode cX3_init 44 = .ok (.aload_n 0, 1) := by decide +kernel
theorem dX3_init_45 : decode cX3_init 45 = .ok (.bipush 24, 2) := by decide +kernel
theorem dX3_init_47 : decode cX3_init 47 = .ok (.newarray .int, 2) := by decide +kernel
theorem dX3_init_49 : decode cX3_init 49 = .ok (.putfield 27, 3) := by decide +kernel
theorem dX3_init_52 : decode cX3_init 52 = .ok (.aload_n 0, 1) := by decide +kernel
theorem dX3_init_53 : decode cX3_init 53 = .ok (.bipush 24, 2) := by decide +kernel
theorem dX3_init_55 : decode cX3_init 55 = .ok (.newarray .int, 2) := by decide +kernel
theorem dX3_init_57 : decode cX3_init 57 = .ok (.putfield 30, 3) := by decide +kernel
theorem dX3_init_60 : decode cX3_init 60 = .ok (.iconst 0, 1) := by decide +kernel
theorem dX3_init_61 : decode cX3_init 61 = .ok (.istore_n 1, 1) := by decide +kernel
theorem dX3_init_62 : decode cX3_init 62 = .ok (.iload_n 1, 1) := by decide +kernel
theorem dX3_init_63 : decode cX3_init 63 = .ok (.bipush 24, 2) := by decide +kernel
theorem dX3_init_65 : decode cX3_init 65 = .ok (.if_icmp .ge 16, 3) := by decide +kernel
theorem dX3_init_68 : decode cX3_init 68 = .ok (.aload_n 0, 1) := by decide +kernel
theorem dX3_init_69 : decode cX3_init 69 = .ok (.getfield 21, 3) := by decide +kernel
theorem dX3_init_72 : decode cX3_init 72 = .ok (.iload_n 1, 1) := by decide +kernel
theorem dX3_init_73 : decode cX3_init 73 = .ok (.iload_n 1, 1) := by decide +kernel
theorem dX3_init_74 : decode cX3_init 74 = .ok (.iastore, 1) := by decide +kernel
theorem dX3_init_75 : decode cX3_init 75 = .ok (.iinc 1 1, 3) := by decide +kernel
theorem dX3_init_78 : decode cX3_init 78 = .ok (.goto (-16), 3) := by decide +kernel
theorem dX3_init_81 : decode cX3_init 81 = .ok (.return_, 1) := by decide +kernel
set_option maxRecDepth 20000 in
theorem ggX3_isThere_X8_within : GoodIn wsX3_isThere wsX8_within := goodIn_r _ [5] (by decide +kernel) (by decide +kernel)
set_option maxRecDepth 20000 in
theorem gX3_isThere_X8_within_n37 : GoodIn wsX3_isThere (wsX8_within) := ggX3_isThere_X8_within
set_option maxRecDepth 20000 in
theorem ggX3_isThere_X8_holds : GoodIn wsX3_isThere wsX8_holds := goodIn_r _ [7] (by decide +kernel) (by decide +kernel)
set_option maxRecDepth 20000 in
theorem gX3_isThere_X8_holds_n45 : GoodIn wsX3_isThere (wsX8_holds) := ggX3_isThere_X8_holds
theorem dX3_isThere_0 : decode cX3_isThere 0 = .ok (.iload_n 1, 1) := by decide +kernel
theorem dX3_isThere_1 : decode cX3_isThere 1 = .ok (.aload_n 0, 1) := by decide +kernel
theorem dX3_isThere_2 : decode cX3_isThere 2 = .ok (.getfield 33, 3) := by decide +kernel
theorem dX3_isThere_5 : decode cX3_isThere 5 = .ok (.invokestatic 37, 3) := by decide +kernel
theorem dX3_isThere_8 : decode cX3_isThere 8 = .ok (.ifCond .eq 18, 3) := by decide +kernel
theorem dX3_isThere_11 : decode cX3_isThere 11 = .ok (.aload_n 0, 1) := by decide +kernel
theorem dX3_isThere_12 : decode cX3_isThere 12 = .ok (.getfield 41, 3) := by decide +kernel
theorem dX3_isThere_15 : decode cX3_isThere 15 = .ok (.iload_n 1, 1) := by decide +kernel
theorem dX3_isThere_16 : decode cX3_isThere 16 = .ok (.invokestatic 45, 3) := by decide +kernel
theorem dX3_isThere_19 : decode cX3_isThere 19 = .ok (.ifCond .eq 7, 3) := by decide +kernel
theorem dX3_isThere_22 : decode cX3_isThere 22 = .ok (.iconst 1, 1) := by decide +kernel
end
section
theorem dX3_isThere_23 : decode cX3_isThere 23 = .ok (.goto 4, 3) := by decide +kernel
theorem dX3_isThere_26 : decode cX3_isThere 26 = .ok (.iconst 0, 1) := by decide +kernel
theorem dX3_isThere_27 : decode cX3_isThere 27 = .ok (.ireturn, 1) := by decide +kernel
theorem dX3_leads_0 : decode cX3_leads 0 = .ok (.aload_n 0, 1) := by decide +kernel
theorem dX3_leads_1 : decode cX3_leads 1 = .ok (.getfield 27, 3) := by decide +kernel
theorem dX3_leads_4 : decode cX3_leads 4 = .ok (.iload_n 2, 1) := by decide +kernel
theorem dX3_leads_5 : decode cX3_leads 5 = .ok (.iaload, 1) := by decide +kernel
theorem dX3_leads_6 : decode cX3_leads 6 = .ok (.istore_n 3, 1) := by decide +kernel
theorem dX3_leads_7 : decode cX3_leads 7 = .ok (.iload_n 3, 1) := by decide +kernel
theorem dX3_leads_8 : decode cX3_leads 8 = .ok (.aload_n 0, 1) := by decide +kernel
theorem dX3_leads_9 : decode cX3_leads 9 = .ok (.getfield 30, 3) := by decide +kernel
theorem dX3_leads_12 : decode cX3_leads 12 = .ok (.iload_n 2, 1) := by decide +kernel
theorem dX3_leads_13 : decode cX3_leads 13 = .ok (.iaload, 1) := by decide +kernel
theorem dX3_leads_14 : decode cX3_leads 14 = .ok (.if_icmp .ge 26, 3) := by decide +kernel
theorem dX3_leads_17 : decode cX3_leads 17 = .ok (.aload_n 0, 1) := by decide +kernel
theorem dX3_leads_18 : decode cX3_leads 18 = .ok (.getfield 9, 3) := by decide +kernel
theorem dX3_leads_21 : decode cX3_leads 21 = .ok (.aload_n 0, 1) := by decide +kernel
theorem dX3_leads_22 : decode cX3_leads 22 = .ok (.getfield 24, 3) := by decide +kernel
theorem dX3_leads_25 : decode cX3_leads 25 = .ok (.iload_n 3, 1) := by decide +kernel
theorem dX3_leads_26 : decode cX3_leads 26 = .ok (.iaload, 1) := by decide +kernel
theorem dX3_leads_27 : decode cX3_leads 27 = .ok (.iaload, 1) := by decide +kernel
theorem dX3_leads_28 : decode cX3_leads 28 = .ok (.iload_n 1, 1) := by decide +kernel
theorem dX3_leads_29 : decode cX3_leads 29 = .ok (.if_icmp .ne 5, 3) := by decide +kernel
theorem dX3_leads_32 : decode cX3_leads 32 = .ok (.iconst 1, 1) := by decide +kernel
theorem dX3_leads_33 : decode cX3_leads 33 = .ok (.ireturn, 1) := by decide +kernel
theorem dX3_leads_34 : decode cX3_leads 34 = .ok (.iinc 3 1, 3) := by decide +kernel
theorem dX3_leads_37 : decode cX3_leads 37 = .ok (.goto (-30), 3) := by decide +kernel
theorem dX3_leads_40 : decode cX3_leads 40 = .ok (.iconst 0, 1) := by decide +kernel
theorem dX3_leads_41 : decode cX3_leads 41 = .ok (.ireturn, 1) := by decide +kernel
set_option maxRecDepth 20000 in
theorem ggX3_add_X3_sortJoins : GoodIn wsX3_add wsX3_sortJoins := goodIn_r _ [10, 11, 1, 3, 5, 12, 13, 14, 15, 16, 26, 27, 28, 29, 30, 31, 32, 33, 34] (by decide +kernel) (by decide +kernel)
set_option maxRecDepth 20000 in
theorem gX3_add_X3_sortJoins : GoodIn wsX3_add (wsV RX3 49 RX3 yX3_sortJoins wsX3_sortJoins) := goodIn_app (goodIn_of _ (by decide +kernel)) ggX3_add_X3_sortJoins
set_option maxRecDepth 20000 in
theorem ggX3_add_X3_orderParts : GoodIn wsX3_add wsX3_orderParts := goodIn_r _ [20, 21, 14, 15, 16, 22, 23, 24, 9, 25, 11, 13, 2, 12, 26, 27, 28, 29, 30, 31, 32, 33, 34] (by decide +kernel) (by decide +kernel)
set_option maxRecDepth 20000 in
theorem gX3_add_X3_orderParts : GoodIn wsX3_add (wsV RX3 52 RX3 yX3_orderParts wsX3_orderParts) := goodIn_app (goodIn_of _ (by decide +kernel)) ggX3_add_X3_orderParts
theorem dX3_add_0 : decode cX3_add 0 = .ok (.aload_n 0, 1) := by decide +kernel
theorem dX3_add_1 : decode cX3_add 1 = .ok (.getfield 33, 3) := by decide +kernel
theorem dX3_add_4 : decode cX3_add 4 = .ok (.istore 4, 2) := by decide +kernel
theorem dX3_add_6 : decode cX3_add 6 = .ok (.aload_n 0, 1) := by decide +kernel
theorem dX3_add_7 : decode cX3_add 7 = .ok (.dup, 1) := by decide +kernel
theorem dX3_add_8 : decode cX3_add 8 = .ok (.getfield 33, 3) := by decide +kernel
theorem dX3_add_11 : decode cX3_add 11 = .ok (.iconst 1, 1) := by decide +kernel
theorem dX3_add_12 : decode cX3_add 12 = .ok (.iadd, 1) := by decide +kernel
theorem dX3_add_13 : decode cX3_add 13 = .ok (.putfield 33, 3) := by decide +kernel
theorem dX3_add_16 : decode cX3_add 16 = .ok (.aload_n 0, 1) := by decide +kernel
theorem dX3_add_17 : decode cX3_add 17 = .ok (.getfield 9, 3) := by decide +kernel
theorem dX3_add_20 : decode cX3_add 20 = .ok (.iload 4, 2) := by decide +kernel
theorem dX3_add_22 : decode cX3_add 22 = .ok (.iload_n 1, 1) := by decide +kernel
theorem dX3_add_23 : decode cX3_add 23 = .ok (.iastore, 1) := by decide +kernel
theorem dX3_add_24 : decode cX3_add 24 = .ok (.aload_n 0, 1) := by decide +kernel
theorem dX3_add_25 : decode cX3_add 25 = .ok (.getfield 15, 3) := by decide +kernel
theorem dX3_add_28 : decode cX3_add 28 = .ok (.iload 4, 2) := by decide +kernel
theorem dX3_add_30 : decode cX3_add 30 = .ok (.iload_n 2, 1) := by decide +kernel
theorem dX3_add_31 : decode cX3_add 31 = .ok (.iastore, 1) := by decide +kernel
theorem dX3_add_32 : decode cX3_add 32 = .ok (.aload_n 0, 1) := by decide +kernel
theorem dX3_add_33 : decode cX3_add 33 = .ok (.getfield 18, 3) := by decide +kernel
theorem dX3_add_36 : decode cX3_add 36 = .ok (.iload 4, 2) := by decide +kernel
theorem dX3_add_38 : decode cX3_add 38 = .ok (.iload_n 3, 1) := by decide +kernel
theorem dX3_add_39 : decode cX3_add 39 = .ok (.iastore, 1) := by decide +kernel
theorem dX3_add_40 : decode cX3_add 40 = .ok (.aload_n 0, 1) := by decide +kernel
theorem dX3_add_41 : decode cX3_add 41 = .ok (.dup, 1) := by decide +kernel
theorem dX3_add_42 : decode cX3_add 42 = .ok (.getfield 41, 3) := by decide +kernel
theorem dX3_add_45 : decode cX3_add 45 = .ok (.lconst 1, 1) := by decide +kernel
theorem dX3_add_46 : decode cX3_add 46 = .ok (.iload 4, 2) := by decide +kernel
theorem dX3_add_48 : decode cX3_add 48 = .ok (.lshl, 1) := by decide +kernel
theorem dX3_add_49 : decode cX3_add 49 = .ok (.lor, 1) := by decide +kernel
theorem dX3_add_50 : decode cX3_add 50 = .ok (.putfield 41, 3) := by decide +kernel
theorem dX3_add_53 : decode cX3_add 53 = .ok (.aload_n 0, 1) := by decide +kernel
theorem dX3_add_54 : decode cX3_add 54 = .ok (.invokevirtual 49, 3) := by decide +kernel
theorem dX3_add_57 : decode cX3_add 57 = .ok (.aload_n 0, 1) := by decide +kernel
theorem dX3_add_58 : decode cX3_add 58 = .ok (.invokevirtual 52, 3) := by decide +kernel
theorem dX3_add_61 : decode cX3_add 61 = .ok (.iload 4, 2) := by decide +kernel
theorem dX3_add_63 : decode cX3_add 63 = .ok (.ireturn, 1) := by decide +kernel
set_option maxRecDepth 20000 in
theorem ggX3_remove_X3_sortJoins : GoodIn wsX3_remove wsX3_sortJoins := goodIn_r _ [7, 8, 9, 10, 1, 11, 12, 13, 14, 15, 16, 17, 18, 19, 20, 21, 22, 23, 24] (by decide +kernel) (by decide +kernel)
set_option maxRecDepth 20000 in
theorem gX3_remove_X3_sortJoins : GoodIn wsX3_remove (wsV RX3 49 RX3 yX3_sortJoins wsX3_sortJoins) := goodIn_app (goodIn_of _ (by decide +kernel)) ggX3_remove_X3_sortJoins
theorem dX3_remove_0 : decode cX3_remove 0 = .ok (.aload_n 0, 1) := by decide +kernel
theorem dX3_remove_1 : decode cX3_remove 1 = .ok (.dup, 1) := by decide +kernel
theorem dX3_remove_2 : decode cX3_remove 2 = .ok (.getfield 41, 3) := by decide +kernel
theorem dX3_remove_5 : decode cX3_remove 5 = .ok (.lconst 1, 1) := by decide +kernel
theorem dX3_remove_6 : decode cX3_remove 6 = .ok (.iload_n 1, 1) := by decide +kernel
theorem dX3_remove_7 : decode cX3_remove 7 = .ok (.lshl, 1) := by decide +kernel
theorem dX3_remove_8 : decode cX3_remove 8 = .ok (.ldc2_w 55, 3) := by decide +kernel
theorem dX3_remove_11 : decode cX3_remove 11 = .ok (.lxor, 1) := by decide +kernel
theorem dX3_remove_12 : decode cX3_remove 12 = .ok (.land, 1) := by decide +kernel
theorem dX3_remove_13 : decode cX3_remove 13 = .ok (.putfield 41, 3) := by decide +kernel
theorem dX3_remove_16 : decode cX3_remove 16 = .ok (.aload_n 0, 1) := by decide +kernel
theorem dX3_remove_17 : decode cX3_remove 17 = .ok (.invokevirtual 49, 3) := by decide +kernel
theorem dX3_remove_20 : decode cX3_remove 20 = .ok (.return_, 1) := by decide +kernel
set_option maxRecDepth 20000 in
theorem ggX3_sortJoins_X8_holds : GoodIn wsX3_sortJoins wsX8_holds := goodIn_r _ [9] (by decide +kernel) (by decide +kernel)
set_option maxRecDepth 20000 in
theorem gX3_sortJoins_X8_holds_n45 : GoodIn wsX3_sortJoins (wsX8_holds) := ggX3_sortJoins_X8_holds
theorem dX3_sortJoins_0 : decode cX3_sortJoins 0 = .ok (.iconst 0, 1) := by decide +kernel
theorem dX3_sortJoins_1 : decode cX3_sortJoins 1 = .ok (.istore_n 1, 1) := by decide +kernel
theorem dX3_sortJoins_2 : decode cX3_sortJoins 2 = .ok (.iconst 0, 1) := by decide +kernel
theorem dX3_sortJoins_3 : decode cX3_sortJoins 3 = .ok (.istore_n 2, 1) := by decide +kernel
theorem dX3_sortJoins_4 : decode cX3_sortJoins 4 = .ok (.iload_n 2, 1) := by decide +kernel
theorem dX3_sortJoins_5 : decode cX3_sortJoins 5 = .ok (.bipush 24, 2) := by decide +kernel
theorem dX3_sortJoins_7 : decode cX3_sortJoins 7 = .ok (.if_icmp .ge 76, 3) := by decide +kernel
theorem dX3_sortJoins_10 : decode cX3_sortJoins 10 = .ok (.aload_n 0, 1) := by decide +kernel
theorem dX3_sortJoins_11 : decode cX3_sortJoins 11 = .ok (.getfield 27, 3) := by decide +kernel
theorem dX3_sortJoins_14 : decode cX3_sortJoins 14 = .ok (.iload_n 2, 1) := by decide +kernel
theorem dX3_sortJoins_15 : decode cX3_sortJoins 15 = .ok (.iload_n 1, 1) := by decide +kernel
theorem dX3_sortJoins_16 : decode cX3_sortJoins 16 = .ok (.iastore, 1) := by decide +kernel
theorem dX3_sortJoins_17 : decode cX3_sortJoins 17 = .ok (.iconst 0, 1) := by decide +kernel
theorem dX3_sortJoins_18 : decode cX3_sortJoins 18 = .ok (.istore_n 3, 1) := by decide +kernel
theorem dX3_sortJoins_19 : decode cX3_sortJoins 19 = .ok (.iload_n 3, 1) := by decide +kernel
theorem dX3_sortJoins_20 : decode cX3_sortJoins 20 = .ok (.aload_n 0, 1) := by decide +kernel
theorem dX3_sortJoins_21 : decode cX3_sortJoins 21 = .ok (.getfield 33, 3) := by decide +kernel
theorem dX3_sortJoins_24 : decode cX3_sortJoins 24 = .ok (.if_icmp .ge 46, 3) := by decide +kernel
theorem dX3_sortJoins_27 : decode cX3_sortJoins 27 = .ok (.aload_n 0, 1) := by decide +kernel
theorem dX3_sortJoins_28 : decode cX3_sortJoins 28 = .ok (.getfield 15, 3) := by decide +kernel
theorem dX3_sortJoins_31 : decode cX3_sortJoins 31 = .ok (.iload_n 3, 1) := by decide +kernel
theorem dX3_sortJoins_32 : decode cX3_sortJoins 32 = .ok (.iaload, 1) := by decide +kernel
theorem dX3_sortJoins_33 : decode cX3_sortJoins 33 = .ok (.iload_n 2, 1) := by decide +kernel
theorem dX3_sortJoins_34 : decode cX3_sortJoins 34 = .ok (.if_icmp .ne 30, 3) := by decide +kernel
theorem dX3_sortJoins_37 : decode cX3_sortJoins 37 = .ok (.aload_n 0, 1) := by decide +kernel
theorem dX3_sortJoins_38 : decode cX3_sortJoins 38 = .ok (.getfield 41, 3) := by decide +kernel
theorem dX3_sortJoins_41 : decode cX3_sortJoins 41 = .ok (.iload_n 3, 1) := by decide +kernel
theorem dX3_sortJoins_42 : decode cX3_sortJoins 42 = .ok (.invokestatic 45, 3) := by decide +kernel
theorem dX3_sortJoins_45 : decode cX3_sortJoins 45 = .ok (.ifCond .eq 19, 3) := by decide +kernel
theorem dX3_sortJoins_48 : decode cX3_sortJoins 48 = .ok (.iload_n 1, 1) := by decide +kernel
theorem dX3_sortJoins_49 : decode cX3_sortJoins 49 = .ok (.bipush 40, 2) := by decide +kernel
theorem dX3_sortJoins_51 : decode cX3_sortJoins 51 = .ok (.if_icmp .ge 13, 3) := by decide +kernel
theorem dX3_sortJoins_54 : decode cX3_sortJoins 54 = .ok (.aload_n 0, 1) := by decide +kernel
theorem dX3_sortJoins_55 : decode cX3_sortJoins 55 = .ok (.getfield 24, 3) := by decide +kernel
theorem dX3_sortJoins_58 : decode cX3_sortJoins 58 = .ok (.iload_n 1, 1) := by decide +kernel
theorem dX3_sortJoins_59 : decode cX3_sortJoins 59 = .ok (.iload_n 3, 1) := by decide +kernel
theorem dX3_sortJoins_60 : decode cX3_sortJoins 60 = .ok (.iastore, 1) := by decide +kernel
theorem dX3_sortJoins_61 : decode cX3_sortJoins 61 = .ok (.iinc 1 1, 3) := by decide +kernel
theorem dX3_sortJoins_64 : decode cX3_sortJoins 64 = .ok (.iinc 3 1, 3) := by decide +kernel
theorem dX3_sortJoins_67 : decode cX3_sortJoins 67 = .ok (.goto (-48), 3) := by decide +kernel
theorem dX3_sortJoins_70 : decode cX3_sortJoins 70 = .ok (.aload_n 0, 1) := by decide +kernel
theorem dX3_sortJoins_71 : decode cX3_sortJoins 71 = .ok (.getfield 30, 3) := by decide +kernel
theorem dX3_sortJoins_74 : decode cX3_sortJoins 74 = .ok (.iload_n 2, 1) := by decide +kernel
theorem dX3_sortJoins_75 : decode cX3_sortJoins 75 = .ok (.iload_n 1, 1) := by decide +kernel
theorem dX3_sortJoins_76 : decode cX3_sortJoins 76 = .ok (.iastore, 1) := by decide +kernel
theorem dX3_sortJoins_77 : decode cX3_sortJoins 77 = .ok (.iinc 2 1, 3) := by decide +kernel
theorem dX3_sortJoins_80 : decode cX3_sortJoins 80 = .ok (.goto (-76), 3) := by decide +kernel
theorem dX3_sortJoins_83 : decode cX3_sortJoins 83 = .ok (.return_, 1) := by decide +kernel
set_option maxRecDepth 20000 in
theorem ggX3_orderParts_X8_holds : GoodIn wsX3_orderParts wsX8_holds := goodIn_r _ [4] (by decide +kernel) (by decide +kernel)
set_option maxRecDepth 20000 in
theorem gX3_orderParts_X8_holds_n45 : GoodIn wsX3_orderParts (wsX8_holds) := ggX3_orderParts_X8_holds
set_option maxRecDepth 20000 in
theorem ggX3_orderParts_X3_directlyIn : GoodIn wsX3_orderParts wsX3_directlyIn := goodIn_r _ [9, 10, 11, 12, 13, 14, 15, 16, 17, 18, 19, 20, 21, 22] (by decide +kernel) (by decide +kernel)
set_option maxRecDepth 20000 in
theorem gX3_orderParts_X3_directlyIn : GoodIn wsX3_orderParts (wsV RX3 57 RX3 yX3_directlyIn wsX3_directlyIn) := goodIn_app (goodIn_of _ (by decide +kernel)) ggX3_orderParts_X3_directlyIn
theorem dX3_orderParts_0 : decode cX3_orderParts 0 = .ok (.iconst 0, 1) := by decide +kernel
theorem dX3_orderParts_1 : decode cX3_orderParts 1 = .ok (.istore_n 1, 1) := by decide +kernel
theorem dX3_orderParts_2 : decode cX3_orderParts 2 = .ok (.iconst 0, 1) := by decide +kernel
theorem dX3_orderParts_3 : decode cX3_orderParts 3 = .ok (.istore_n 2, 1) := by decide +kernel
theorem dX3_orderParts_4 : decode cX3_orderParts 4 = .ok (.iconst 0, 1) := by decide +kernel
theorem dX3_orderParts_5 : decode cX3_orderParts 5 = .ok (.istore_n 3, 1) := by decide +kernel
theorem dX3_orderParts_6 : decode cX3_orderParts 6 = .ok (.iload_n 3, 1) := by decide +kernel
theorem dX3_orderParts_7 : decode cX3_orderParts 7 = .ok (.bipush 24, 2) := by decide +kernel
theorem dX3_orderParts_9 : decode cX3_orderParts 9 = .ok (.if_icmp .ge 78, 3) := by decide +kernel
theorem dX3_orderParts_12 : decode cX3_orderParts 12 = .ok (.iload_n 2, 1) := by decide +kernel
theorem dX3_orderParts_13 : decode cX3_orderParts 13 = .ok (.bipush 24, 2) := by decide +kernel
theorem dX3_orderParts_15 : decode cX3_orderParts 15 = .ok (.if_icmp .ge 72, 3) := by decide +kernel
theorem dX3_orderParts_18 : decode cX3_orderParts 18 = .ok (.iconst 0, 1) := by decide +kernel
theorem dX3_orderParts_19 : decode cX3_orderParts 19 = .ok (.istore 4, 2) := by decide +kernel
theorem dX3_orderParts_21 : decode cX3_orderParts 21 = .ok (.iload 4, 2) := by decide +kernel
theorem dX3_orderParts_23 : decode cX3_orderParts 23 = .ok (.bipush 24, 2) := by decide +kernel
theorem dX3_orderParts_25 : decode cX3_orderParts 25 = .ok (.if_icmp .ge 56, 3) := by decide +kernel
theorem dX3_orderParts_28 : decode cX3_orderParts 28 = .ok (.iload_n 2, 1) := by decide +kernel
theorem dX3_orderParts_29 : decode cX3_orderParts 29 = .ok (.bipush 24, 2) := by decide +kernel
theorem dX3_orderParts_31 : decode cX3_orderParts 31 = .ok (.if_icmp .ge 50, 3) := by decide +kernel
theorem dX3_orderParts_34 : decode cX3_orderParts 34 = .ok (.iload_n 1, 1) := by decide +kernel
theorem dX3_orderParts_35 : decode cX3_orderParts 35 = .ok (.i2l, 1) := by decide +kernel
theorem dX3_orderParts_36 : decode cX3_orderParts 36 = .ok (.iload 4, 2) := by decide +kernel
theorem dX3_orderParts_38 : decode cX3_orderParts 38 = .ok (.invokestatic 45, 3) := by decide +kernel
theorem dX3_orderParts_41 : decode cX3_orderParts 41 = .ok (.ifCond .ne 34, 3) := by decide +kernel
theorem dX3_orderParts_44 : decode cX3_orderParts 44 = .ok (.aload_n 0, 1) := by decide +kernel
theorem dX3_orderParts_45 : decode cX3_orderParts 45 = .ok (.iload 4, 2) := by decide +kernel
theorem dX3_orderParts_47 : decode cX3_orderParts 47 = .ok (.invokevirtual 57, 3) := by decide +kernel
theorem dX3_orderParts_50 : decode cX3_orderParts 50 = .ok (.iload_n 1, 1) := by decide +kernel
theorem dX3_orderParts_51 : decode cX3_orderParts 51 = .ok (.iconst (-1), 1) := by decide +kernel
theorem dX3_orderParts_52 : decode cX3_orderParts 52 = .ok (.ixor, 1) := by decide +kernel
theorem dX3_orderParts_53 : decode cX3_orderParts 53 = .ok (.iand, 1) := by decide +kernel
theorem dX3_orderParts_54 : decode cX3_orderParts 54 = .ok (.ifCond .ne 21, 3) := by decide +kernel
theorem dX3_orderParts_57 : decode cX3_orderParts 57 = .ok (.aload_n 0, 1) := by decide +kernel
theorem dX3_orderParts_58 : decode cX3_orderParts 58 = .ok (.getfield 21, 3) := by decide +kernel
theorem dX3_orderParts_61 : decode cX3_orderParts 61 = .ok (.iload_n 2, 1) := by decide +kernel
theorem dX3_orderParts_62 : decode cX3_orderParts 62 = .ok (.iload 4, 2) := by decide +kernel
theorem dX3_orderParts_64 : decode cX3_orderParts 64 = .ok (.iastore, 1) := by decide +kernel
theorem dX3_orderParts_65 : decode cX3_orderParts 65 = .ok (.iinc 2 1, 3) := by decide +kernel
theorem dX3_orderParts_68 : decode cX3_orderParts 68 = .ok (.iload_n 1, 1) := by decide +kernel
theorem dX3_orderParts_69 : decode cX3_orderParts 69 = .ok (.iconst 1, 1) := by decide +kernel
theorem dX3_orderParts_70 : decode cX3_orderParts 70 = .ok (.iload 4, 2) := by decide +kernel
theorem dX3_orderParts_72 : decode cX3_orderParts 72 = .ok (.ishl, 1) := by decide +kernel
theorem dX3_orderParts_73 : decode cX3_orderParts 73 = .ok (.ior, 1) := by decide +kernel
theorem dX3_orderParts_74 : decode cX3_orderParts 74 = .ok (.istore_n 1, 1) := by decide +kernel
theorem dX3_orderParts_75 : decode cX3_orderParts 75 = .ok (.iinc 4 1, 3) := by decide +kernel
theorem dX3_orderParts_78 : decode cX3_orderParts 78 = .ok (.goto (-57), 3) := by decide +kernel
theorem dX3_orderParts_81 : decode cX3_orderParts 81 = .ok (.iinc 3 1, 3) := by decide +kernel
theorem dX3_orderParts_84 : decode cX3_orderParts 84 = .ok (.goto (-78), 3) := by decide +kernel
theorem dX3_orderParts_87 : decode cX3_orderParts 87 = .ok (.return_, 1) := by decide +kernel
theorem dX3_directlyIn_0 : decode cX3_directlyIn 0 = .ok (.iconst 0, 1) := by decide +kernel
theorem dX3_directlyIn_1 : decode cX3_directlyIn 1 = .ok (.istore_n 2, 1) := by decide +kernel
theorem dX3_directlyIn_2 : decode cX3_directlyIn 2 = .ok (.aload_n 0, 1) := by decide +kernel
theorem dX3_directlyIn_3 : decode cX3_directlyIn 3 = .ok (.getfield 27, 3) := by decide +kernel
theorem dX3_directlyIn_6 : decode cX3_directlyIn 6 = .ok (.iload_n 1, 1) := by decide +kernel
theorem dX3_directlyIn_7 : decode cX3_directlyIn 7 = .ok (.iaload, 1) := by decide +kernel
theorem dX3_directlyIn_8 : decode cX3_directlyIn 8 = .ok (.istore_n 3, 1) := by decide +kernel
theorem dX3_directlyIn_9 : decode cX3_directlyIn 9 = .ok (.iload_n 3, 1) := by decide +kernel
theorem dX3_directlyIn_10 : decode cX3_directlyIn 10 = .ok (.aload_n 0, 1) := by decide +kernel
theorem dX3_directlyIn_11 : decode cX3_directlyIn 11 = .ok (.getfield 30, 3) := by decide +kernel
theorem dX3_directlyIn_14 : decode cX3_directlyIn 14 = .ok (.iload_n 1, 1) := by decide +kernel
theorem dX3_directlyIn_15 : decode cX3_directlyIn 15 = .ok (.iaload, 1) := by decide +kernel
theorem dX3_directlyIn_16 : decode cX3_directlyIn 16 = .ok (.if_icmp .ge 25, 3) := by decide +kernel
theorem dX3_directlyIn_19 : decode cX3_directlyIn 19 = .ok (.iload_n 2, 1) := by decide +kernel
theorem dX3_directlyIn_20 : decode cX3_directlyIn 20 = .ok (.iconst 1, 1) := by decide +kernel
theorem dX3_directlyIn_21 : decode cX3_directlyIn 21 = .ok (.aload_n 0, 1) := by decide +kernel
theorem dX3_directlyIn_22 : decode cX3_directlyIn 22 = .ok (.getfield 9, 3) := by decide +kernel
theorem dX3_directlyIn_25 : decode cX3_directlyIn 25 = .ok (.aload_n 0, 1) := by decide +kernel
theorem dX3_directlyIn_26 : decode cX3_directlyIn 26 = .ok (.getfield 24, 3) := by decide +kernel
theorem dX3_directlyIn_29 : decode cX3_directlyIn 29 = .ok (.iload_n 3, 1) := by decide +kernel
theorem dX3_directlyIn_30 : decode cX3_directlyIn 30 = .ok (.iaload, 1) := by decide +kernel
theorem dX3_directlyIn_31 : decode cX3_directlyIn 31 = .ok (.iaload, 1) := by decide +kernel
theorem dX3_directlyIn_32 : decode cX3_directlyIn 32 = .ok (.ishl, 1) := by decide +kernel
theorem dX3_directlyIn_33 : decode cX3_directlyIn 33 = .ok (.ior, 1) := by decide +kernel
theorem dX3_directlyIn_34 : decode cX3_directlyIn 34 = .ok (.istore_n 2, 1) := by decide +kernel
theorem dX3_directlyIn_35 : decode cX3_directlyIn 35 = .ok (.iinc 3 1, 3) := by decide +kernel
theorem dX3_directlyIn_38 : decode cX3_directlyIn 38 = .ok (.goto (-29), 3) := by decide +kernel
theorem dX3_directlyIn_41 : decode cX3_directlyIn 41 = .ok (.iload_n 2, 1) := by decide +kernel
theorem dX3_directlyIn_42 : decode cX3_directlyIn 42 = .ok (.ireturn, 1) := by decide +kernel
set_option maxRecDepth 20000 in
theorem ggX3_allIn_X8_holds : GoodIn wsX3_allIn wsX8_holds := goodIn_r _ [8] (by decide +kernel) (by decide +kernel)
set_option maxRecDepth 20000 in
theorem gX3_allIn_X8_holds_n45 : GoodIn wsX3_allIn (wsX8_holds) := ggX3_allIn_X8_holds
theorem dX3_allIn_0 : decode cX3_allIn 0 = .ok (.iconst 1, 1) := by decide +kernel
theorem dX3_allIn_1 : decode cX3_allIn 1 = .ok (.iload_n 1, 1) := by decide +kernel
theorem dX3_allIn_2 : decode cX3_allIn 2 = .ok (.ishl, 1) := by decide +kernel
theorem dX3_allIn_3 : decode cX3_allIn 3 = .ok (.istore 4, 2) := by decide +kernel
theorem dX3_allIn_5 : decode cX3_allIn 5 = .ok (.bipush 23, 2) := by decide +kernel
theorem dX3_allIn_7 : decode cX3_allIn 7 = .ok (.istore 5, 2) := by decide +kernel
theorem dX3_allIn_9 : decode cX3_allIn 9 = .ok (.iload 5, 2) := by decide +kernel
theorem dX3_allIn_11 : decode cX3_allIn 11 = .ok (.ifCond .lt 91, 3) := by decide +kernel
theorem dX3_allIn_14 : decode cX3_allIn 14 = .ok (.aload_n 0, 1) := by decide +kernel
theorem dX3_allIn_15 : decode cX3_allIn 15 = .ok (.getfield 21, 3) := by decide +kernel
theorem dX3_allIn_18 : decode cX3_allIn 18 = .ok (.iload 5, 2) := by decide +kernel
theorem dX3_allIn_20 : decode cX3_allIn 20 = .ok (.iaload, 1) := by decide +kernel
theorem dX3_allIn_21 : decode cX3_allIn 21 = .ok (.istore 6, 2) := by decide +kernel
theorem dX3_allIn_23 : decode cX3_allIn 23 = .ok (.iload 4, 2) := by decide +kernel
theorem dX3_allIn_25 : decode cX3_allIn 25 = .ok (.i2l, 1) := by decide +kernel
theorem dX3_allIn_26 : decode cX3_allIn 26 = .ok (.iload 6, 2) := by decide +kernel
theorem dX3_allIn_28 : decode cX3_allIn 28 = .ok (.invokestatic 45, 3) := by decide +kernel
theorem dX3_allIn_31 : decode cX3_allIn 31 = .ok (.ifCond .ne 6, 3) := by decide +kernel
theorem dX3_allIn_34 : decode cX3_allIn 34 = .ok (.goto 62, 3) := by decide +kernel
theorem dX3_allIn_37 : decode cX3_allIn 37 = .ok (.aload_n 0, 1) := by decide +kernel
theorem dX3_allIn_38 : decode cX3_allIn 38 = .ok (.getfield 27, 3) := by decide +kernel
theorem dX3_allIn_41 : decode cX3_allIn 41 = .ok (.iload 6, 2) := by decide +kernel
theorem dX3_allIn_43 : decode cX3_allIn 43 = .ok (.iaload, 1) := by decide +kernel
theorem dX3_allIn_44 : decode cX3_allIn 44 = .ok (.istore 7, 2) := by decide +kernel
theorem dX3_allIn_46 : decode cX3_allIn 46 = .ok (.iload 7, 2) := by decide +kernel
theorem dX3_allIn_48 : decode cX3_allIn 48 = .ok (.aload_n 0, 1) := by decide +kernel
theorem dX3_allIn_49 : decode cX3_allIn 49 = .ok (.getfield 30, 3) := by decide +kernel
theorem dX3_allIn_52 : decode cX3_allIn 52 = .ok (.iload 6, 2) := by decide +kernel
theorem dX3_allIn_54 : decode cX3_allIn 54 = .ok (.iaload, 1) := by decide +kernel
theorem dX3_allIn_55 : decode cX3_allIn 55 = .ok (.if_icmp .ge 41, 3) := by decide +kernel
theorem dX3_allIn_58 : decode cX3_allIn 58 = .ok (.aload_n 0, 1) := by decide +kernel
theorem dX3_allIn_59 : decode cX3_allIn 59 = .ok (.getfield 24, 3) := by decide +kernel
theorem dX3_allIn_62 : decode cX3_allIn 62 = .ok (.iload 7, 2) := by decide +kernel
theorem dX3_allIn_64 : decode cX3_allIn 64 = .ok (.iaload, 1) := by decide +kernel
theorem dX3_allIn_65 : decode cX3_allIn 65 = .ok (.istore 8, 2) := by decide +kernel
theorem dX3_allIn_67 : decode cX3_allIn 67 = .ok (.lload_n 2, 1) := by decide +kernel
theorem dX3_allIn_68 : decode cX3_allIn 68 = .ok (.iload 8, 2) := by decide +kernel
theorem dX3_allIn_70 : decode cX3_allIn 70 = .ok (.invokestatic 45, 3) := by decide +kernel
theorem dX3_allIn_73 : decode cX3_allIn 73 = .ok (.ifCond .eq 17, 3) := by decide +kernel
theorem dX3_allIn_76 : decode cX3_allIn 76 = .ok (.iload 4, 2) := by decide +kernel
theorem dX3_allIn_78 : decode cX3_allIn 78 = .ok (.iconst 1, 1) := by decide +kernel
theorem dX3_allIn_79 : decode cX3_allIn 79 = .ok (.aload_n 0, 1) := by decide +kernel
theorem dX3_allIn_80 : decode cX3_allIn 80 = .ok (.getfield 9, 3) := by decide +kernel
theorem dX3_allIn_83 : decode cX3_allIn 83 = .ok (.iload 8, 2) := by decide +kernel
theorem dX3_allIn_85 : decode cX3_allIn 85 = .ok (.iaload, 1) := by decide +kernel
theorem dX3_allIn_86 : decode cX3_allIn 86 = .ok (.ishl, 1) := by decide +kernel
theorem dX3_allIn_87 : decode cX3_allIn 87 = .ok (.ior, 1) := by decide +kernel
theorem dX3_allIn_88 : decode cX3_allIn 88 = .ok (.istore 4, 2) := by decide +kernel
theorem dX3_allIn_90 : decode cX3_allIn 90 = .ok (.iinc 7 1, 3) := by decide +kernel
theorem dX3_allIn_93 : decode cX3_allIn 93 = .ok (.goto (-47), 3) := by decide +kernel
theorem dX3_allIn_96 : decode cX3_allIn 96 = .ok (.iinc 5 (-1), 3) := by decide +kernel
theorem dX3_allIn_99 : decode cX3_allIn 99 = .ok (.goto (-90), 3) := by decide +kernel
theorem dX3_allIn_102 : decode cX3_allIn 102 = .ok (.iload 4, 2) := by decide +kernel
theorem dX3_allIn_104 : decode cX3_allIn 104 = .ok (.ireturn, 1) := by decide +kernel
theorem dX3_countInto_0 : decode cX3_countInto 0 = .ok (.aload_n 0, 1) := by decide +kernel
theorem dX3_countInto_1 : decode cX3_countInto 1 = .ok (.getfield 30, 3) := by decide +kernel
theorem dX3_countInto_4 : decode cX3_countInto 4 = .ok (.iload_n 1, 1) := by decide +kernel
theorem dX3_countInto_5 : decode cX3_countInto 5 = .ok (.iaload, 1) := by decide +kernel
theorem dX3_countInto_6 : decode cX3_countInto 6 = .ok (.aload_n 0, 1) := by decide +kernel
theorem dX3_countInto_7 : decode cX3_countInto 7 = .ok (.getfield 27, 3) := by decide +kernel
theorem dX3_countInto_10 : decode cX3_countInto 10 = .ok (.iload_n 1, 1) := by decide +kernel
theorem dX3_countInto_11 : decode cX3_countInto 11 = .ok (.iaload, 1) := by decide +kernel
theorem dX3_countInto_12 : decode cX3_countInto 12 = .ok (.isub, 1) := by decide +kernel
theorem dX3_countInto_13 : decode cX3_countInto 13 = .ok (.ireturn, 1) := by decide +kernel
set_option maxRecDepth 20000 in
theorem ggX3_countOutOf_X8_holds : GoodIn wsX3_countOutOf wsX8_holds := goodIn_r _ [6] (by decide +kernel) (by decide +kernel)
set_option maxRecDepth 20000 in
theorem gX3_countOutOf_X8_holds_n45 : GoodIn wsX3_countOutOf (wsX8_holds) := ggX3_countOutOf_X8_holds
theorem dX3_countOutOf_0 : decode cX3_countOutOf 0 = .ok (.iconst 0, 1) := by decide +kernel
theorem dX3_countOutOf_1 : decode cX3_countOutOf 1 = .ok (.istore_n 2, 1) := by decide +kernel
theorem dX3_countOutOf_2 : decode cX3_countOutOf 2 = .ok (.iconst 0, 1) := by decide +kernel
theorem dX3_countOutOf_3 : decode cX3_countOutOf 3 = .ok (.istore_n 3, 1) := by decide +kernel
theorem dX3_countOutOf_4 : decode cX3_countOutOf 4 = .ok (.iload_n 3, 1) := by decide +kernel
theorem dX3_countOutOf_5 : decode cX3_countOutOf 5 = .ok (.aload_n 0, 1) := by decide +kernel
theorem dX3_countOutOf_6 : decode cX3_countOutOf 6 = .ok (.getfield 33, 3) := by decide +kernel
theorem dX3_countOutOf_9 : decode cX3_countOutOf 9 = .ok (.if_icmp .ge 33, 3) := by decide +kernel
theorem dX3_countOutOf_12 : decode cX3_countOutOf 12 = .ok (.aload_n 0, 1) := by decide +kernel
theorem dX3_countOutOf_13 : decode cX3_countOutOf 13 = .ok (.getfield 9, 3) := by decide +kernel
theorem dX3_countOutOf_16 : decode cX3_countOutOf 16 = .ok (.iload_n 3, 1) := by decide +kernel
theorem dX3_countOutOf_17 : decode cX3_countOutOf 17 = .ok (.iaload, 1) := by decide +kernel
theorem dX3_countOutOf_18 : decode cX3_countOutOf 18 = .ok (.iload_n 1, 1) := by decide +kernel
theorem dX3_countOutOf_19 : decode cX3_countOutOf 19 = .ok (.if_icmp .ne 17, 3) := by decide +kernel
theorem dX3_countOutOf_22 : decode cX3_countOutOf 22 = .ok (.aload_n 0, 1) := by decide +kernel
theorem dX3_countOutOf_23 : decode cX3_countOutOf 23 = .ok (.getfield 41, 3) := by decide +kernel
theorem dX3_countOutOf_26 : decode cX3_countOutOf 26 = .ok (.iload_n 3, 1) := by decide +kernel
theorem dX3_countOutOf_27 : decode cX3_countOutOf 27 = .ok (.invokestatic 45, 3) := by decide +kernel
theorem dX3_countOutOf_30 : decode cX3_countOutOf 30 = .ok (.ifCond .eq 6, 3) := by decide +kernel
theorem dX3_countOutOf_33 : decode cX3_countOutOf 33 = .ok (.iinc 2 1, 3) := by decide +kernel
theorem dX3_countOutOf_36 : decode cX3_countOutOf 36 = .ok (.iinc 3 1, 3) := by decide +kernel
theorem dX3_countOutOf_39 : decode cX3_countOutOf 39 = .ok (.goto (-35), 3) := by decide +kernel
theorem dX3_countOutOf_42 : decode cX3_countOutOf 42 = .ok (.iload_n 2, 1) := by decide +kernel
theorem dX3_countOutOf_43 : decode cX3_countOutOf 43 = .ok (.ireturn, 1) := by decide +kernel
theorem dX4_init_0 : decode cX4_init 0 = .ok (.aload_n 0, 1) := by decide +kernel
theorem dX4_init_1 : decode cX4_init 1 = .ok (.invokespecial 3, 3) := by decide +kernel
theorem dX4_init_4 : decode cX4_init 4 = .ok (.aload_n 0, 1) := by decide +kernel
theorem dX4_init_5 : decode cX4_init 5 = .ok (.bipush 24, 2) := by decide +kernel
theorem dX4_init_7 : decode cX4_init 7 = .ok (.newarray .int, 2) := by decide +kernel
theorem dX4_init_9 : decode cX4_init 9 = .ok (.putfield 9, 3) := by decide +kernel
theorem dX4_init_12 : decode cX4_init 12 = .ok (.aload_n 0, 1) := by decide +kernel
theorem dX4_init_13 : decode cX4_init 13 = .ok (.aload_n 1, 1) := by decide +kernel
theorem dX4_init_14 : decode cX4_init 14 = .ok (.putfield 15, 3) := by decide +kernel
theorem dX4_init_17 : decode cX4_init 17 = .ok (.aload_n 0, 1) := by decide +kernel
theorem dX4_init_18 : decode cX4_init 18 = .ok (.aload_n 2, 1) := by decide +kernel
theorem dX4_init_19 : decode cX4_init 19 = .ok (.putfield 19, 3) := by decide +kernel
theorem dX4_init_22 : decode cX4_init 22 = .ok (.aload_n 0, 1) := by decide +kernel
theorem dX4_init_23 : decode cX4_init 23 = .ok (.aload_n 3, 1) := by decide +kernel
theorem dX4_init_24 : decode cX4_init 24 = .ok (.putfield 23, 3) := by decide +kernel
theorem dX4_init_27 : decode cX4_init 27 = .ok (.aload_n 0, 1) := by decide +kernel
theorem dX4_init_28 : decode cX4_init 28 = .ok (.aload 4, 2) := by decide +kernel
theorem dX4_init_30 : decode cX4_init 30 = .ok (.putfield 27, 3) := by decide +kernel
theorem dX4_init_33 : decode cX4_init 33 = .ok (.return_, 1) := by decide +kernel
set_option maxRecDepth 20000 in
theorem ggX4_cheapestSet_X0_isBetter : GoodIn wsX4_cheapestSet wsX0_isBetter := goodIn_r _ [6, 7, 8, 9, 5, 10, 11, 12, 13, 14, 15, 16, 17, 18, 19, 20, 21, 22, 23, 24, 25, 26, 27, 28, 101, 102, 103, 104, 105] (by decide +kernel) (by decide +kernel)
set_option maxRecDepth 20000 in
theorem gX4_cheapestSet_X0_isBetter : GoodIn wsX4_cheapestSet (wsV RX4 37 RX0 yX0_isBetter wsX0_isBetter) := goodIn_app (goodIn_of _ (by decide +kernel)) ggX4_cheapestSet_X0_isBetter
set_option maxRecDepth 20000 in
theorem ggX4_cheapestSet_X4_endsQuarrels : GoodIn wsX4_cheapestSet wsX4_endsQuarrels := goodIn_r _ [33, 34, 35, 36, 37, 38, 39, 40, 1, 41, 42, 13, 14, 15, 43, 44, 45, 46, 47, 48, 49, 50, 51, 52, 53, 54, 55, 56, 57, 58, 59, 60, 61, 62, 63, 64, 65, 66, 67, 68, 69, 70, 71, 72, 73, 74, 75, 76, 77, 78, 79, 80, 81, 82, 83, 84, 85, 86, 87, 88, 89, 90, 91, 92, 93, 94, 95, 96, 97, 98, 99, 100, 106, 107, 108, 109, 110, 111, 112, 113, 114, 115, 116, 117, 118, 119, 120, 101, 102, 103, 104, 105, 121, 122, 123, 124, 125, 126, 127, 128] (by decide +kernel) (by decide +kernel)
set_option maxRecDepth 20000 in
theorem gX4_cheapestSet_X4_endsQuarrels : GoodIn wsX4_cheapestSet (wsV RX4 41 RX4 yX4_endsQuarrels wsX4_endsQuarrels) := goodIn_app (goodIn_of _ (by decide +kernel)) ggX4_cheapestSet_X4_endsQuarrels
theorem dX4_cheapestSet_0 : decode cX4_cheapestSet 0 = .ok (.iconst (-1), 1) := by decide +kernel
theorem dX4_cheapestSet_1 : decode cX4_cheapestSet 1 = .ok (.istore_n 2, 1) := by decide +kernel
theorem dX4_cheapestSet_2 : decode cX4_cheapestSet 2 = .ok (.iconst 1, 1) := by decide +kernel
theorem dX4_cheapestSet_3 : decode cX4_cheapestSet 3 = .ok (.aload_n 0, 1) := by decide +kernel
theorem dX4_cheapestSet_4 : decode cX4_cheapestSet 4 = .ok (.getfield 23, 3) := by decide +kernel
theorem dX4_cheapestSet_7 : decode cX4_cheapestSet 7 = .ok (.getfield 31, 3) := by decide +kernel
theorem dX4_cheapestSet_10 : decode cX4_cheapestSet 10 = .ok (.ishl, 1) := by decide +kernel
theorem dX4_cheapestSet_11 : decode cX4_cheapestSet 11 = .ok (.istore_n 3, 1) := by decide +kernel
theorem dX4_cheapestSet_12 : decode cX4_cheapestSet 12 = .ok (.iconst 0, 1) := by decide +kernel
theorem dX4_cheapestSet_13 : decode cX4_cheapestSet 13 = .ok (.istore 4, 2) := by decide +kernel
theorem dX4_cheapestSet_15 : decode cX4_cheapestSet 15 = .ok (.iload 4, 2) := by decide +kernel
theorem dX4_cheapestSet_17 : decode cX4_cheapestSet 17 = .ok (.iload_n 3, 1) := by decide +kernel
theorem dX4_cheapestSet_18 : decode cX4_cheapestSet 18 = .ok (.if_icmp .ge 40, 3) := by decide +kernel
theorem dX4_cheapestSet_21 : decode cX4_cheapestSet 21 = .ok (.iload_n 2, 1) := by decide +kernel
theorem dX4_cheapestSet_22 : decode cX4_cheapestSet 22 = .ok (.iconst (-1), 1) := by decide +kernel
theorem dX4_cheapestSet_23 : decode cX4_cheapestSet 23 = .ok (.if_icmp .eq 16, 3) := by decide +kernel
theorem dX4_cheapestSet_26 : decode cX4_cheapestSet 26 = .ok (.aload_n 0, 1) := by decide +kernel
theorem dX4_cheapestSet_27 : decode cX4_cheapestSet 27 = .ok (.getfield 23, 3) := by decide +kernel
theorem dX4_cheapestSet_30 : decode cX4_cheapestSet 30 = .ok (.iload 4, 2) := by decide +kernel
theorem dX4_cheapestSet_32 : decode cX4_cheapestSet 32 = .ok (.iload_n 2, 1) := by decide +kernel
theorem dX4_cheapestSet_33 : decode cX4_cheapestSet 33 = .ok (.invokevirtual 37, 3) := by decide +kernel
theorem dX4_cheapestSet_36 : decode cX4_cheapestSet 36 = .ok (.ifCond .eq 16, 3) := by decide +kernel
theorem dX4_cheapestSet_39 : decode cX4_cheapestSet 39 = .ok (.aload_n 0, 1) := by decide +kernel
theorem dX4_cheapestSet_40 : decode cX4_cheapestSet 40 = .ok (.iload_n 1, 1) := by decide +kernel
theorem dX4_cheapestSet_41 : decode cX4_cheapestSet 41 = .ok (.iload 4, 2) := by decide +kernel
theorem dX4_cheapestSet_43 : decode cX4_cheapestSet 43 = .ok (.invokevirtual 41, 3) := by decide +kernel
theorem dX4_cheapestSet_46 : decode cX4_cheapestSet 46 = .ok (.ifCond .eq 6, 3) := by decide +kernel
theorem dX4_cheapestSet_49 : decode cX4_cheapestSet 49 = .ok (.iload 4, 2) := by decide +kernel
theorem dX4_cheapestSet_51 : decode cX4_cheapestSet 51 = .ok (.istore_n 2, 1) := by decide +kernel
theorem dX4_cheapestSet_52 : decode cX4_cheapestSet 52 = .ok (.iinc 4 1, 3) := by decide +kernel
theorem dX4_cheapestSet_55 : decode cX4_cheapestSet 55 = .ok (.goto (-40), 3) := by decide +kernel
theorem dX4_cheapestSet_58 : decode cX4_cheapestSet 58 = .ok (.iload_n 2, 1) := by decide +kernel
theorem dX4_cheapestSet_59 : decode cX4_cheapestSet 59 = .ok (.ireturn, 1) := by decide +kernel
set_option maxRecDepth 20000 in
theorem ggX4_endsQuarrels_X8_holds : GoodIn wsX4_endsQuarrels wsX8_holds := goodIn_r _ [13] (by decide +kernel) (by decide +kernel)
set_option maxRecDepth 20000 in
theorem gX4_endsQuarrels_X8_holds_n59 : GoodIn wsX4_endsQuarrels (wsX8_holds) := ggX4_endsQuarrels_X8_holds
set_option maxRecDepth 20000 in
theorem ggX4_endsQuarrels_X2_run : GoodIn wsX4_endsQuarrels wsX2_run := goodIn_r _ [18, 19, 20, 21, 22, 17, 23, 24, 25, 26, 27, 12, 28, 29, 30, 31, 32, 33, 34, 35, 36, 37, 11, 13, 92, 93, 94, 95, 96, 78, 79, 80, 81, 82, 83, 84, 85, 86, 97, 98, 99, 72, 73, 74, 75, 76, 77] (by decide +kernel) (by decide +kernel)
set_option maxRecDepth 20000 in
theorem gX4_endsQuarrels_X2_run : GoodIn wsX4_endsQuarrels (wsV RX4 72 RX2 yX2_run wsX2_run) := goodIn_app (goodIn_of _ (by decide +kernel)) ggX4_endsQuarrels_X2_run
set_option maxRecDepth 20000 in
theorem ggX4_endsQuarrels_X2_quarrelCount : GoodIn wsX4_endsQuarrels wsX2_quarrelCount := goodIn_r _ [41, 25, 42, 43, 44, 17, 45, 19, 46, 47, 48, 49, 50, 51, 52, 53, 54, 55, 11, 12, 13, 56, 57, 58, 59, 37, 24, 60, 61, 62, 63, 64, 65, 66, 92, 93, 94, 95, 96, 72, 73, 74, 75, 76, 77, 78, 79, 80, 81, 82, 83, 84, 85, 86, 97, 98, 99] (by decide +kernel) (by decide +kernel)
set_option maxRecDepth 20000 in
theorem gX4_endsQuarrels_X2_quarrelCount : GoodIn wsX4_endsQuarrels (wsV RX4 78 RX2 yX2_quarrelCount wsX2_quarrelCount) := goodIn_app (goodIn_of _ (by decide +kernel)) ggX4_endsQuarrels_X2_quarrelCount
theorem dX4_endsQuarrels_0 : decode cX4_endsQuarrels 0 = .ok (.aload_n 0, 1) := by decide +kernel
theorem dX4_endsQuarrels_1 : decode cX4_endsQuarrels 1 = .ok (.getfield 15, 3) := by decide +kernel
theorem dX4_endsQuarrels_4 : decode cX4_endsQuarrels 4 = .ok (.getfield 44, 3) := by decide +kernel
theorem dX4_endsQuarrels_7 : decode cX4_endsQuarrels 7 = .ok (.iconst 0, 1) := by decide +kernel
theorem dX4_endsQuarrels_8 : decode cX4_endsQuarrels 8 = .ok (.aload_n 0, 1) := by decide +kernel
theorem dX4_endsQuarrels_9 : decode cX4_endsQuarrels 9 = .ok (.getfield 9, 3) := by decide +kernel
theorem dX4_endsQuarrels_12 : decode cX4_endsQuarrels 12 = .ok (.iconst 0, 1) := by decide +kernel
theorem dX4_endsQuarrels_13 : decode cX4_endsQuarrels 13 = .ok (.bipush 24, 2) := by decide +kernel
theorem dX4_endsQuarrels_15 : decode cX4_endsQuarrels 15 = .ok (.invokestatic 47, 3) := by decide +kernel
theorem dX4_endsQuarrels_18 : decode cX4_endsQuarrels 18 = .ok (.aload_n 0, 1) := by decide +kernel
theorem dX4_endsQuarrels_19 : decode cX4_endsQuarrels 19 = .ok (.getfield 19, 3) := by decide +kernel
theorem dX4_endsQuarrels_22 : decode cX4_endsQuarrels 22 = .ok (.getfield 53, 3) := by decide +kernel
theorem dX4_endsQuarrels_25 : decode cX4_endsQuarrels 25 = .ok (.lstore_n 3, 1) := by decide +kernel
theorem dX4_endsQuarrels_26 : decode cX4_endsQuarrels 26 = .ok (.iconst 0, 1) := by decide +kernel
theorem dX4_endsQuarrels_27 : decode cX4_endsQuarrels 27 = .ok (.istore 5, 2) := by decide +kernel
theorem dX4_endsQuarrels_29 : decode cX4_endsQuarrels 29 = .ok (.iload 5, 2) := by decide +kernel
theorem dX4_endsQuarrels_31 : decode cX4_endsQuarrels 31 = .ok (.aload_n 0, 1) := by decide +kernel
theorem dX4_endsQuarrels_32 : decode cX4_endsQuarrels 32 = .ok (.getfield 23, 3) := by decide +kernel
theorem dX4_endsQuarrels_35 : decode cX4_endsQuarrels 35 = .ok (.getfield 31, 3) := by decide +kernel
theorem dX4_endsQuarrels_38 : decode cX4_endsQuarrels 38 = .ok (.if_icmp .ge 82, 3) := by decide +kernel
theorem dX4_endsQuarrels_41 : decode cX4_endsQuarrels 41 = .ok (.iload_n 2, 1) := by decide +kernel
theorem dX4_endsQuarrels_42 : decode cX4_endsQuarrels 42 = .ok (.i2l, 1) := by decide +kernel
theorem dX4_endsQuarrels_43 : decode cX4_endsQuarrels 43 = .ok (.iload 5, 2) := by decide +kernel
theorem dX4_endsQuarrels_45 : decode cX4_endsQuarrels 45 = .ok (.invokestatic 59, 3) := by decide +kernel
theorem dX4_endsQuarrels_48 : decode cX4_endsQuarrels 48 = .ok (.ifCond .ne 6, 3) := by decide +kernel
theorem dX4_endsQuarrels_51 : decode cX4_endsQuarrels 51 = .ok (.goto 63, 3) := by decide +kernel
theorem dX4_endsQuarrels_54 : decode cX4_endsQuarrels 54 = .ok (.aload_n 0, 1) := by decide +kernel
theorem dX4_endsQuarrels_55 : decode cX4_endsQuarrels 55 = .ok (.getfield 23, 3) := by decide +kernel
theorem dX4_endsQuarrels_58 : decode cX4_endsQuarrels 58 = .ok (.getfield 63, 3) := by decide +kernel
theorem dX4_endsQuarrels_61 : decode cX4_endsQuarrels 61 = .ok (.iload 5, 2) := by decide +kernel
theorem dX4_endsQuarrels_63 : decode cX4_endsQuarrels 63 = .ok (.iaload, 1) := by decide +kernel
theorem dX4_endsQuarrels_64 : decode cX4_endsQuarrels 64 = .ok (.ifCond .ne 31, 3) := by decide +kernel
theorem dX4_endsQuarrels_67 : decode cX4_endsQuarrels 67 = .ok (.aload_n 0, 1) := by decide +kernel
theorem dX4_endsQuarrels_68 : decode cX4_endsQuarrels 68 = .ok (.getfield 9, 3) := by decide +kernel
theorem dX4_endsQuarrels_71 : decode cX4_endsQuarrels 71 = .ok (.aload_n 0, 1) := by decide +kernel
theorem dX4_endsQuarrels_72 : decode cX4_endsQuarrels 72 = .ok (.getfield 23, 3) := by decide +kernel
theorem dX4_endsQuarrels_75 : decode cX4_endsQuarrels 75 = .ok (.getfield 66, 3) := by decide +kernel
theorem dX4_endsQuarrels_78 : decode cX4_endsQuarrels 78 = .ok (.iload 5, 2) := by decide +kernel
theorem dX4_endsQuarrels_80 : decode cX4_endsQuarrels 80 = .ok (.iaload, 1) := by decide +kernel
theorem dX4_endsQuarrels_81 : decode cX4_endsQuarrels 81 = .ok (.aload_n 0, 1) := by decide +kernel
theorem dX4_endsQuarrels_82 : decode cX4_endsQuarrels 82 = .ok (.getfield 23, 3) := by decide +kernel
theorem dX4_endsQuarrels_85 : decode cX4_endsQuarrels 85 = .ok (.getfield 69, 3) := by decide +kernel
theorem dX4_endsQuarrels_88 : decode cX4_endsQuarrels 88 = .ok (.iload 5, 2) := by decide +kernel
theorem dX4_endsQuarrels_90 : decode cX4_endsQuarrels 90 = .ok (.iaload, 1) := by decide +kernel
theorem dX4_endsQuarrels_91 : decode cX4_endsQuarrels 91 = .ok (.iastore, 1) := by decide +kernel
theorem dX4_endsQuarrels_92 : decode cX4_endsQuarrels 92 = .ok (.goto 22, 3) := by decide +kernel
theorem dX4_endsQuarrels_95 : decode cX4_endsQuarrels 95 = .ok (.lload_n 3, 1) := by decide +kernel
theorem dX4_endsQuarrels_96 : decode cX4_endsQuarrels 96 = .ok (.lconst 1, 1) := by decide +kernel
theorem dX4_endsQuarrels_97 : decode cX4_endsQuarrels 97 = .ok (.aload_n 0, 1) := by decide +kernel
theorem dX4_endsQuarrels_98 : decode cX4_endsQuarrels 98 = .ok (.getfield 23, 3) := by decide +kernel
theorem dX4_endsQuarrels_101 : decode cX4_endsQuarrels 101 = .ok (.getfield 66, 3) := by decide +kernel
theorem dX4_endsQuarrels_104 : decode cX4_endsQuarrels 104 = .ok (.iload 5, 2) := by decide +kernel
theorem dX4_endsQuarrels_106 : decode cX4_endsQuarrels 106 = .ok (.iaload, 1) := by decide +kernel
theorem dX4_endsQuarrels_107 : decode cX4_endsQuarrels 107 = .ok (.lshl, 1) := by decide +kernel
theorem dX4_endsQuarrels_108 : decode cX4_endsQuarrels 108 = .ok (.ldc2_w 70, 3) := by decide +kernel
theorem dX4_endsQuarrels_111 : decode cX4_endsQuarrels 111 = .ok (.lxor, 1) := by decide +kernel
theorem dX4_endsQuarrels_112 : decode cX4_endsQuarrels 112 = .ok (.land, 1) := by decide +kernel
theorem dX4_endsQuarrels_113 : decode cX4_endsQuarrels 113 = .ok (.lstore_n 3, 1) := by decide +kernel
theorem dX4_endsQuarrels_114 : decode cX4_endsQuarrels 114 = .ok (.iinc 5 1, 3) := by decide +kernel
theorem dX4_endsQuarrels_117 : decode cX4_endsQuarrels 117 = .ok (.goto (-88), 3) := by decide +kernel
theorem dX4_endsQuarrels_120 : decode cX4_endsQuarrels 120 = .ok (.aload_n 0, 1) := by decide +kernel
theorem dX4_endsQuarrels_121 : decode cX4_endsQuarrels 121 = .ok (.getfield 27, 3) := by decide +kernel
theorem dX4_endsQuarrels_124 : decode cX4_endsQuarrels 124 = .ok (.iload_n 1, 1) := by decide +kernel
theorem dX4_endsQuarrels_125 : decode cX4_endsQuarrels 125 = .ok (.aload_n 0, 1) := by decide +kernel
theorem dX4_endsQuarrels_126 : decode cX4_endsQuarrels 126 = .ok (.getfield 9, 3) := by decide +kernel
theorem dX4_endsQuarrels_129 : decode cX4_endsQuarrels 129 = .ok (.lload_n 3, 1) := by decide +kernel
theorem dX4_endsQuarrels_130 : decode cX4_endsQuarrels 130 = .ok (.invokevirtual 72, 3) := by decide +kernel
theorem dX4_endsQuarrels_133 : decode cX4_endsQuarrels 133 = .ok (.aload_n 0, 1) := by decide +kernel
theorem dX4_endsQuarrels_134 : decode cX4_endsQuarrels 134 = .ok (.getfield 27, 3) := by decide +kernel
theorem dX4_endsQuarrels_137 : decode cX4_endsQuarrels 137 = .ok (.aload_n 0, 1) := by decide +kernel
theorem dX4_endsQuarrels_138 : decode cX4_endsQuarrels 138 = .ok (.getfield 9, 3) := by decide +kernel
theorem dX4_endsQuarrels_141 : decode cX4_endsQuarrels 141 = .ok (.lload_n 3, 1) := by decide +kernel
theorem dX4_endsQuarrels_142 : decode cX4_endsQuarrels 142 = .ok (.invokevirtual 78, 3) := by decide +kernel
theorem dX4_endsQuarrels_145 : decode cX4_endsQuarrels 145 = .ok (.ifCond .ne 7, 3) := by decide +kernel
theorem dX4_endsQuarrels_148 : decode cX4_endsQuarrels 148 = .ok (.iconst 1, 1) := by decide +kernel
theorem dX4_endsQuarrels_149 : decode cX4_endsQuarrels 149 = .ok (.goto 4, 3) := by decide +kernel
theorem dX4_endsQuarrels_152 : decode cX4_endsQuarrels 152 = .ok (.iconst 0, 1) := by decide +kernel
theorem dX4_endsQuarrels_153 : decode cX4_endsQuarrels 153 = .ok (.ireturn, 1) := by decide +kernel
theorem dX5_init_0 : decode cX5_init 0 = .ok (.aload_n 0, 1) := by decide +kernel
theorem dX5_init_1 : decode cX5_init 1 = .ok (.invokespecial 3, 3) := by decide +kernel
theorem dX5_init_4 : decode cX5_init 4 = .ok (.aload_n 0, 1) := by decide +kernel
theorem dX5_init_5 : decode cX5_init 5 = .ok (.bipush 72, 2) := by decide +kernel
theorem dX5_init_7 : decode cX5_init 7 = .ok (.newarray .int, 2) := by decide +kernel
theorem dX5_init_9 : decode cX5_init 9 = .ok (.putfield 9, 3) := by decide +kernel
theorem dX5_init_12 : decode cX5_init 12 = .ok (.aload_n 0, 1) := by decide +kernel
theorem dX5_init_13 : decode cX5_init 13 = .ok (.bipush 24, 2) := by decide +kernel
theorem dX5_init_15 : decode cX5_init 15 = .ok (.newarray .int, 2) := by decide +kernel
theorem dX5_init_17 : decode cX5_init 17 = .ok (.putfield 15, 3) := by decide +kernel
theorem dX5_init_20 : decode cX5_init 20 = .ok (.aload_n 0, 1) := by decide +kernel
theorem dX5_init_21 : decode cX5_init 21 = .ok (.bipush 24, 2) := by decide +kernel
theorem dX5_init_23 : decode cX5_init 23 = .ok (.newarray .int, 2) := by decide +kernel
theorem dX5_init_25 : decode cX5_init 25 = .ok (.putfield 18, 3) := by decide +kernel
theorem dX5_init_28 : decode cX5_init 28 = .ok (.aload_n 0, 1) := by decide +kernel
theorem dX5_init_29 : decode cX5_init 29 = .ok (.bipush 24, 2) := by decide +kernel
theorem dX5_init_31 : decode cX5_init 31 = .ok (.newarray .long, 2) := by decide +kernel
theorem dX5_init_33 : decode cX5_init 33 = .ok (.putfield 21, 3) := by decide +kernel
theorem dX5_init_36 : decode cX5_init 36 = .ok (.return_, 1) := by decide +kernel
set_option maxRecDepth 20000 in
theorem ggX5_has_X8_within : GoodIn wsX5_has wsX8_within := goodIn_r _ [4] (by decide +kernel) (by decide +kernel)
set_option maxRecDepth 20000 in
theorem gX5_has_X8_within_n29 : GoodIn wsX5_has (wsX8_within) := ggX5_has_X8_within
theorem dX5_has_0 : decode cX5_has 0 = .ok (.iload_n 1, 1) := by decide +kernel
theorem dX5_has_1 : decode cX5_has 1 = .ok (.aload_n 0, 1) := by decide +kernel
theorem dX5_has_2 : decode cX5_has 2 = .ok (.getfield 25, 3) := by decide +kernel
theorem dX5_has_5 : decode cX5_has 5 = .ok (.invokestatic 29, 3) := by decide +kernel
theorem dX5_has_8 : decode cX5_has 8 = .ok (.ireturn, 1) := by decide +kernel
theorem dX5_choiceOf_0 : decode cX5_choiceOf 0 = .ok (.aload_n 0, 1) := by decide +kernel
theorem dX5_choiceOf_1 : decode cX5_choiceOf 1 = .ok (.getfield 9, 3) := by decide +kernel
theorem dX5_choiceOf_4 : decode cX5_choiceOf 4 = .ok (.iload_n 1, 1) := by decide +kernel
theorem dX5_choiceOf_5 : decode cX5_choiceOf 5 = .ok (.iconst 3, 1) := by decide +kernel
theorem dX5_choiceOf_6 : decode cX5_choiceOf 6 = .ok (.imul, 1) := by decide +kernel
theorem dX5_choiceOf_7 : decode cX5_choiceOf 7 = .ok (.iload_n 2, 1) := by decide +kernel
theorem dX5_choiceOf_8 : decode cX5_choiceOf 8 = .ok (.iadd, 1) := by decide +kernel
theorem dX5_choiceOf_9 : decode cX5_choiceOf 9 = .ok (.iaload, 1) := by decide +kernel
theorem dX5_choiceOf_10 : decode cX5_choiceOf 10 = .ok (.ireturn, 1) := by decide +kernel
theorem dX5_add_0 : decode cX5_add 0 = .ok (.aload_n 0, 1) := by decide +kernel
theorem dX5_add_1 : decode cX5_add 1 = .ok (.getfield 25, 3) := by decide +kernel
theorem dX5_add_4 : decode cX5_add 4 = .ok (.istore 4, 2) := by decide +kernel
theorem dX5_add_6 : decode cX5_add 6 = .ok (.aload_n 0, 1) := by decide +kernel
theorem dX5_add_7 : decode cX5_add 7 = .ok (.dup, 1) := by decide +kernel
theorem dX5_add_8 : decode cX5_add 8 = .ok (.getfield 25, 3) := by decide +kernel
theorem dX5_add_11 : decode cX5_add 11 = .ok (.iconst 1, 1) := by decide +kernel
theorem dX5_add_12 : decode cX5_add 12 = .ok (.iadd, 1) := by decide +kernel
theorem dX5_add_13 : decode cX5_add 13 = .ok (.putfield 25, 3) := by decide +kernel
theorem dX5_add_16 : decode cX5_add 16 = .ok (.aload_n 0, 1) := by decide +kernel
theorem dX5_add_17 : decode cX5_add 17 = .ok (.getfield 9, 3) := by decide +kernel
theorem dX5_add_20 : decode cX5_add 20 = .ok (.iload 4, 2) := by decide +kernel
theorem dX5_add_22 : decode cX5_add 22 = .ok (.iconst 3, 1) := by decide +kernel
theorem dX5_add_23 : decode cX5_add 23 = .ok (.imul, 1) := by decide +kernel
theorem dX5_add_24 : decode cX5_add 24 = .ok (.iload_n 1, 1) := by decide +kernel
theorem dX5_add_25 : decode cX5_add 25 = .ok (.iastore, 1) := by decide +kernel
theorem dX5_add_26 : decode cX5_add 26 = .ok (.aload_n 0, 1) := by decide +kernel
theorem dX5_add_27 : decode cX5_add 27 = .ok (.getfield 9, 3) := by decide +kernel
theorem dX5_add_30 : decode cX5_add 30 = .ok (.iload 4, 2) := by decide +kernel
theorem dX5_add_32 : decode cX5_add 32 = .ok (.iconst 3, 1) := by decide +kernel
theorem dX5_add_33 : decode cX5_add 33 = .ok (.imul, 1) := by decide +kernel
theorem dX5_add_34 : decode cX5_add 34 = .ok (.iconst 1, 1) := by decide +kernel
theorem dX5_add_35 : decode cX5_add 35 = .ok (.iadd, 1) := by decide +kernel
theorem dX5_add_36 : decode cX5_add 36 = .ok (.iload_n 2, 1) := by decide +kernel
theorem dX5_add_37 : decode cX5_add 37 = .ok (.iastore, 1) := by decide +kernel
theorem dX5_add_38 : decode cX5_add 38 = .ok (.aload_n 0, 1) := by decide +kernel
theorem dX5_add_39 : decode cX5_add 39 = .ok (.getfield 9, 3) := by decide +kernel
theorem dX5_add_42 : decode cX5_add 42 = .ok (.iload 4, 2) := by decide +kernel
theorem dX5_add_44 : decode cX5_add 44 = .ok (.iconst 3, 1) := by decide +kernel
theorem dX5_add_45 : decode cX5_add 45 = .ok (.imul, 1) := by decide +kernel
theorem dX5_add_46 : decode cX5_add 46 = .ok (.iconst 2, 1) := by decide +kernel
theorem dX5_add_47 : decode cX5_add 47 = .ok (.iadd, 1) := by decide +kernel
theorem dX5_add_48 : decode cX5_add 48 = .ok (.iload_n 3, 1) := by decide +kernel
theorem dX5_add_49 : decode cX5_add 49 = .ok (.iastore, 1) := by decide +kernel
theorem dX5_add_50 : decode cX5_add 50 = .ok (.aload_n 0, 1) := by decide +kernel
theorem dX5_add_51 : decode cX5_add 51 = .ok (.getfield 15, 3) := by decide +kernel
theorem dX5_add_54 : decode cX5_add 54 = .ok (.iload 4, 2) := by decide +kernel
theorem dX5_add_56 : decode cX5_add 56 = .ok (.iload_n 2, 1) := by decide +kernel
theorem dX5_add_57 : decode cX5_add 57 = .ok (.iconst (-1), 1) := by decide +kernel
theorem dX5_add_58 : decode cX5_add 58 = .ok (.if_icmp .ne 7, 3) := by decide +kernel
theorem dX5_add_61 : decode cX5_add 61 = .ok (.iconst 1, 1) := by decide +kernel
theorem dX5_add_62 : decode cX5_add 62 = .ok (.goto 13, 3) := by decide +kernel
theorem dX5_add_65 : decode cX5_add 65 = .ok (.iload_n 3, 1) := by decide +kernel
theorem dX5_add_66 : decode cX5_add 66 = .ok (.iconst (-1), 1) := by decide +kernel
theorem dX5_add_67 : decode cX5_add 67 = .ok (.if_icmp .ne 7, 3) := by decide +kernel
theorem dX5_add_70 : decode cX5_add 70 = .ok (.iconst 2, 1) := by decide +kernel
theorem dX5_add_71 : decode cX5_add 71 = .ok (.goto 4, 3) := by decide +kernel
theorem dX5_add_74 : decode cX5_add 74 = .ok (.iconst 3, 1) := by decide +kernel
theorem dX5_add_75 : decode cX5_add 75 = .ok (.iastore, 1) := by decide +kernel
theorem dX5_add_76 : decode cX5_add 76 = .ok (.aload_n 0, 1) := by decide +kernel
theorem dX5_add_77 : decode cX5_add 77 = .ok (.getfield 18, 3) := by decide +kernel
theorem dX5_add_80 : decode cX5_add 80 = .ok (.iload 4, 2) := by decide +kernel
theorem dX5_add_82 : decode cX5_add 82 = .ok (.iload_n 1, 1) := by decide +kernel
theorem dX5_add_83 : decode cX5_add 83 = .ok (.iastore, 1) := by decide +kernel
theorem dX5_add_84 : decode cX5_add 84 = .ok (.iload 4, 2) := by decide +kernel
theorem dX5_add_86 : decode cX5_add 86 = .ok (.ireturn, 1) := by decide +kernel
theorem dX6_init_0 : decode cX6_init 0 = .ok (.aload_n 0, 1) := by decide +kernel
theorem dX6_init_1 : decode cX6_init 1 = .ok (.invokespecial 3, 3) := by decide +kernel
theorem dX6_init_4 : decode cX6_init 4 = .ok (.aload_n 0, 1) := by decide +kernel
theorem dX6_init_5 : decode cX6_init 5 = .ok (.iconst 4, 1) := by decide +kernel
theorem dX6_init_6 : decode cX6_init 6 = .ok (.newarray .long, 2) := by decide +kernel
theorem dX6_init_8 : decode cX6_init 8 = .ok (.putfield 9, 3) := by decide +kernel
theorem dX6_init_11 : decode cX6_init 11 = .ok (.aload_n 0, 1) := by decide +kernel
theorem dX6_init_12 : decode cX6_init 12 = .ok (.iconst 4, 1) := by decide +kernel
theorem dX6_init_13 : decode cX6_init 13 = .ok (.newarray .long, 2) := by decide +kernel
theorem dX6_init_15 : decode cX6_init 15 = .ok (.putfield 15, 3) := by decide +kernel
theorem dX6_init_18 : decode cX6_init 18 = .ok (.aload_n 0, 1) := by decide +kernel
theorem dX6_init_19 : decode cX6_init 19 = .ok (.bipush 8, 2) := by decide +kernel
theorem dX6_init_21 : decode cX6_init 21 = .ok (.newarray .long, 2) := by decide +kernel
theorem dX6_init_23 : decode cX6_init 23 = .ok (.putfield 18, 3) := by decide +kernel
theorem dX6_init_26 : decode cX6_init 26 = .ok (.return_, 1) := by decide +kernel
set_option maxRecDepth 20000 in
theorem ggX6_tellAsk_X6_spread : GoodIn wsX6_tellAsk wsX6_spread := goodIn_r _ [6, 7, 8, 9, 10] (by decide +kernel) (by decide +kernel)
set_option maxRecDepth 20000 in
theorem gX6_tellAsk_X6_spread : GoodIn wsX6_tellAsk (va_wsS RX6 21 yX6_spread wsX6_spread) := goodIn_app (goodIn_of _ (by decide +kernel)) ggX6_tellAsk_X6_spread
theorem dX6_tellAsk_0 : decode cX6_tellAsk 0 = .ok (.aload_n 0, 1) := by decide +kernel
theorem dX6_tellAsk_1 : decode cX6_tellAsk 1 = .ok (.getfield 9, 3) := by decide +kernel
theorem dX6_tellAsk_4 : decode cX6_tellAsk 4 = .ok (.iload_n 1, 1) := by decide +kernel
theorem dX6_tellAsk_5 : decode cX6_tellAsk 5 = .ok (.iload_n 2, 1) := by decide +kernel
theorem dX6_tellAsk_6 : decode cX6_tellAsk 6 = .ok (.invokestatic 21, 3) := by decide +kernel
theorem dX6_tellAsk_9 : decode cX6_tellAsk 9 = .ok (.aload_n 0, 1) := by decide +kernel
theorem dX6_tellAsk_10 : decode cX6_tellAsk 10 = .ok (.getfield 15, 3) := by decide +kernel
theorem dX6_tellAsk_13 : decode cX6_tellAsk 13 = .ok (.iload_n 1, 1) := by decide +kernel
theorem dX6_tellAsk_14 : decode cX6_tellAsk 14 = .ok (.iload_n 3, 1) := by decide +kernel
theorem dX6_tellAsk_15 : decode cX6_tellAsk 15 = .ok (.invokestatic 21, 3) := by decide +kernel
theorem dX6_tellAsk_18 : decode cX6_tellAsk 18 = .ok (.return_, 1) := by decide +kernel
set_option maxRecDepth 20000 in
theorem ggX6_spread_X8_holds : GoodIn wsX6_spread wsX8_holds := goodIn_r _ [4] (by decide +kernel) (by decide +kernel)
set_option maxRecDepth 20000 in
theorem gX6_spread_X8_holds_n27 : GoodIn wsX6_spread (wsX8_holds) := ggX6_spread_X8_holds
theorem dX6_spread_0 : decode cX6_spread 0 = .ok (.iconst 0, 1) := by decide +kernel
theorem dX6_spread_1 : decode cX6_spread 1 = .ok (.istore_n 3, 1) := by decide +kernel
theorem dX6_spread_2 : decode cX6_spread 2 = .ok (.iload_n 3, 1) := by decide +kernel
theorem dX6_spread_3 : decode cX6_spread 3 = .ok (.aload_n 0, 1) := by decide +kernel
theorem dX6_spread_4 : decode cX6_spread 4 = .ok (.arraylength, 1) := by decide +kernel
theorem dX6_spread_5 : decode cX6_spread 5 = .ok (.if_icmp .ge 45, 3) := by decide +kernel
theorem dX6_spread_8 : decode cX6_spread 8 = .ok (.aload_n 0, 1) := by decide +kernel
theorem dX6_spread_9 : decode cX6_spread 9 = .ok (.iload_n 3, 1) := by decide +kernel
theorem dX6_spread_10 : decode cX6_spread 10 = .ok (.laload, 1) := by decide +kernel
theorem dX6_spread_11 : decode cX6_spread 11 = .ok (.lconst 1, 1) := by decide +kernel
theorem dX6_spread_12 : decode cX6_spread 12 = .ok (.iload_n 1, 1) := by decide +kernel
theorem dX6_spread_13 : decode cX6_spread 13 = .ok (.lshl, 1) := by decide +kernel
theorem dX6_spread_14 : decode cX6_spread 14 = .ok (.ldc2_w 25, 3) := by decide +kernel
theorem dX6_spread_17 : decode cX6_spread 17 = .ok (.lxor, 1) := by decide +kernel
theorem dX6_spread_18 : decode cX6_spread 18 = .ok (.land, 1) := by decide +kernel
theorem dX6_spread_19 : decode cX6_spread 19 = .ok (.lstore 4, 2) := by decide +kernel
theorem dX6_spread_21 : decode cX6_spread 21 = .ok (.aload_n 0, 1) := by decide +kernel
theorem dX6_spread_22 : decode cX6_spread 22 = .ok (.iload_n 3, 1) := by decide +kernel
theorem dX6_spread_23 : decode cX6_spread 23 = .ok (.iload_n 2, 1) := by decide +kernel
theorem dX6_spread_24 : decode cX6_spread 24 = .ok (.i2l, 1) := by decide +kernel
theorem dX6_spread_25 : decode cX6_spread 25 = .ok (.iload_n 3, 1) := by decide +kernel
theorem dX6_spread_26 : decode cX6_spread 26 = .ok (.invokestatic 27, 3) := by decide +kernel
theorem dX6_spread_29 : decode cX6_spread 29 = .ok (.ifCond .eq 12, 3) := by decide +kernel
theorem dX6_spread_32 : decode cX6_spread 32 = .ok (.lload 4, 2) := by decide +kernel
theorem dX6_spread_34 : decode cX6_spread 34 = .ok (.lconst 1, 1) := by decide +kernel
theorem dX6_spread_35 : decode cX6_spread 35 = .ok (.iload_n 1, 1) := by decide +kernel
theorem dX6_spread_36 : decode cX6_spread 36 = .ok (.lshl, 1) := by decide +kernel
theorem dX6_spread_37 : decode cX6_spread 37 = .ok (.lor, 1) := by decide +kernel
theorem dX6_spread_38 : decode cX6_spread 38 = .ok (.goto 5, 3) := by decide +kernel
theorem dX6_spread_41 : decode cX6_spread 41 = .ok (.lload 4, 2) := by decide +kernel
theorem dX6_spread_43 : decode cX6_spread 43 = .ok (.lastore, 1) := by decide +kernel
theorem dX6_spread_44 : decode cX6_spread 44 = .ok (.iinc 3 1, 3) := by decide +kernel
theorem dX6_spread_47 : decode cX6_spread 47 = .ok (.goto (-45), 3) := by decide +kernel
theorem dX6_spread_50 : decode cX6_spread 50 = .ok (.return_, 1) := by decide +kernel
set_option maxRecDepth 20000 in
theorem ggX6_tellBars_X8_pairOf : GoodIn wsX6_tellBars wsX8_pairOf := goodIn_r _ [4] (by decide +kernel) (by decide +kernel)
set_option maxRecDepth 20000 in
theorem gX6_tellBars_X8_pairOf_n31 : GoodIn wsX6_tellBars (wsX8_pairOf) := ggX6_tellBars_X8_pairOf
theorem dX6_tellBars_0 : decode cX6_tellBars 0 = .ok (.lconst 0, 1) := by decide +kernel
theorem dX6_tellBars_1 : decode cX6_tellBars 1 = .ok (.lstore_n 3, 1) := by decide +kernel
theorem dX6_tellBars_2 : decode cX6_tellBars 2 = .ok (.iconst 0, 1) := by decide +kernel
theorem dX6_tellBars_3 : decode cX6_tellBars 3 = .ok (.istore 5, 2) := by decide +kernel
theorem dX6_tellBars_5 : decode cX6_tellBars 5 = .ok (.iload 5, 2) := by decide +kernel
theorem dX6_tellBars_7 : decode cX6_tellBars 7 = .ok (.bipush 8, 2) := by decide +kernel
theorem dX6_tellBars_9 : decode cX6_tellBars 9 = .ok (.if_icmp .ge 27, 3) := by decide +kernel
theorem dX6_tellBars_12 : decode cX6_tellBars 12 = .ok (.iload 5, 2) := by decide +kernel
theorem dX6_tellBars_14 : decode cX6_tellBars 14 = .ok (.iload_n 1, 1) := by decide +kernel
theorem dX6_tellBars_15 : decode cX6_tellBars 15 = .ok (.if_icmp .eq 15, 3) := by decide +kernel
theorem dX6_tellBars_18 : decode cX6_tellBars 18 = .ok (.lload_n 3, 1) := by decide +kernel
theorem dX6_tellBars_19 : decode cX6_tellBars 19 = .ok (.iload_n 2, 1) := by decide +kernel
theorem dX6_tellBars_20 : decode cX6_tellBars 20 = .ok (.i2l, 1) := by decide +kernel
theorem dX6_tellBars_21 : decode cX6_tellBars 21 = .ok (.iload 5, 2) := by decide +kernel
theorem dX6_tellBars_23 : decode cX6_tellBars 23 = .ok (.iconst 0, 1) := by decide +kernel
theorem dX6_tellBars_24 : decode cX6_tellBars 24 = .ok (.invokestatic 31, 3) := by decide +kernel
theorem dX6_tellBars_27 : decode cX6_tellBars 27 = .ok (.lshl, 1) := by decide +kernel
theorem dX6_tellBars_28 : decode cX6_tellBars 28 = .ok (.lor, 1) := by decide +kernel
theorem dX6_tellBars_29 : decode cX6_tellBars 29 = .ok (.lstore_n 3, 1) := by decide +kernel
theorem dX6_tellBars_30 : decode cX6_tellBars 30 = .ok (.iinc 5 1, 3) := by decide +kernel
theorem dX6_tellBars_33 : decode cX6_tellBars 33 = .ok (.goto (-28), 3) := by decide +kernel
theorem dX6_tellBars_36 : decode cX6_tellBars 36 = .ok (.aload_n 0, 1) := by decide +kernel
theorem dX6_tellBars_37 : decode cX6_tellBars 37 = .ok (.getfield 18, 3) := by decide +kernel
theorem dX6_tellBars_40 : decode cX6_tellBars 40 = .ok (.iload_n 1, 1) := by decide +kernel
theorem dX6_tellBars_41 : decode cX6_tellBars 41 = .ok (.lload_n 3, 1) := by decide +kernel
theorem dX6_tellBars_42 : decode cX6_tellBars 42 = .ok (.lastore, 1) := by decide +kernel
theorem dX6_tellBars_43 : decode cX6_tellBars 43 = .ok (.return_, 1) := by decide +kernel
theorem dX7_init_0 : decode cX7_init 0 = .ok (.aload_n 0, 1) := by decide +kernel
theorem dX7_init_1 : decode cX7_init 1 = .ok (.invokespecial 3, 3) := by decide +kernel
theorem dX7_init_4 : decode cX7_init 4 = .ok (.aload_n 0, 1) := by decide +kernel
theorem dX7_init_5 : decode cX7_init 5 = .ok (.bipush 24, 2) := by decide +kernel
theorem dX7_init_7 : decode cX7_init 7 = .ok (.newarray .int, 2) := by decide +kernel
theorem dX7_init_9 : decode cX7_init 9 = .ok (.putfield 9, 3) := by decide +kernel
theorem dX7_init_12 : decode cX7_init 12 = .ok (.aload_n 0, 1) := by decide +kernel
theorem dX7_init_13 : decode cX7_init 13 = .ok (.aload_n 1, 1) := by decide +kernel
theorem dX7_init_14 : decode cX7_init 14 = .ok (.putfield 15, 3) := by decide +kernel
theorem dX7_init_17 : decode cX7_init 17 = .ok (.aload_n 0, 1) := by decide +kernel
theorem dX7_init_18 : decode cX7_init 18 = .ok (.aload_n 2, 1) := by decide +kernel
theorem dX7_init_19 : decode cX7_init 19 = .ok (.putfield 19, 3) := by decide +kernel
theorem dX7_init_22 : decode cX7_init 22 = .ok (.aload_n 0, 1) := by decide +kernel
theorem dX7_init_23 : decode cX7_init 23 = .ok (.aload_n 3, 1) := by decide +kernel
theorem dX7_init_24 : decode cX7_init 24 = .ok (.putfield 23, 3) := by decide +kernel
theorem dX7_init_27 : decode cX7_init 27 = .ok (.aload_n 0, 1) := by decide +kernel
theorem dX7_init_28 : decode cX7_init 28 = .ok (.aload 4, 2) := by decide +kernel
theorem dX7_init_30 : decode cX7_init 30 = .ok (.putfield 27, 3) := by decide +kernel
theorem dX7_init_33 : decode cX7_init 33 = .ok (.return_, 1) := by decide +kernel
set_option maxRecDepth 20000 in
theorem ggX7_partOnWay_X7_measure : GoodIn wsX7_partOnWay wsX7_measure := goodIn_r _ [6, 1, 7, 8, 9, 10, 5, 11, 12, 13, 14, 15, 16, 17, 18, 19, 57, 58, 59, 60, 61, 62, 63, 64, 65, 66, 67, 68, 69, 70, 71, 72, 73] (by decide +kernel) (by decide +kernel)
set_option maxRecDepth 20000 in
theorem gX7_partOnWay_X7_measure : GoodIn wsX7_partOnWay (wsV RX7 31 RX7 yX7_measure wsX7_measure) := goodIn_app (goodIn_of _ (by decide +kernel)) ggX7_partOnWay_X7_measure
set_option maxRecDepth 20000 in
theorem ggX7_partOnWay_X7_source : GoodIn wsX7_partOnWay wsX7_source := goodIn_r _ [23, 24, 1, 25, 26, 27, 5, 28, 29, 30, 31, 32, 33, 34, 35, 36, 37, 38, 18, 39, 40, 41, 42, 43, 17, 19, 57, 58, 59, 60, 61, 74, 75, 76, 77, 78, 79, 80, 81, 82, 83, 84, 71, 72, 73] (by decide +kernel) (by decide +kernel)
set_option maxRecDepth 20000 in
theorem gX7_partOnWay_X7_source : GoodIn wsX7_partOnWay (wsV RX7 35 RX7 yX7_source wsX7_source) := goodIn_app (goodIn_of _ (by decide +kernel)) ggX7_partOnWay_X7_source
set_option maxRecDepth 20000 in
theorem ggX7_partOnWay_X7_next : GoodIn wsX7_partOnWay wsX7_next := goodIn_r _ [47, 7, 1, 48, 49, 50, 51, 52, 53, 54, 55, 18, 56, 17, 19, 12, 13, 14, 5, 15, 16, 57, 58, 59, 60, 61, 62, 63, 64, 65, 66, 67, 68, 69, 70, 71, 72, 73] (by decide +kernel) (by decide +kernel)
set_option maxRecDepth 20000 in
theorem gX7_partOnWay_X7_next : GoodIn wsX7_partOnWay (wsV RX7 39 RX7 yX7_next wsX7_next) := goodIn_app (goodIn_of _ (by decide +kernel)) ggX7_partOnWay_X7_next
theorem dX7_partOnWay_0 : decode cX7_partOnWay 0 = .ok (.aload_n 0, 1) := by decide +kernel
theorem dX7_partOnWay_1 : decode cX7_partOnWay 1 = .ok (.iload_n 2, 1) := by decide +kernel
theorem dX7_partOnWay_2 : decode cX7_partOnWay 2 = .ok (.iload_n 3, 1) := by decide +kernel
theorem dX7_partOnWay_3 : decode cX7_partOnWay 3 = .ok (.invokevirtual 31, 3) := by decide +kernel
theorem dX7_partOnWay_6 : decode cX7_partOnWay 6 = .ok (.aload_n 0, 1) := by decide +kernel
theorem dX7_partOnWay_7 : decode cX7_partOnWay 7 = .ok (.iload_n 1, 1) := by decide +kernel
theorem dX7_partOnWay_8 : decode cX7_partOnWay 8 = .ok (.iload_n 2, 1) := by decide +kernel
theorem dX7_partOnWay_9 : decode cX7_partOnWay 9 = .ok (.invokevirtual 35, 3) := by decide +kernel
theorem dX7_partOnWay_12 : decode cX7_partOnWay 12 = .ok (.istore 5, 2) := by decide +kernel
theorem dX7_partOnWay_14 : decode cX7_partOnWay 14 = .ok (.iload 5, 2) := by decide +kernel
theorem dX7_partOnWay_16 : decode cX7_partOnWay 16 = .ok (.iconst (-1), 1) := by decide +kernel
theorem dX7_partOnWay_17 : decode cX7_partOnWay 17 = .ok (.if_icmp .eq 20, 3) := by decide +kernel
theorem dX7_partOnWay_20 : decode cX7_partOnWay 20 = .ok (.iload 4, 2) := by decide +kernel
theorem dX7_partOnWay_22 : decode cX7_partOnWay 22 = .ok (.ifCond .lt 15, 3) := by decide +kernel
theorem dX7_partOnWay_25 : decode cX7_partOnWay 25 = .ok (.iload 4, 2) := by decide +kernel
theorem dX7_partOnWay_27 : decode cX7_partOnWay 27 = .ok (.aload_n 0, 1) := by decide +kernel
theorem dX7_partOnWay_28 : decode cX7_partOnWay 28 = .ok (.getfield 9, 3) := by decide +kernel
theorem dX7_partOnWay_31 : decode cX7_partOnWay 31 = .ok (.iload 5, 2) := by decide +kernel
theorem dX7_partOnWay_33 : decode cX7_partOnWay 33 = .ok (.iaload, 1) := by decide +kernel
theorem dX7_partOnWay_34 : decode cX7_partOnWay 34 = .ok (.if_icmp .le 5, 3) := by decide +kernel
theorem dX7_partOnWay_37 : decode cX7_partOnWay 37 = .ok (.iconst (-1), 1) := by decide +kernel
theorem dX7_partOnWay_38 : decode cX7_partOnWay 38 = .ok (.ireturn, 1) := by decide +kernel
theorem dX7_partOnWay_39 : decode cX7_partOnWay 39 = .ok (.iconst 0, 1) := by decide +kernel
theorem dX7_partOnWay_40 : decode cX7_partOnWay 40 = .ok (.istore 6, 2) := by decide +kernel
theorem dX7_partOnWay_42 : decode cX7_partOnWay 42 = .ok (.iload 6, 2) := by decide +kernel
theorem dX7_partOnWay_44 : decode cX7_partOnWay 44 = .ok (.iload 4, 2) := by decide +kernel
theorem dX7_partOnWay_46 : decode cX7_partOnWay 46 = .ok (.if_icmp .ge 24, 3) := by decide +kernel
theorem dX7_partOnWay_49 : decode cX7_partOnWay 49 = .ok (.iload 5, 2) := by decide +kernel
theorem dX7_partOnWay_51 : decode cX7_partOnWay 51 = .ok (.iconst (-1), 1) := by decide +kernel
theorem dX7_partOnWay_52 : decode cX7_partOnWay 52 = .ok (.if_icmp .eq 18, 3) := by decide +kernel
theorem dX7_partOnWay_55 : decode cX7_partOnWay 55 = .ok (.aload_n 0, 1) := by decide +kernel
theorem dX7_partOnWay_56 : decode cX7_partOnWay 56 = .ok (.iload_n 2, 1) := by decide +kernel
theorem dX7_partOnWay_57 : decode cX7_partOnWay 57 = .ok (.iload 5, 2) := by decide +kernel
theorem dX7_partOnWay_59 : decode cX7_partOnWay 59 = .ok (.invokevirtual 39, 3) := by decide +kernel
theorem dX7_partOnWay_62 : decode cX7_partOnWay 62 = .ok (.istore 5, 2) := by decide +kernel
theorem dX7_partOnWay_64 : decode cX7_partOnWay 64 = .ok (.iinc 6 1, 3) := by decide +kernel
theorem dX7_partOnWay_67 : decode cX7_partOnWay 67 = .ok (.goto (-25), 3) := by decide +kernel
theorem dX7_partOnWay_70 : decode cX7_partOnWay 70 = .ok (.iload 5, 2) := by decide +kernel
theorem dX7_partOnWay_72 : decode cX7_partOnWay 72 = .ok (.ireturn, 1) := by decide +kernel
set_option maxRecDepth 20000 in
theorem ggX7_noticed_X8_pairOf : GoodIn wsX7_noticed wsX8_pairOf := goodIn_r _ [5] (by decide +kernel) (by decide +kernel)
set_option maxRecDepth 20000 in
theorem gX7_noticed_X8_pairOf_n42 : GoodIn wsX7_noticed (wsX8_pairOf) := ggX7_noticed_X8_pairOf
set_option maxRecDepth 20000 in
theorem ggX7_noticed_X7_measure : GoodIn wsX7_noticed wsX7_measure := goodIn_r _ [10, 2, 11, 12, 13, 14, 9, 15, 16, 17, 18, 19, 20, 21, 4, 22, 40, 41, 42, 43, 44, 51, 52, 53, 54, 55, 56, 57, 58, 59, 60, 61, 62] (by decide +kernel) (by decide +kernel)
set_option maxRecDepth 20000 in
theorem gX7_noticed_X7_measure : GoodIn wsX7_noticed (wsV RX7 31 RX7 yX7_measure wsX7_measure) := goodIn_app (goodIn_of _ (by decide +kernel)) ggX7_noticed_X7_measure
set_option maxRecDepth 20000 in
theorem ggX7_noticed_X7_brings : GoodIn wsX7_noticed wsX7_brings := goodIn_r _ [26, 27, 1, 28, 29, 30, 31, 32, 33, 34, 35, 36, 4, 37, 38, 39, 3, 5, 21, 22, 40, 41, 42, 43, 44, 45, 46, 47, 48, 49, 50, 63, 64, 65, 66, 67, 60, 61, 62] (by decide +kernel) (by decide +kernel)
set_option maxRecDepth 20000 in
theorem gX7_noticed_X7_brings : GoodIn wsX7_noticed (wsV RX7 54 RX7 yX7_brings wsX7_brings) := goodIn_app (goodIn_of _ (by decide +kernel)) ggX7_noticed_X7_brings
theorem dX7_noticed_0 : decode cX7_noticed 0 = .ok (.iconst 0, 1) := by decide +kernel
theorem dX7_noticed_1 : decode cX7_noticed 1 = .ok (.istore_n 2, 1) := by decide +kernel
theorem dX7_noticed_2 : decode cX7_noticed 2 = .ok (.iconst 0, 1) := by decide +kernel
theorem dX7_noticed_3 : decode cX7_noticed 3 = .ok (.istore_n 3, 1) := by decide +kernel
theorem dX7_noticed_4 : decode cX7_noticed 4 = .ok (.iload_n 3, 1) := by decide +kernel
theorem dX7_noticed_5 : decode cX7_noticed 5 = .ok (.bipush 8, 2) := by decide +kernel
theorem dX7_noticed_7 : decode cX7_noticed 7 = .ok (.if_icmp .ge 80, 3) := by decide +kernel
theorem dX7_noticed_10 : decode cX7_noticed 10 = .ok (.iload_n 3, 1) := by decide +kernel
theorem dX7_noticed_11 : decode cX7_noticed 11 = .ok (.iconst 0, 1) := by decide +kernel
theorem dX7_noticed_12 : decode cX7_noticed 12 = .ok (.invokestatic 42, 3) := by decide +kernel
theorem dX7_noticed_15 : decode cX7_noticed 15 = .ok (.istore 4, 2) := by decide +kernel
theorem dX7_noticed_17 : decode cX7_noticed 17 = .ok (.aload_n 0, 1) := by decide +kernel
theorem dX7_noticed_18 : decode cX7_noticed 18 = .ok (.iload 4, 2) := by decide +kernel
theorem dX7_noticed_20 : decode cX7_noticed 20 = .ok (.aload_n 0, 1) := by decide +kernel
theorem dX7_noticed_21 : decode cX7_noticed 21 = .ok (.getfield 19, 3) := by decide +kernel
theorem dX7_noticed_24 : decode cX7_noticed 24 = .ok (.getfield 45, 3) := by decide +kernel
theorem dX7_noticed_27 : decode cX7_noticed 27 = .ok (.invokevirtual 31, 3) := by decide +kernel
theorem dX7_noticed_30 : decode cX7_noticed 30 = .ok (.iconst 0, 1) := by decide +kernel
theorem dX7_noticed_31 : decode cX7_noticed 31 = .ok (.istore 5, 2) := by decide +kernel
theorem dX7_noticed_33 : decode cX7_noticed 33 = .ok (.iload 5, 2) := by decide +kernel
theorem dX7_noticed_35 : decode cX7_noticed 35 = .ok (.aload_n 0, 1) := by decide +kernel
theorem dX7_noticed_36 : decode cX7_noticed 36 = .ok (.getfield 19, 3) := by decide +kernel
theorem dX7_noticed_39 : decode cX7_noticed 39 = .ok (.getfield 51, 3) := by decide +kernel
theorem dX7_noticed_42 : decode cX7_noticed 42 = .ok (.if_icmp .ge 39, 3) := by decide +kernel
theorem dX7_noticed_45 : decode cX7_noticed 45 = .ok (.aload_n 0, 1) := by decide +kernel
theorem dX7_noticed_46 : decode cX7_noticed 46 = .ok (.getfield 9, 3) := by decide +kernel
theorem dX7_noticed_49 : decode cX7_noticed 49 = .ok (.iload 5, 2) := by decide +kernel
theorem dX7_noticed_51 : decode cX7_noticed 51 = .ok (.iaload, 1) := by decide +kernel
theorem dX7_noticed_52 : decode cX7_noticed 52 = .ok (.iconst (-1), 1) := by decide +kernel
theorem dX7_noticed_53 : decode cX7_noticed 53 = .ok (.if_icmp .eq 22, 3) := by decide +kernel
theorem dX7_noticed_56 : decode cX7_noticed 56 = .ok (.aload_n 0, 1) := by decide +kernel
theorem dX7_noticed_57 : decode cX7_noticed 57 = .ok (.iload_n 1, 1) := by decide +kernel
theorem dX7_noticed_58 : decode cX7_noticed 58 = .ok (.iload 5, 2) := by decide +kernel
theorem dX7_noticed_60 : decode cX7_noticed 60 = .ok (.iload 4, 2) := by decide +kernel
theorem dX7_noticed_62 : decode cX7_noticed 62 = .ok (.invokevirtual 54, 3) := by decide +kernel
theorem dX7_noticed_65 : decode cX7_noticed 65 = .ok (.ifCond .eq 10, 3) := by decide +kernel
theorem dX7_noticed_68 : decode cX7_noticed 68 = .ok (.iload_n 2, 1) := by decide +kernel
theorem dX7_noticed_69 : decode cX7_noticed 69 = .ok (.iconst 1, 1) := by decide +kernel
theorem dX7_noticed_70 : decode cX7_noticed 70 = .ok (.iload 5, 2) := by decide +kernel
theorem dX7_noticed_72 : decode cX7_noticed 72 = .ok (.ishl, 1) := by decide +kernel
theorem dX7_noticed_73 : decode cX7_noticed 73 = .ok (.ior, 1) := by decide +kernel
theorem dX7_noticed_74 : decode cX7_noticed 74 = .ok (.istore_n 2, 1) := by decide +kernel
theorem dX7_noticed_75 : decode cX7_noticed 75 = .ok (.iinc 5 1, 3) := by decide +kernel
theorem dX7_noticed_78 : decode cX7_noticed 78 = .ok (.goto (-45), 3) := by decide +kernel
theorem dX7_noticed_81 : decode cX7_noticed 81 = .ok (.iinc 3 1, 3) := by decide +kernel
theorem dX7_noticed_84 : decode cX7_noticed 84 = .ok (.goto (-80), 3) := by decide +kernel
theorem dX7_noticed_87 : decode cX7_noticed 87 = .ok (.iload_n 2, 1) := by decide +kernel
theorem dX7_noticed_88 : decode cX7_noticed 88 = .ok (.ireturn, 1) := by decide +kernel
set_option maxRecDepth 20000 in
theorem ggX7_brings_X2_brought : GoodIn wsX7_brings wsX2_brought := goodIn_r _ [7, 8, 9, 10, 11, 12, 13, 14, 15, 16, 17, 31, 32, 33, 34, 35, 36, 37, 38, 25, 26, 27, 28, 29, 30] (by decide +kernel) (by decide +kernel)
set_option maxRecDepth 20000 in
theorem gX7_brings_X2_brought : GoodIn wsX7_brings (wsV RX7 61 RX2 yX2_brought wsX2_brought) := goodIn_app (goodIn_of _ (by decide +kernel)) ggX7_brings_X2_brought
set_option maxRecDepth 20000 in
theorem ggX7_brings_X8_holds : GoodIn wsX7_brings wsX8_holds := goodIn_r _ [19] (by decide +kernel) (by decide +kernel)
set_option maxRecDepth 20000 in
theorem gX7_brings_X8_holds_n67 : GoodIn wsX7_brings (wsX8_holds) := ggX7_brings_X8_holds
theorem dX7_brings_0 : decode cX7_brings 0 = .ok (.aload_n 0, 1) := by decide +kernel
theorem dX7_brings_1 : decode cX7_brings 1 = .ok (.getfield 27, 3) := by decide +kernel
theorem dX7_brings_4 : decode cX7_brings 4 = .ok (.iload_n 1, 1) := by decide +kernel
theorem dX7_brings_5 : decode cX7_brings 5 = .ok (.iload_n 2, 1) := by decide +kernel
theorem dX7_brings_6 : decode cX7_brings 6 = .ok (.aload_n 0, 1) := by decide +kernel
theorem dX7_brings_7 : decode cX7_brings 7 = .ok (.getfield 19, 3) := by decide +kernel
theorem dX7_brings_10 : decode cX7_brings 10 = .ok (.getfield 58, 3) := by decide +kernel
theorem dX7_brings_13 : decode cX7_brings 13 = .ok (.iload_n 2, 1) := by decide +kernel
theorem dX7_brings_14 : decode cX7_brings 14 = .ok (.iaload, 1) := by decide +kernel
theorem dX7_brings_15 : decode cX7_brings 15 = .ok (.invokevirtual 61, 3) := by decide +kernel
theorem dX7_brings_18 : decode cX7_brings 18 = .ok (.iload_n 3, 1) := by decide +kernel
theorem dX7_brings_19 : decode cX7_brings 19 = .ok (.invokestatic 67, 3) := by decide +kernel
theorem dX7_brings_22 : decode cX7_brings 22 = .ok (.ireturn, 1) := by decide +kernel
set_option maxRecDepth 20000 in
theorem ggX7_goes_X8_holds : GoodIn wsX7_goes wsX8_holds := goodIn_r _ [5] (by decide +kernel) (by decide +kernel)
set_option maxRecDepth 20000 in
theorem gX7_goes_X8_holds_n67 : GoodIn wsX7_goes (wsX8_holds) := ggX7_goes_X8_holds
theorem dX7_goes_0 : decode cX7_goes 0 = .ok (.aload_n 0, 1) := by decide +kernel
theorem dX7_goes_1 : decode cX7_goes 1 = .ok (.getfield 15, 3) := by decide +kernel
theorem dX7_goes_4 : decode cX7_goes 4 = .ok (.getfield 71, 3) := by decide +kernel
theorem dX7_goes_7 : decode cX7_goes 7 = .ok (.aload_n 0, 1) := by decide +kernel
theorem dX7_goes_8 : decode cX7_goes 8 = .ok (.getfield 23, 3) := by decide +kernel
theorem dX7_goes_11 : decode cX7_goes 11 = .ok (.getfield 77, 3) := by decide +kernel
theorem dX7_goes_14 : decode cX7_goes 14 = .ok (.iload_n 2, 1) := by decide +kernel
theorem dX7_goes_15 : decode cX7_goes 15 = .ok (.iaload, 1) := by decide +kernel
theorem dX7_goes_16 : decode cX7_goes 16 = .ok (.laload, 1) := by decide +kernel
theorem dX7_goes_17 : decode cX7_goes 17 = .ok (.iload_n 1, 1) := by decide +kernel
theorem dX7_goes_18 : decode cX7_goes 18 = .ok (.invokestatic 67, 3) := by decide +kernel
theorem dX7_goes_21 : decode cX7_goes 21 = .ok (.ireturn, 1) := by decide +kernel
set_option maxRecDepth 20000 in
theorem ggX7_measure_X7_measureInto : GoodIn wsX7_measure wsX7_measureInto := goodIn_r _ [7, 1, 2, 8, 9, 10, 6, 11, 12, 13, 14, 15, 16, 17, 18, 19, 20, 21, 22, 23, 24, 25, 26, 27, 28, 29, 30, 31, 32] (by decide +kernel) (by decide +kernel)
set_option maxRecDepth 20000 in
theorem gX7_measure_X7_measureInto : GoodIn wsX7_measure (wsV RX7 85 RX7 yX7_measureInto wsX7_measureInto) := goodIn_app (goodIn_of _ (by decide +kernel)) ggX7_measure_X7_measureInto
theorem dX7_measure_0 : decode cX7_measure 0 = .ok (.iconst 0, 1) := by decide +kernel
theorem dX7_measure_1 : decode cX7_measure 1 = .ok (.istore_n 3, 1) := by decide +kernel
theorem dX7_measure_2 : decode cX7_measure 2 = .ok (.iload_n 3, 1) := by decide +kernel
theorem dX7_measure_3 : decode cX7_measure 3 = .ok (.bipush 24, 2) := by decide +kernel
theorem dX7_measure_5 : decode cX7_measure 5 = .ok (.if_icmp .ge 16, 3) := by decide +kernel
theorem dX7_measure_8 : decode cX7_measure 8 = .ok (.aload_n 0, 1) := by decide +kernel
theorem dX7_measure_9 : decode cX7_measure 9 = .ok (.getfield 9, 3) := by decide +kernel
theorem dX7_measure_12 : decode cX7_measure 12 = .ok (.iload_n 3, 1) := by decide +kernel
theorem dX7_measure_13 : decode cX7_measure 13 = .ok (.iconst (-1), 1) := by decide +kernel
theorem dX7_measure_14 : decode cX7_measure 14 = .ok (.iastore, 1) := by decide +kernel
theorem dX7_measure_15 : decode cX7_measure 15 = .ok (.iinc 3 1, 3) := by decide +kernel
theorem dX7_measure_18 : decode cX7_measure 18 = .ok (.goto (-16), 3) := by decide +kernel
theorem dX7_measure_21 : decode cX7_measure 21 = .ok (.aload_n 0, 1) := by decide +kernel
theorem dX7_measure_22 : decode cX7_measure 22 = .ok (.getfield 9, 3) := by decide +kernel
theorem dX7_measure_25 : decode cX7_measure 25 = .ok (.iload_n 2, 1) := by decide +kernel
theorem dX7_measure_26 : decode cX7_measure 26 = .ok (.iconst 0, 1) := by decide +kernel
theorem dX7_measure_27 : decode cX7_measure 27 = .ok (.iastore, 1) := by decide +kernel
theorem dX7_measure_28 : decode cX7_measure 28 = .ok (.bipush 23, 2) := by decide +kernel
theorem dX7_measure_30 : decode cX7_measure 30 = .ok (.istore_n 3, 1) := by decide +kernel
theorem dX7_measure_31 : decode cX7_measure 31 = .ok (.iload_n 3, 1) := by decide +kernel
theorem dX7_measure_32 : decode cX7_measure 32 = .ok (.ifCond .lt 38, 3) := by decide +kernel
theorem dX7_measure_35 : decode cX7_measure 35 = .ok (.aload_n 0, 1) := by decide +kernel
theorem dX7_measure_36 : decode cX7_measure 36 = .ok (.getfield 23, 3) := by decide +kernel
theorem dX7_measure_39 : decode cX7_measure 39 = .ok (.getfield 82, 3) := by decide +kernel
theorem dX7_measure_42 : decode cX7_measure 42 = .ok (.iload_n 3, 1) := by decide +kernel
theorem dX7_measure_43 : decode cX7_measure 43 = .ok (.iaload, 1) := by decide +kernel
theorem dX7_measure_44 : decode cX7_measure 44 = .ok (.istore 4, 2) := by decide +kernel
theorem dX7_measure_46 : decode cX7_measure 46 = .ok (.aload_n 0, 1) := by decide +kernel
theorem dX7_measure_47 : decode cX7_measure 47 = .ok (.getfield 9, 3) := by decide +kernel
theorem dX7_measure_50 : decode cX7_measure 50 = .ok (.iload 4, 2) := by decide +kernel
theorem dX7_measure_52 : decode cX7_measure 52 = .ok (.iaload, 1) := by decide +kernel
theorem dX7_measure_53 : decode cX7_measure 53 = .ok (.iconst (-1), 1) := by decide +kernel
theorem dX7_measure_54 : decode cX7_measure 54 = .ok (.if_icmp .eq 10, 3) := by decide +kernel
theorem dX7_measure_57 : decode cX7_measure 57 = .ok (.aload_n 0, 1) := by decide +kernel
theorem dX7_measure_58 : decode cX7_measure 58 = .ok (.iload_n 1, 1) := by decide +kernel
theorem dX7_measure_59 : decode cX7_measure 59 = .ok (.iload 4, 2) := by decide +kernel
theorem dX7_measure_61 : decode cX7_measure 61 = .ok (.invokevirtual 85, 3) := by decide +kernel
theorem dX7_measure_64 : decode cX7_measure 64 = .ok (.iinc 3 (-1), 3) := by decide +kernel
theorem dX7_measure_67 : decode cX7_measure 67 = .ok (.goto (-36), 3) := by decide +kernel
theorem dX7_measure_70 : decode cX7_measure 70 = .ok (.return_, 1) := by decide +kernel
set_option maxRecDepth 20000 in
theorem ggX7_measureInto_X7_goes : GoodIn wsX7_measureInto wsX7_goes := goodIn_r _ [7, 8, 2, 9, 10, 11, 12, 13, 14, 15, 16, 26, 27, 28, 17, 18, 19, 20, 21, 22, 23, 24, 25] (by decide +kernel) (by decide +kernel)
set_option maxRecDepth 20000 in
theorem gX7_measureInto_X7_goes : GoodIn wsX7_measureInto (wsV RX7 100 RX7 yX7_goes wsX7_goes) := goodIn_app (goodIn_of _ (by decide +kernel)) ggX7_measureInto_X7_goes
theorem dX7_measureInto_0 : decode cX7_measureInto 0 = .ok (.aload_n 0, 1) := by decide +kernel
theorem dX7_measureInto_1 : decode cX7_measureInto 1 = .ok (.getfield 9, 3) := by decide +kernel
theorem dX7_measureInto_4 : decode cX7_measureInto 4 = .ok (.iload_n 2, 1) := by decide +kernel
theorem dX7_measureInto_5 : decode cX7_measureInto 5 = .ok (.iaload, 1) := by decide +kernel
theorem dX7_measureInto_6 : decode cX7_measureInto 6 = .ok (.iconst 1, 1) := by decide +kernel
theorem dX7_measureInto_7 : decode cX7_measureInto 7 = .ok (.iadd, 1) := by decide +kernel
theorem dX7_measureInto_8 : decode cX7_measureInto 8 = .ok (.istore_n 3, 1) := by decide +kernel
theorem dX7_measureInto_9 : decode cX7_measureInto 9 = .ok (.aload_n 0, 1) := by decide +kernel
theorem dX7_measureInto_10 : decode cX7_measureInto 10 = .ok (.getfield 23, 3) := by decide +kernel
theorem dX7_measureInto_13 : decode cX7_measureInto 13 = .ok (.getfield 88, 3) := by decide +kernel
theorem dX7_measureInto_16 : decode cX7_measureInto 16 = .ok (.iload_n 2, 1) := by decide +kernel
theorem dX7_measureInto_17 : decode cX7_measureInto 17 = .ok (.iaload, 1) := by decide +kernel
theorem dX7_measureInto_18 : decode cX7_measureInto 18 = .ok (.istore 4, 2) := by decide +kernel
theorem dX7_measureInto_20 : decode cX7_measureInto 20 = .ok (.iload 4, 2) := by decide +kernel
theorem dX7_measureInto_22 : decode cX7_measureInto 22 = .ok (.aload_n 0, 1) := by decide +kernel
theorem dX7_measureInto_23 : decode cX7_measureInto 23 = .ok (.getfield 23, 3) := by decide +kernel
end
section
theorem dX7_measureInto_26 : decode cX7_measureInto 26 = .ok (.getfield 91, 3) := by decide +kernel
theorem dX7_measureInto_29 : decode cX7_measureInto 29 = .ok (.iload_n 2, 1) := by decide +kernel
theorem dX7_measureInto_30 : decode cX7_measureInto 30 = .ok (.iaload, 1) := by decide +kernel
theorem dX7_measureInto_31 : decode cX7_measureInto 31 = .ok (.if_icmp .ge 73, 3) := by decide +kernel
theorem dX7_measureInto_34 : decode cX7_measureInto 34 = .ok (.aload_n 0, 1) := by decide +kernel
theorem dX7_measureInto_35 : decode cX7_measureInto 35 = .ok (.getfield 23, 3) := by decide +kernel
theorem dX7_measureInto_38 : decode cX7_measureInto 38 = .ok (.getfield 94, 3) := by decide +kernel
theorem dX7_measureInto_41 : decode cX7_measureInto 41 = .ok (.iload 4, 2) := by decide +kernel
theorem dX7_measureInto_43 : decode cX7_measureInto 43 = .ok (.iaload, 1) := by decide +kernel
theorem dX7_measureInto_44 : decode cX7_measureInto 44 = .ok (.istore 5, 2) := by decide +kernel
theorem dX7_measureInto_46 : decode cX7_measureInto 46 = .ok (.aload_n 0, 1) := by decide +kernel
theorem dX7_measureInto_47 : decode cX7_measureInto 47 = .ok (.getfield 23, 3) := by decide +kernel
theorem dX7_measureInto_50 : decode cX7_measureInto 50 = .ok (.getfield 97, 3) := by decide +kernel
theorem dX7_measureInto_53 : decode cX7_measureInto 53 = .ok (.iload 5, 2) := by decide +kernel
theorem dX7_measureInto_55 : decode cX7_measureInto 55 = .ok (.iaload, 1) := by decide +kernel
theorem dX7_measureInto_56 : decode cX7_measureInto 56 = .ok (.istore 6, 2) := by decide +kernel
theorem dX7_measureInto_58 : decode cX7_measureInto 58 = .ok (.aload_n 0, 1) := by decide +kernel
theorem dX7_measureInto_59 : decode cX7_measureInto 59 = .ok (.iload_n 1, 1) := by decide +kernel
theorem dX7_measureInto_60 : decode cX7_measureInto 60 = .ok (.iload 5, 2) := by decide +kernel
theorem dX7_measureInto_62 : decode cX7_measureInto 62 = .ok (.invokevirtual 100, 3) := by decide +kernel
theorem dX7_measureInto_65 : decode cX7_measureInto 65 = .ok (.ifCond .eq 33, 3) := by decide +kernel
theorem dX7_measureInto_68 : decode cX7_measureInto 68 = .ok (.aload_n 0, 1) := by decide +kernel
theorem dX7_measureInto_69 : decode cX7_measureInto 69 = .ok (.getfield 9, 3) := by decide +kernel
theorem dX7_measureInto_72 : decode cX7_measureInto 72 = .ok (.iload 6, 2) := by decide +kernel
theorem dX7_measureInto_74 : decode cX7_measureInto 74 = .ok (.iaload, 1) := by decide +kernel
theorem dX7_measureInto_75 : decode cX7_measureInto 75 = .ok (.iconst (-1), 1) := by decide +kernel
theorem dX7_measureInto_76 : decode cX7_measureInto 76 = .ok (.if_icmp .eq 14, 3) := by decide +kernel
theorem dX7_measureInto_79 : decode cX7_measureInto 79 = .ok (.aload_n 0, 1) := by decide +kernel
theorem dX7_measureInto_80 : decode cX7_measureInto 80 = .ok (.getfield 9, 3) := by decide +kernel
theorem dX7_measureInto_83 : decode cX7_measureInto 83 = .ok (.iload 6, 2) := by decide +kernel
theorem dX7_measureInto_85 : decode cX7_measureInto 85 = .ok (.iaload, 1) := by decide +kernel
theorem dX7_measureInto_86 : decode cX7_measureInto 86 = .ok (.iload_n 3, 1) := by decide +kernel
theorem dX7_measureInto_87 : decode cX7_measureInto 87 = .ok (.if_icmp .le 11, 3) := by decide +kernel
theorem dX7_measureInto_90 : decode cX7_measureInto 90 = .ok (.aload_n 0, 1) := by decide +kernel
theorem dX7_measureInto_91 : decode cX7_measureInto 91 = .ok (.getfield 9, 3) := by decide +kernel
theorem dX7_measureInto_94 : decode cX7_measureInto 94 = .ok (.iload 6, 2) := by decide +kernel
theorem dX7_measureInto_96 : decode cX7_measureInto 96 = .ok (.iload_n 3, 1) := by decide +kernel
theorem dX7_measureInto_97 : decode cX7_measureInto 97 = .ok (.iastore, 1) := by decide +kernel
theorem dX7_measureInto_98 : decode cX7_measureInto 98 = .ok (.iinc 4 1, 3) := by decide +kernel
theorem dX7_measureInto_101 : decode cX7_measureInto 101 = .ok (.goto (-81), 3) := by decide +kernel
theorem dX7_measureInto_104 : decode cX7_measureInto 104 = .ok (.return_, 1) := by decide +kernel
set_option maxRecDepth 20000 in
theorem ggX7_source_X7_brings : GoodIn wsX7_source wsX7_brings := goodIn_r _ [7, 8, 1, 9, 10, 11, 12, 13, 14, 15, 16, 17, 18, 19, 20, 21, 22, 23, 24, 25, 26, 27, 28, 29, 30, 31, 32, 33, 34, 35, 36, 37, 38, 39, 40, 41, 42, 43, 44] (by decide +kernel) (by decide +kernel)
set_option maxRecDepth 20000 in
theorem gX7_source_X7_brings : GoodIn wsX7_source (wsV RX7 54 RX7 yX7_brings wsX7_brings) := goodIn_app (goodIn_of _ (by decide +kernel)) ggX7_source_X7_brings
theorem dX7_source_0 : decode cX7_source 0 = .ok (.iconst (-1), 1) := by decide +kernel
theorem dX7_source_1 : decode cX7_source 1 = .ok (.istore_n 3, 1) := by decide +kernel
theorem dX7_source_2 : decode cX7_source 2 = .ok (.iconst 0, 1) := by decide +kernel
theorem dX7_source_3 : decode cX7_source 3 = .ok (.istore 4, 2) := by decide +kernel
theorem dX7_source_5 : decode cX7_source 5 = .ok (.iload 4, 2) := by decide +kernel
theorem dX7_source_7 : decode cX7_source 7 = .ok (.aload_n 0, 1) := by decide +kernel
theorem dX7_source_8 : decode cX7_source 8 = .ok (.getfield 19, 3) := by decide +kernel
theorem dX7_source_11 : decode cX7_source 11 = .ok (.getfield 51, 3) := by decide +kernel
theorem dX7_source_14 : decode cX7_source 14 = .ok (.if_icmp .ge 67, 3) := by decide +kernel
theorem dX7_source_17 : decode cX7_source 17 = .ok (.aload_n 0, 1) := by decide +kernel
theorem dX7_source_18 : decode cX7_source 18 = .ok (.getfield 9, 3) := by decide +kernel
theorem dX7_source_21 : decode cX7_source 21 = .ok (.iload 4, 2) := by decide +kernel
theorem dX7_source_23 : decode cX7_source 23 = .ok (.iaload, 1) := by decide +kernel
theorem dX7_source_24 : decode cX7_source 24 = .ok (.iconst (-1), 1) := by decide +kernel
theorem dX7_source_25 : decode cX7_source 25 = .ok (.if_icmp .eq 28, 3) := by decide +kernel
theorem dX7_source_28 : decode cX7_source 28 = .ok (.iload_n 3, 1) := by decide +kernel
theorem dX7_source_29 : decode cX7_source 29 = .ok (.iconst (-1), 1) := by decide +kernel
theorem dX7_source_30 : decode cX7_source 30 = .ok (.if_icmp .eq 19, 3) := by decide +kernel
theorem dX7_source_33 : decode cX7_source 33 = .ok (.aload_n 0, 1) := by decide +kernel
theorem dX7_source_34 : decode cX7_source 34 = .ok (.getfield 9, 3) := by decide +kernel
theorem dX7_source_37 : decode cX7_source 37 = .ok (.iload 4, 2) := by decide +kernel
theorem dX7_source_39 : decode cX7_source 39 = .ok (.iaload, 1) := by decide +kernel
theorem dX7_source_40 : decode cX7_source 40 = .ok (.aload_n 0, 1) := by decide +kernel
theorem dX7_source_41 : decode cX7_source 41 = .ok (.getfield 9, 3) := by decide +kernel
theorem dX7_source_44 : decode cX7_source 44 = .ok (.iload_n 3, 1) := by decide +kernel
theorem dX7_source_45 : decode cX7_source 45 = .ok (.iaload, 1) := by decide +kernel
theorem dX7_source_46 : decode cX7_source 46 = .ok (.if_icmp .ge 7, 3) := by decide +kernel
theorem dX7_source_49 : decode cX7_source 49 = .ok (.iconst 1, 1) := by decide +kernel
theorem dX7_source_50 : decode cX7_source 50 = .ok (.goto 4, 3) := by decide +kernel
theorem dX7_source_53 : decode cX7_source 53 = .ok (.iconst 0, 1) := by decide +kernel
theorem dX7_source_54 : decode cX7_source 54 = .ok (.istore 5, 2) := by decide +kernel
theorem dX7_source_56 : decode cX7_source 56 = .ok (.iload 5, 2) := by decide +kernel
theorem dX7_source_58 : decode cX7_source 58 = .ok (.ifCond .eq 17, 3) := by decide +kernel
theorem dX7_source_61 : decode cX7_source 61 = .ok (.aload_n 0, 1) := by decide +kernel
theorem dX7_source_62 : decode cX7_source 62 = .ok (.iload_n 1, 1) := by decide +kernel
theorem dX7_source_63 : decode cX7_source 63 = .ok (.iload 4, 2) := by decide +kernel
theorem dX7_source_65 : decode cX7_source 65 = .ok (.iload_n 2, 1) := by decide +kernel
theorem dX7_source_66 : decode cX7_source 66 = .ok (.invokevirtual 54, 3) := by decide +kernel
theorem dX7_source_69 : decode cX7_source 69 = .ok (.ifCond .eq 6, 3) := by decide +kernel
theorem dX7_source_72 : decode cX7_source 72 = .ok (.iload 4, 2) := by decide +kernel
theorem dX7_source_74 : decode cX7_source 74 = .ok (.istore_n 3, 1) := by decide +kernel
theorem dX7_source_75 : decode cX7_source 75 = .ok (.iinc 4 1, 3) := by decide +kernel
theorem dX7_source_78 : decode cX7_source 78 = .ok (.goto (-73), 3) := by decide +kernel
theorem dX7_source_81 : decode cX7_source 81 = .ok (.iload_n 3, 1) := by decide +kernel
theorem dX7_source_82 : decode cX7_source 82 = .ok (.ireturn, 1) := by decide +kernel
set_option maxRecDepth 20000 in
theorem ggX7_next_X3_isThere : GoodIn wsX7_next wsX3_isThere := goodIn_r _ [7, 8, 9, 10, 11, 12, 13, 14, 26, 27, 28, 29, 30, 31, 32, 33, 34] (by decide +kernel) (by decide +kernel)
set_option maxRecDepth 20000 in
theorem gX7_next_X3_isThere : GoodIn wsX7_next (wsV RX7 108 RX3 yX3_isThere wsX3_isThere) := goodIn_app (goodIn_of _ (by decide +kernel)) ggX7_next_X3_isThere
set_option maxRecDepth 20000 in
theorem ggX7_next_X7_goes : GoodIn wsX7_next wsX7_goes := goodIn_r _ [19, 20, 1, 13, 11, 14, 21, 22, 23, 24, 25, 35, 36, 37, 26, 27, 28, 29, 30, 31, 32, 33, 34] (by decide +kernel) (by decide +kernel)
set_option maxRecDepth 20000 in
theorem gX7_next_X7_goes : GoodIn wsX7_next (wsV RX7 100 RX7 yX7_goes wsX7_goes) := goodIn_app (goodIn_of _ (by decide +kernel)) ggX7_next_X7_goes
theorem dX7_next_0 : decode cX7_next 0 = .ok (.iconst (-1), 1) := by decide +kernel
theorem dX7_next_1 : decode cX7_next 1 = .ok (.istore_n 3, 1) := by decide +kernel
theorem dX7_next_2 : decode cX7_next 2 = .ok (.iconst 0, 1) := by decide +kernel
theorem dX7_next_3 : decode cX7_next 3 = .ok (.istore 4, 2) := by decide +kernel
theorem dX7_next_5 : decode cX7_next 5 = .ok (.iload 4, 2) := by decide +kernel
theorem dX7_next_7 : decode cX7_next 7 = .ok (.aload_n 0, 1) := by decide +kernel
theorem dX7_next_8 : decode cX7_next 8 = .ok (.getfield 23, 3) := by decide +kernel
theorem dX7_next_11 : decode cX7_next 11 = .ok (.getfield 104, 3) := by decide +kernel
theorem dX7_next_14 : decode cX7_next 14 = .ok (.if_icmp .ge 101, 3) := by decide +kernel
theorem dX7_next_17 : decode cX7_next 17 = .ok (.aload_n 0, 1) := by decide +kernel
theorem dX7_next_18 : decode cX7_next 18 = .ok (.getfield 23, 3) := by decide +kernel
theorem dX7_next_21 : decode cX7_next 21 = .ok (.getfield 105, 3) := by decide +kernel
theorem dX7_next_24 : decode cX7_next 24 = .ok (.iload 4, 2) := by decide +kernel
theorem dX7_next_26 : decode cX7_next 26 = .ok (.iaload, 1) := by decide +kernel
theorem dX7_next_27 : decode cX7_next 27 = .ok (.istore 5, 2) := by decide +kernel
theorem dX7_next_29 : decode cX7_next 29 = .ok (.aload_n 0, 1) := by decide +kernel
theorem dX7_next_30 : decode cX7_next 30 = .ok (.getfield 23, 3) := by decide +kernel
theorem dX7_next_33 : decode cX7_next 33 = .ok (.iload 4, 2) := by decide +kernel
theorem dX7_next_35 : decode cX7_next 35 = .ok (.invokevirtual 108, 3) := by decide +kernel
theorem dX7_next_38 : decode cX7_next 38 = .ok (.ifCond .eq 49, 3) := by decide +kernel
theorem dX7_next_41 : decode cX7_next 41 = .ok (.aload_n 0, 1) := by decide +kernel
theorem dX7_next_42 : decode cX7_next 42 = .ok (.getfield 23, 3) := by decide +kernel
theorem dX7_next_45 : decode cX7_next 45 = .ok (.getfield 97, 3) := by decide +kernel
theorem dX7_next_48 : decode cX7_next 48 = .ok (.iload 4, 2) := by decide +kernel
theorem dX7_next_50 : decode cX7_next 50 = .ok (.iaload, 1) := by decide +kernel
theorem dX7_next_51 : decode cX7_next 51 = .ok (.iload_n 2, 1) := by decide +kernel
theorem dX7_next_52 : decode cX7_next 52 = .ok (.if_icmp .ne 35, 3) := by decide +kernel
theorem dX7_next_55 : decode cX7_next 55 = .ok (.aload_n 0, 1) := by decide +kernel
theorem dX7_next_56 : decode cX7_next 56 = .ok (.iload_n 1, 1) := by decide +kernel
theorem dX7_next_57 : decode cX7_next 57 = .ok (.iload 4, 2) := by decide +kernel
theorem dX7_next_59 : decode cX7_next 59 = .ok (.invokevirtual 100, 3) := by decide +kernel
theorem dX7_next_62 : decode cX7_next 62 = .ok (.ifCond .eq 25, 3) := by decide +kernel
theorem dX7_next_65 : decode cX7_next 65 = .ok (.aload_n 0, 1) := by decide +kernel
theorem dX7_next_66 : decode cX7_next 66 = .ok (.getfield 9, 3) := by decide +kernel
theorem dX7_next_69 : decode cX7_next 69 = .ok (.iload 5, 2) := by decide +kernel
theorem dX7_next_71 : decode cX7_next 71 = .ok (.iaload, 1) := by decide +kernel
theorem dX7_next_72 : decode cX7_next 72 = .ok (.aload_n 0, 1) := by decide +kernel
theorem dX7_next_73 : decode cX7_next 73 = .ok (.getfield 9, 3) := by decide +kernel
theorem dX7_next_76 : decode cX7_next 76 = .ok (.iload_n 2, 1) := by decide +kernel
theorem dX7_next_77 : decode cX7_next 77 = .ok (.iaload, 1) := by decide +kernel
theorem dX7_next_78 : decode cX7_next 78 = .ok (.iconst 1, 1) := by decide +kernel
theorem dX7_next_79 : decode cX7_next 79 = .ok (.isub, 1) := by decide +kernel
theorem dX7_next_80 : decode cX7_next 80 = .ok (.if_icmp .ne 7, 3) := by decide +kernel
theorem dX7_next_83 : decode cX7_next 83 = .ok (.iconst 1, 1) := by decide +kernel
theorem dX7_next_84 : decode cX7_next 84 = .ok (.goto 4, 3) := by decide +kernel
theorem dX7_next_87 : decode cX7_next 87 = .ok (.iconst 0, 1) := by decide +kernel
theorem dX7_next_88 : decode cX7_next 88 = .ok (.istore 6, 2) := by decide +kernel
theorem dX7_next_90 : decode cX7_next 90 = .ok (.iload 6, 2) := by decide +kernel
theorem dX7_next_92 : decode cX7_next 92 = .ok (.ifCond .eq 17, 3) := by decide +kernel
theorem dX7_next_95 : decode cX7_next 95 = .ok (.iload_n 3, 1) := by decide +kernel
theorem dX7_next_96 : decode cX7_next 96 = .ok (.iconst (-1), 1) := by decide +kernel
theorem dX7_next_97 : decode cX7_next 97 = .ok (.if_icmp .eq 9, 3) := by decide +kernel
theorem dX7_next_100 : decode cX7_next 100 = .ok (.iload 5, 2) := by decide +kernel
theorem dX7_next_102 : decode cX7_next 102 = .ok (.iload_n 3, 1) := by decide +kernel
theorem dX7_next_103 : decode cX7_next 103 = .ok (.if_icmp .ge 6, 3) := by decide +kernel
theorem dX7_next_106 : decode cX7_next 106 = .ok (.iload 5, 2) := by decide +kernel
theorem dX7_next_108 : decode cX7_next 108 = .ok (.istore_n 3, 1) := by decide +kernel
theorem dX7_next_109 : decode cX7_next 109 = .ok (.iinc 4 1, 3) := by decide +kernel
theorem dX7_next_112 : decode cX7_next 112 = .ok (.goto (-107), 3) := by decide +kernel
theorem dX7_next_115 : decode cX7_next 115 = .ok (.iload_n 3, 1) := by decide +kernel
theorem dX7_next_116 : decode cX7_next 116 = .ok (.ireturn, 1) := by decide +kernel
set_option maxRecDepth 20000 in
theorem ggX8_init_X6_init : GoodIn wsX8_init wsX6_init := goodIn_r _ [37, 38, 2, 3, 39, 40, 41, 42, 107, 108, 109] (by decide +kernel) (by decide +kernel)
set_option maxRecDepth 20000 in
theorem gX8_init_X6_init_n9 : GoodIn wsX8_init (wsX6_init) := ggX8_init_X6_init
set_option maxRecDepth 20000 in
theorem ggX8_init_X5_init : GoodIn wsX8_init wsX5_init := goodIn_r _ [44, 45, 2, 3, 46, 47, 48, 49, 39, 50, 118, 119, 120, 121, 122, 123] (by decide +kernel) (by decide +kernel)
set_option maxRecDepth 20000 in
theorem gX8_init_X5_init_n18 : GoodIn wsX8_init (wsX5_init) := ggX8_init_X5_init
set_option maxRecDepth 20000 in
theorem ggX8_init_X3_init : GoodIn wsX8_init wsX3_init := goodIn_r _ [53, 54, 2, 3, 46, 55, 56, 57, 58, 59, 60, 61, 124, 125, 126, 127, 128, 129, 130, 131, 132] (by decide +kernel) (by decide +kernel)
set_option maxRecDepth 20000 in
theorem gX8_init_X3_init : GoodIn wsX8_init (wsX3_init) := ggX8_init_X3_init
set_option maxRecDepth 20000 in
theorem ggX8_init_X0_init : GoodIn wsX8_init wsX0_init := goodIn_r _ [63, 64, 2, 3, 46, 65, 66, 67, 68, 133, 134, 135, 136, 137] (by decide +kernel) (by decide +kernel)
set_option maxRecDepth 20000 in
theorem gX8_init_X0_init_n32 : GoodIn wsX8_init (wsX0_init) := ggX8_init_X0_init
set_option maxRecDepth 20000 in
theorem ggX8_init_X2_init : GoodIn wsX8_init wsX2_init := goodIn_r _ [71, 72, 2, 3, 39, 73, 74, 75, 76, 77, 138, 139, 140, 141, 142] (by decide +kernel) (by decide +kernel)
set_option maxRecDepth 20000 in
theorem gX8_init_X2_init : GoodIn wsX8_init (wsX2_init) := ggX8_init_X2_init
set_option maxRecDepth 20000 in
theorem ggX8_init_X1_init : GoodIn wsX8_init wsX1_init := goodIn_r _ [80, 81, 2, 3, 46, 82, 83, 84, 85, 86, 87, 88, 143, 144, 145, 146, 147, 148, 149, 150, 151, 152] (by decide +kernel) (by decide +kernel)
set_option maxRecDepth 20000 in
theorem gX8_init_X1_init : GoodIn wsX8_init (wsX1_init) := ggX8_init_X1_init
set_option maxRecDepth 20000 in
theorem ggX8_init_X4_init : GoodIn wsX8_init wsX4_init := goodIn_r _ [91, 92, 2, 3, 46, 93, 94, 95, 96, 97, 153, 154, 155, 156, 157] (by decide +kernel) (by decide +kernel)
set_option maxRecDepth 20000 in
theorem gX8_init_X4_init : GoodIn wsX8_init (wsX4_init) := ggX8_init_X4_init
set_option maxRecDepth 20000 in
theorem ggX8_init_X7_init : GoodIn wsX8_init wsX7_init := goodIn_r _ [100, 101, 2, 3, 46, 102, 103, 104, 105, 106, 158, 159, 160, 161, 162] (by decide +kernel) (by decide +kernel)
set_option maxRecDepth 20000 in
theorem gX8_init_X7_init : GoodIn wsX8_init (wsX7_init) := ggX8_init_X7_init
theorem dX8_init_0 : decode cX8_init 0 = .ok (.aload_n 0, 1) := by decide +kernel
theorem dX8_init_1 : decode cX8_init 1 = .ok (.invokespecial 1, 3) := by decide +kernel
theorem dX8_init_4 : decode cX8_init 4 = .ok (.aload_n 0, 1) := by decide +kernel
theorem dX8_init_5 : decode cX8_init 5 = .ok (.new 7, 3) := by decide +kernel
theorem dX8_init_8 : decode cX8_init 8 = .ok (.dup, 1) := by decide +kernel
theorem dX8_init_9 : decode cX8_init 9 = .ok (.invokespecial 9, 3) := by decide +kernel
theorem dX8_init_12 : decode cX8_init 12 = .ok (.putfield 10, 3) := by decide +kernel
theorem dX8_init_15 : decode cX8_init 15 = .ok (.aload_n 0, 1) := by decide +kernel
theorem dX8_init_16 : decode cX8_init 16 = .ok (.new 16, 3) := by decide +kernel
theorem dX8_init_19 : decode cX8_init 19 = .ok (.dup, 1) := by decide +kernel
theorem dX8_init_20 : decode cX8_init 20 = .ok (.invokespecial 18, 3) := by decide +kernel
theorem dX8_init_23 : decode cX8_init 23 = .ok (.putfield 19, 3) := by decide +kernel
theorem dX8_init_26 : decode cX8_init 26 = .ok (.aload_n 0, 1) := by decide +kernel
theorem dX8_init_27 : decode cX8_init 27 = .ok (.new 23, 3) := by decide +kernel
theorem dX8_init_30 : decode cX8_init 30 = .ok (.dup, 1) := by decide +kernel
theorem dX8_init_31 : decode cX8_init 31 = .ok (.invokespecial 25, 3) := by decide +kernel
theorem dX8_init_34 : decode cX8_init 34 = .ok (.putfield 26, 3) := by decide +kernel
theorem dX8_init_37 : decode cX8_init 37 = .ok (.aload_n 0, 1) := by decide +kernel
theorem dX8_init_38 : decode cX8_init 38 = .ok (.new 30, 3) := by decide +kernel
theorem dX8_init_41 : decode cX8_init 41 = .ok (.dup, 1) := by decide +kernel
theorem dX8_init_42 : decode cX8_init 42 = .ok (.invokespecial 32, 3) := by decide +kernel
theorem dX8_init_45 : decode cX8_init 45 = .ok (.putfield 33, 3) := by decide +kernel
theorem dX8_init_48 : decode cX8_init 48 = .ok (.aload_n 0, 1) := by decide +kernel
theorem dX8_init_49 : decode cX8_init 49 = .ok (.new 37, 3) := by decide +kernel
theorem dX8_init_52 : decode cX8_init 52 = .ok (.dup, 1) := by decide +kernel
theorem dX8_init_53 : decode cX8_init 53 = .ok (.aload_n 0, 1) := by decide +kernel
theorem dX8_init_54 : decode cX8_init 54 = .ok (.getfield 10, 3) := by decide +kernel
theorem dX8_init_57 : decode cX8_init 57 = .ok (.aload_n 0, 1) := by decide +kernel
theorem dX8_init_58 : decode cX8_init 58 = .ok (.getfield 19, 3) := by decide +kernel
theorem dX8_init_61 : decode cX8_init 61 = .ok (.aload_n 0, 1) := by decide +kernel
theorem dX8_init_62 : decode cX8_init 62 = .ok (.getfield 26, 3) := by decide +kernel
theorem dX8_init_65 : decode cX8_init 65 = .ok (.invokespecial 39, 3) := by decide +kernel
theorem dX8_init_68 : decode cX8_init 68 = .ok (.putfield 42, 3) := by decide +kernel
theorem dX8_init_71 : decode cX8_init 71 = .ok (.aload_n 0, 1) := by decide +kernel
theorem dX8_init_72 : decode cX8_init 72 = .ok (.new 46, 3) := by decide +kernel
theorem dX8_init_75 : decode cX8_init 75 = .ok (.dup, 1) := by decide +kernel
theorem dX8_init_76 : decode cX8_init 76 = .ok (.aload_n 0, 1) := by decide +kernel
theorem dX8_init_77 : decode cX8_init 77 = .ok (.getfield 19, 3) := by decide +kernel
theorem dX8_init_80 : decode cX8_init 80 = .ok (.aload_n 0, 1) := by decide +kernel
theorem dX8_init_81 : decode cX8_init 81 = .ok (.getfield 26, 3) := by decide +kernel
theorem dX8_init_84 : decode cX8_init 84 = .ok (.aload_n 0, 1) := by decide +kernel
theorem dX8_init_85 : decode cX8_init 85 = .ok (.getfield 42, 3) := by decide +kernel
theorem dX8_init_88 : decode cX8_init 88 = .ok (.invokespecial 48, 3) := by decide +kernel
theorem dX8_init_91 : decode cX8_init 91 = .ok (.putfield 51, 3) := by decide +kernel
theorem dX8_init_94 : decode cX8_init 94 = .ok (.aload_n 0, 1) := by decide +kernel
theorem dX8_init_95 : decode cX8_init 95 = .ok (.new 55, 3) := by decide +kernel
theorem dX8_init_98 : decode cX8_init 98 = .ok (.dup, 1) := by decide +kernel
theorem dX8_init_99 : decode cX8_init 99 = .ok (.aload_n 0, 1) := by decide +kernel
theorem dX8_init_100 : decode cX8_init 100 = .ok (.getfield 19, 3) := by decide +kernel
theorem dX8_init_103 : decode cX8_init 103 = .ok (.aload_n 0, 1) := by decide +kernel
theorem dX8_init_104 : decode cX8_init 104 = .ok (.getfield 26, 3) := by decide +kernel
theorem dX8_init_107 : decode cX8_init 107 = .ok (.aload_n 0, 1) := by decide +kernel
theorem dX8_init_108 : decode cX8_init 108 = .ok (.getfield 33, 3) := by decide +kernel
theorem dX8_init_111 : decode cX8_init 111 = .ok (.aload_n 0, 1) := by decide +kernel
theorem dX8_init_112 : decode cX8_init 112 = .ok (.getfield 42, 3) := by decide +kernel
theorem dX8_init_115 : decode cX8_init 115 = .ok (.invokespecial 57, 3) := by decide +kernel
theorem dX8_init_118 : decode cX8_init 118 = .ok (.putfield 60, 3) := by decide +kernel
theorem dX8_init_121 : decode cX8_init 121 = .ok (.aload_n 0, 1) := by decide +kernel
theorem dX8_init_122 : decode cX8_init 122 = .ok (.new 64, 3) := by decide +kernel
theorem dX8_init_125 : decode cX8_init 125 = .ok (.dup, 1) := by decide +kernel
theorem dX8_init_126 : decode cX8_init 126 = .ok (.aload_n 0, 1) := by decide +kernel
theorem dX8_init_127 : decode cX8_init 127 = .ok (.getfield 10, 3) := by decide +kernel
theorem dX8_init_130 : decode cX8_init 130 = .ok (.aload_n 0, 1) := by decide +kernel
theorem dX8_init_131 : decode cX8_init 131 = .ok (.getfield 19, 3) := by decide +kernel
theorem dX8_init_134 : decode cX8_init 134 = .ok (.aload_n 0, 1) := by decide +kernel
theorem dX8_init_135 : decode cX8_init 135 = .ok (.getfield 26, 3) := by decide +kernel
theorem dX8_init_138 : decode cX8_init 138 = .ok (.aload_n 0, 1) := by decide +kernel
theorem dX8_init_139 : decode cX8_init 139 = .ok (.getfield 42, 3) := by decide +kernel
theorem dX8_init_142 : decode cX8_init 142 = .ok (.invokespecial 66, 3) := by decide +kernel
theorem dX8_init_145 : decode cX8_init 145 = .ok (.putfield 69, 3) := by decide +kernel
theorem dX8_init_148 : decode cX8_init 148 = .ok (.return_, 1) := by decide +kernel
set_option maxRecDepth 20000 in
theorem ggX8_asks_X8_isPair : GoodIn wsX8_asks wsX8_isPair := goodIn_r _ [5, 6, 7, 4, 8] (by decide +kernel) (by decide +kernel)
set_option maxRecDepth 20000 in
theorem gX8_asks_X8_isPair : GoodIn wsX8_asks (va_wsS RX8 73 yX8_isPair wsX8_isPair) := goodIn_app (goodIn_of _ (by decide +kernel)) ggX8_asks_X8_isPair
set_option maxRecDepth 20000 in
theorem ggX8_asks_X8_within : GoodIn wsX8_asks wsX8_within := goodIn_r _ [8] (by decide +kernel) (by decide +kernel)
set_option maxRecDepth 20000 in
theorem gX8_asks_X8_within : GoodIn wsX8_asks (va_wsS RX8 77 yX8_within wsX8_within) := goodIn_app (goodIn_of _ (by decide +kernel)) ggX8_asks_X8_within
set_option maxRecDepth 20000 in
theorem ggX8_asks_X8_pairOf : GoodIn wsX8_asks wsX8_pairOf := goodIn_r _ [11] (by decide +kernel) (by decide +kernel)
set_option maxRecDepth 20000 in
theorem gX8_asks_X8_pairOf : GoodIn wsX8_asks (va_wsS RX8 80 yX8_pairOf wsX8_pairOf) := goodIn_app (goodIn_of _ (by decide +kernel)) ggX8_asks_X8_pairOf
set_option maxRecDepth 20000 in
theorem ggX8_asks_X6_tellAsk : GoodIn wsX8_asks wsX6_tellAsk := goodIn_r _ [16, 17, 18, 19, 20, 15, 21, 22, 23, 4, 24, 33, 34, 35] (by decide +kernel) (by decide +kernel)
set_option maxRecDepth 20000 in
theorem gX8_asks_X6_tellAsk : GoodIn wsX8_asks (wsV RX8 84 RX6 yX6_tellAsk wsX6_tellAsk) := goodIn_app (goodIn_of _ (by decide +kernel)) ggX8_asks_X6_tellAsk
theorem dX8_asks_0 : decode cX8_asks 0 = .ok (.iload_n 1, 1) := by decide +kernel
theorem dX8_asks_1 : decode cX8_asks 1 = .ok (.iload_n 2, 1) := by decide +kernel
theorem dX8_asks_2 : decode cX8_asks 2 = .ok (.invokestatic 73, 3) := by decide +kernel
theorem dX8_asks_5 : decode cX8_asks 5 = .ok (.ifCond .eq 22, 3) := by decide +kernel
theorem dX8_asks_8 : decode cX8_asks 8 = .ok (.iload_n 3, 1) := by decide +kernel
theorem dX8_asks_9 : decode cX8_asks 9 = .ok (.bipush 16, 2) := by decide +kernel
theorem dX8_asks_11 : decode cX8_asks 11 = .ok (.invokestatic 77, 3) := by decide +kernel
theorem dX8_asks_14 : decode cX8_asks 14 = .ok (.ifCond .eq 13, 3) := by decide +kernel
theorem dX8_asks_17 : decode cX8_asks 17 = .ok (.iload 4, 2) := by decide +kernel
theorem dX8_asks_19 : decode cX8_asks 19 = .ok (.bipush 16, 2) := by decide +kernel
theorem dX8_asks_21 : decode cX8_asks 21 = .ok (.invokestatic 77, 3) := by decide +kernel
theorem dX8_asks_24 : decode cX8_asks 24 = .ok (.ifCond .ne 5, 3) := by decide +kernel
theorem dX8_asks_27 : decode cX8_asks 27 = .ok (.iconst 0, 1) := by decide +kernel
theorem dX8_asks_28 : decode cX8_asks 28 = .ok (.ireturn, 1) := by decide +kernel
theorem dX8_asks_29 : decode cX8_asks 29 = .ok (.aload_n 0, 1) := by decide +kernel
theorem dX8_asks_30 : decode cX8_asks 30 = .ok (.getfield 10, 3) := by decide +kernel
theorem dX8_asks_33 : decode cX8_asks 33 = .ok (.iload_n 1, 1) := by decide +kernel
theorem dX8_asks_34 : decode cX8_asks 34 = .ok (.iload_n 2, 1) := by decide +kernel
theorem dX8_asks_35 : decode cX8_asks 35 = .ok (.invokestatic 80, 3) := by decide +kernel
theorem dX8_asks_38 : decode cX8_asks 38 = .ok (.iload_n 3, 1) := by decide +kernel
theorem dX8_asks_39 : decode cX8_asks 39 = .ok (.iload 4, 2) := by decide +kernel
theorem dX8_asks_41 : decode cX8_asks 41 = .ok (.invokevirtual 84, 3) := by decide +kernel
theorem dX8_asks_44 : decode cX8_asks 44 = .ok (.iconst 1, 1) := by decide +kernel
theorem dX8_asks_45 : decode cX8_asks 45 = .ok (.ireturn, 1) := by decide +kernel
set_option maxRecDepth 20000 in
theorem ggX8_bars_X8_within : GoodIn wsX8_bars wsX8_within := goodIn_r _ [5] (by decide +kernel) (by decide +kernel)
set_option maxRecDepth 20000 in
theorem gX8_bars_X8_within : GoodIn wsX8_bars (va_wsS RX8 77 yX8_within wsX8_within) := goodIn_app (goodIn_of _ (by decide +kernel)) ggX8_bars_X8_within
set_option maxRecDepth 20000 in
theorem ggX8_bars_X6_tellBars : GoodIn wsX8_bars wsX6_tellBars := goodIn_r _ [10, 11, 12, 4, 13, 22, 23, 24] (by decide +kernel) (by decide +kernel)
set_option maxRecDepth 20000 in
theorem gX8_bars_X6_tellBars : GoodIn wsX8_bars (wsV RX8 88 RX6 yX6_tellBars wsX6_tellBars) := goodIn_app (goodIn_of _ (by decide +kernel)) ggX8_bars_X6_tellBars
theorem dX8_bars_0 : decode cX8_bars 0 = .ok (.iload_n 1, 1) := by decide +kernel
theorem dX8_bars_1 : decode cX8_bars 1 = .ok (.bipush 8, 2) := by decide +kernel
theorem dX8_bars_3 : decode cX8_bars 3 = .ok (.invokestatic 77, 3) := by decide +kernel
theorem dX8_bars_6 : decode cX8_bars 6 = .ok (.ifCond .eq 13, 3) := by decide +kernel
theorem dX8_bars_9 : decode cX8_bars 9 = .ok (.iload_n 2, 1) := by decide +kernel
theorem dX8_bars_10 : decode cX8_bars 10 = .ok (.sipush 256, 3) := by decide +kernel
theorem dX8_bars_13 : decode cX8_bars 13 = .ok (.invokestatic 77, 3) := by decide +kernel
theorem dX8_bars_16 : decode cX8_bars 16 = .ok (.ifCond .ne 5, 3) := by decide +kernel
theorem dX8_bars_19 : decode cX8_bars 19 = .ok (.iconst 0, 1) := by decide +kernel
theorem dX8_bars_20 : decode cX8_bars 20 = .ok (.ireturn, 1) := by decide +kernel
theorem dX8_bars_21 : decode cX8_bars 21 = .ok (.aload_n 0, 1) := by decide +kernel
theorem dX8_bars_22 : decode cX8_bars 22 = .ok (.getfield 10, 3) := by decide +kernel
theorem dX8_bars_25 : decode cX8_bars 25 = .ok (.iload_n 1, 1) := by decide +kernel
theorem dX8_bars_26 : decode cX8_bars 26 = .ok (.iload_n 2, 1) := by decide +kernel
theorem dX8_bars_27 : decode cX8_bars 27 = .ok (.invokevirtual 88, 3) := by decide +kernel
theorem dX8_bars_30 : decode cX8_bars 30 = .ok (.iconst 1, 1) := by decide +kernel
theorem dX8_bars_31 : decode cX8_bars 31 = .ok (.ireturn, 1) := by decide +kernel
set_option maxRecDepth 20000 in
theorem ggX8_part_X8_isRowOfChoices : GoodIn wsX8_part wsX8_isRowOfChoices := goodIn_r _ [5, 6, 7, 4, 8] (by decide +kernel) (by decide +kernel)
set_option maxRecDepth 20000 in
theorem gX8_part_X8_isRowOfChoices : GoodIn wsX8_part (va_wsS RX8 92 yX8_isRowOfChoices wsX8_isRowOfChoices) := goodIn_app (goodIn_of _ (by decide +kernel)) ggX8_part_X8_isRowOfChoices
set_option maxRecDepth 20000 in
theorem ggX8_part_X5_add : GoodIn wsX8_part wsX5_add := goodIn_r _ [13, 14, 15, 16, 17, 26, 27, 28, 29, 30, 31] (by decide +kernel) (by decide +kernel)
set_option maxRecDepth 20000 in
theorem gX8_part_X5_add : GoodIn wsX8_part (wsV RX8 100 RX5 yX5_add wsX5_add) := goodIn_app (goodIn_of _ (by decide +kernel)) ggX8_part_X5_add
theorem dX8_part_0 : decode cX8_part 0 = .ok (.iload_n 1, 1) := by decide +kernel
theorem dX8_part_1 : decode cX8_part 1 = .ok (.iload_n 2, 1) := by decide +kernel
theorem dX8_part_2 : decode cX8_part 2 = .ok (.iload_n 3, 1) := by decide +kernel
theorem dX8_part_3 : decode cX8_part 3 = .ok (.invokestatic 92, 3) := by decide +kernel
theorem dX8_part_6 : decode cX8_part 6 = .ok (.ifCond .eq 15, 3) := by decide +kernel
theorem dX8_part_9 : decode cX8_part 9 = .ok (.aload_n 0, 1) := by decide +kernel
theorem dX8_part_10 : decode cX8_part 10 = .ok (.getfield 19, 3) := by decide +kernel
theorem dX8_part_13 : decode cX8_part 13 = .ok (.getfield 96, 3) := by decide +kernel
theorem dX8_part_16 : decode cX8_part 16 = .ok (.bipush 24, 2) := by decide +kernel
theorem dX8_part_18 : decode cX8_part 18 = .ok (.if_icmp .lt 5, 3) := by decide +kernel
theorem dX8_part_21 : decode cX8_part 21 = .ok (.iconst (-1), 1) := by decide +kernel
theorem dX8_part_22 : decode cX8_part 22 = .ok (.ireturn, 1) := by decide +kernel
theorem dX8_part_23 : decode cX8_part 23 = .ok (.aload_n 0, 1) := by decide +kernel
theorem dX8_part_24 : decode cX8_part 24 = .ok (.getfield 19, 3) := by decide +kernel
theorem dX8_part_27 : decode cX8_part 27 = .ok (.iload_n 1, 1) := by decide +kernel
theorem dX8_part_28 : decode cX8_part 28 = .ok (.iload_n 2, 1) := by decide +kernel
theorem dX8_part_29 : decode cX8_part 29 = .ok (.iload_n 3, 1) := by decide +kernel
theorem dX8_part_30 : decode cX8_part 30 = .ok (.invokevirtual 100, 3) := by decide +kernel
theorem dX8_part_33 : decode cX8_part 33 = .ok (.ireturn, 1) := by decide +kernel
set_option maxRecDepth 20000 in
theorem ggX8_take_X5_has : GoodIn wsX8_take wsX5_has := goodIn_r _ [6, 7, 8, 9, 10, 25, 26, 27, 28, 29, 30] (by decide +kernel) (by decide +kernel)
set_option maxRecDepth 20000 in
theorem gX8_take_X5_has : GoodIn wsX8_take (wsV RX8 104 RX5 yX5_has wsX5_has) := goodIn_app (goodIn_of _ (by decide +kernel)) ggX8_take_X5_has
set_option maxRecDepth 20000 in
theorem ggX8_take_X8_within : GoodIn wsX8_take wsX8_within := goodIn_r _ [10] (by decide +kernel) (by decide +kernel)
set_option maxRecDepth 20000 in
theorem gX8_take_X8_within : GoodIn wsX8_take (va_wsS RX8 77 yX8_within wsX8_within) := goodIn_app (goodIn_of _ (by decide +kernel)) ggX8_take_X8_within
set_option maxRecDepth 20000 in
theorem ggX8_take_X5_choiceOf : GoodIn wsX8_take wsX5_choiceOf := goodIn_r _ [15, 16, 25, 26, 27, 28, 29, 30] (by decide +kernel) (by decide +kernel)
set_option maxRecDepth 20000 in
theorem gX8_take_X5_choiceOf : GoodIn wsX8_take (wsV RX8 112 RX5 yX5_choiceOf wsX5_choiceOf) := goodIn_app (goodIn_of _ (by decide +kernel)) ggX8_take_X5_choiceOf
theorem dX8_take_0 : decode cX8_take 0 = .ok (.aload_n 0, 1) := by decide +kernel
theorem dX8_take_1 : decode cX8_take 1 = .ok (.getfield 19, 3) := by decide +kernel
theorem dX8_take_4 : decode cX8_take 4 = .ok (.iload_n 1, 1) := by decide +kernel
theorem dX8_take_5 : decode cX8_take 5 = .ok (.invokevirtual 104, 3) := by decide +kernel
theorem dX8_take_8 : decode cX8_take 8 = .ok (.ifCond .eq 19, 3) := by decide +kernel
theorem dX8_take_11 : decode cX8_take 11 = .ok (.iload_n 2, 1) := by decide +kernel
theorem dX8_take_12 : decode cX8_take 12 = .ok (.aload_n 0, 1) := by decide +kernel
theorem dX8_take_13 : decode cX8_take 13 = .ok (.getfield 19, 3) := by decide +kernel
theorem dX8_take_16 : decode cX8_take 16 = .ok (.getfield 108, 3) := by decide +kernel
theorem dX8_take_19 : decode cX8_take 19 = .ok (.iload_n 1, 1) := by decide +kernel
theorem dX8_take_20 : decode cX8_take 20 = .ok (.iaload, 1) := by decide +kernel
theorem dX8_take_21 : decode cX8_take 21 = .ok (.invokestatic 77, 3) := by decide +kernel
theorem dX8_take_24 : decode cX8_take 24 = .ok (.ifCond .ne 5, 3) := by decide +kernel
theorem dX8_take_27 : decode cX8_take 27 = .ok (.iconst 0, 1) := by decide +kernel
theorem dX8_take_28 : decode cX8_take 28 = .ok (.ireturn, 1) := by decide +kernel
theorem dX8_take_29 : decode cX8_take 29 = .ok (.aload_n 0, 1) := by decide +kernel
theorem dX8_take_30 : decode cX8_take 30 = .ok (.getfield 19, 3) := by decide +kernel
theorem dX8_take_33 : decode cX8_take 33 = .ok (.iload_n 1, 1) := by decide +kernel
theorem dX8_take_34 : decode cX8_take 34 = .ok (.iload_n 2, 1) := by decide +kernel
theorem dX8_take_35 : decode cX8_take 35 = .ok (.invokevirtual 112, 3) := by decide +kernel
theorem dX8_take_38 : decode cX8_take 38 = .ok (.istore_n 3, 1) := by decide +kernel
theorem dX8_take_39 : decode cX8_take 39 = .ok (.aload_n 0, 1) := by decide +kernel
theorem dX8_take_40 : decode cX8_take 40 = .ok (.getfield 19, 3) := by decide +kernel
theorem dX8_take_43 : decode cX8_take 43 = .ok (.getfield 115, 3) := by decide +kernel
theorem dX8_take_46 : decode cX8_take 46 = .ok (.iload_n 1, 1) := by decide +kernel
theorem dX8_take_47 : decode cX8_take 47 = .ok (.iaload, 1) := by decide +kernel
theorem dX8_take_48 : decode cX8_take 48 = .ok (.iload_n 3, 1) := by decide +kernel
theorem dX8_take_49 : decode cX8_take 49 = .ok (.if_icmp .ne 5, 3) := by decide +kernel
theorem dX8_take_52 : decode cX8_take 52 = .ok (.iconst 0, 1) := by decide +kernel
theorem dX8_take_53 : decode cX8_take 53 = .ok (.ireturn, 1) := by decide +kernel
theorem dX8_take_54 : decode cX8_take 54 = .ok (.aload_n 0, 1) := by decide +kernel
theorem dX8_take_55 : decode cX8_take 55 = .ok (.getfield 19, 3) := by decide +kernel
theorem dX8_take_58 : decode cX8_take 58 = .ok (.getfield 115, 3) := by decide +kernel
theorem dX8_take_61 : decode cX8_take 61 = .ok (.iload_n 1, 1) := by decide +kernel
theorem dX8_take_62 : decode cX8_take 62 = .ok (.iload_n 3, 1) := by decide +kernel
theorem dX8_take_63 : decode cX8_take 63 = .ok (.iastore, 1) := by decide +kernel
theorem dX8_take_64 : decode cX8_take 64 = .ok (.iconst 1, 1) := by decide +kernel
theorem dX8_take_65 : decode cX8_take 65 = .ok (.ireturn, 1) := by decide +kernel
set_option maxRecDepth 20000 in
theorem ggX8_join_X5_has : GoodIn wsX8_join wsX5_has := goodIn_r _ [7, 8, 9, 10, 11, 67, 68, 69, 70, 71, 72] (by decide +kernel) (by decide +kernel)
set_option maxRecDepth 20000 in
theorem gX8_join_X5_has : GoodIn wsX8_join (wsV RX8 104 RX5 yX5_has wsX5_has) := goodIn_app (goodIn_of _ (by decide +kernel)) ggX8_join_X5_has
set_option maxRecDepth 20000 in
theorem ggX8_join_X8_within : GoodIn wsX8_join wsX8_within := goodIn_r _ [11] (by decide +kernel) (by decide +kernel)
set_option maxRecDepth 20000 in
theorem gX8_join_X8_within : GoodIn wsX8_join (va_wsS RX8 77 yX8_within wsX8_within) := goodIn_app (goodIn_of _ (by decide +kernel)) ggX8_join_X8_within
set_option maxRecDepth 20000 in
theorem ggX8_join_X3_leads : GoodIn wsX8_join wsX3_leads := goodIn_r _ [17, 18, 19, 20, 21, 58, 59, 60, 61, 62, 63, 64, 65, 66] (by decide +kernel) (by decide +kernel)
set_option maxRecDepth 20000 in
theorem gX8_join_X3_leads : GoodIn wsX8_join (wsV RX8 119 RX3 yX3_leads wsX3_leads) := goodIn_app (goodIn_of _ (by decide +kernel)) ggX8_join_X3_leads
set_option maxRecDepth 20000 in
theorem ggX8_join_X3_allIn : GoodIn wsX8_join wsX3_allIn := goodIn_r _ [25, 26, 18, 19, 21, 20, 27, 10, 28, 58, 59, 60, 61, 62, 63, 64, 65, 66] (by decide +kernel) (by decide +kernel)
set_option maxRecDepth 20000 in
theorem gX8_join_X3_allIn : GoodIn wsX8_join (wsV RX8 126 RX3 yX3_allIn wsX3_allIn) := goodIn_app (goodIn_of _ (by decide +kernel)) ggX8_join_X3_allIn
set_option maxRecDepth 20000 in
theorem ggX8_join_X8_holds : GoodIn wsX8_join wsX8_holds := goodIn_r _ [28] (by decide +kernel) (by decide +kernel)
set_option maxRecDepth 20000 in
theorem gX8_join_X8_holds : GoodIn wsX8_join (va_wsS RX8 130 yX8_holds wsX8_holds) := goodIn_app (goodIn_of _ (by decide +kernel)) ggX8_join_X8_holds
set_option maxRecDepth 20000 in
theorem ggX8_join_X3_add : GoodIn wsX8_join wsX3_add := goodIn_r _ [33, 34, 20, 35, 36, 37, 38, 39, 40, 16, 41, 18, 21, 19, 27, 10, 28, 42, 43, 44, 45, 26, 46, 47, 48, 49, 58, 59, 60, 61, 62, 63, 64, 65, 66] (by decide +kernel) (by decide +kernel)
set_option maxRecDepth 20000 in
theorem gX8_join_X3_add : GoodIn wsX8_join (wsV RX8 134 RX3 yX3_add wsX3_add) := goodIn_app (goodIn_of _ (by decide +kernel)) ggX8_join_X3_add
theorem dX8_join_0 : decode cX8_join 0 = .ok (.aload_n 0, 1) := by decide +kernel
theorem dX8_join_1 : decode cX8_join 1 = .ok (.getfield 19, 3) := by decide +kernel
theorem dX8_join_4 : decode cX8_join 4 = .ok (.iload_n 1, 1) := by decide +kernel
theorem dX8_join_5 : decode cX8_join 5 = .ok (.invokevirtual 104, 3) := by decide +kernel
theorem dX8_join_8 : decode cX8_join 8 = .ok (.ifCond .eq 34, 3) := by decide +kernel
theorem dX8_join_11 : decode cX8_join 11 = .ok (.aload_n 0, 1) := by decide +kernel
theorem dX8_join_12 : decode cX8_join 12 = .ok (.getfield 19, 3) := by decide +kernel
theorem dX8_join_15 : decode cX8_join 15 = .ok (.iload_n 2, 1) := by decide +kernel
theorem dX8_join_16 : decode cX8_join 16 = .ok (.invokevirtual 104, 3) := by decide +kernel
theorem dX8_join_19 : decode cX8_join 19 = .ok (.ifCond .eq 23, 3) := by decide +kernel
theorem dX8_join_22 : decode cX8_join 22 = .ok (.iload_n 3, 1) := by decide +kernel
theorem dX8_join_23 : decode cX8_join 23 = .ok (.iconst 4, 1) := by decide +kernel
theorem dX8_join_24 : decode cX8_join 24 = .ok (.invokestatic 77, 3) := by decide +kernel
theorem dX8_join_27 : decode cX8_join 27 = .ok (.ifCond .eq 15, 3) := by decide +kernel
theorem dX8_join_30 : decode cX8_join 30 = .ok (.aload_n 0, 1) := by decide +kernel
theorem dX8_join_31 : decode cX8_join 31 = .ok (.getfield 26, 3) := by decide +kernel
theorem dX8_join_34 : decode cX8_join 34 = .ok (.getfield 118, 3) := by decide +kernel
theorem dX8_join_37 : decode cX8_join 37 = .ok (.bipush 40, 2) := by decide +kernel
theorem dX8_join_39 : decode cX8_join 39 = .ok (.if_icmp .lt 5, 3) := by decide +kernel
theorem dX8_join_42 : decode cX8_join 42 = .ok (.iconst (-1), 1) := by decide +kernel
theorem dX8_join_43 : decode cX8_join 43 = .ok (.ireturn, 1) := by decide +kernel
theorem dX8_join_44 : decode cX8_join 44 = .ok (.aload_n 0, 1) := by decide +kernel
theorem dX8_join_45 : decode cX8_join 45 = .ok (.getfield 26, 3) := by decide +kernel
theorem dX8_join_48 : decode cX8_join 48 = .ok (.iload_n 1, 1) := by decide +kernel
theorem dX8_join_49 : decode cX8_join 49 = .ok (.iload_n 2, 1) := by decide +kernel
theorem dX8_join_50 : decode cX8_join 50 = .ok (.invokevirtual 119, 3) := by decide +kernel
theorem dX8_join_53 : decode cX8_join 53 = .ok (.ifCond .ne 26, 3) := by decide +kernel
theorem dX8_join_56 : decode cX8_join 56 = .ok (.aload_n 0, 1) := by decide +kernel
theorem dX8_join_57 : decode cX8_join 57 = .ok (.getfield 26, 3) := by decide +kernel
theorem dX8_join_60 : decode cX8_join 60 = .ok (.iload_n 1, 1) := by decide +kernel
theorem dX8_join_61 : decode cX8_join 61 = .ok (.aload_n 0, 1) := by decide +kernel
theorem dX8_join_62 : decode cX8_join 62 = .ok (.getfield 26, 3) := by decide +kernel
theorem dX8_join_65 : decode cX8_join 65 = .ok (.getfield 122, 3) := by decide +kernel
theorem dX8_join_68 : decode cX8_join 68 = .ok (.invokevirtual 126, 3) := by decide +kernel
theorem dX8_join_71 : decode cX8_join 71 = .ok (.i2l, 1) := by decide +kernel
theorem dX8_join_72 : decode cX8_join 72 = .ok (.iload_n 2, 1) := by decide +kernel
theorem dX8_join_73 : decode cX8_join 73 = .ok (.invokestatic 130, 3) := by decide +kernel
theorem dX8_join_76 : decode cX8_join 76 = .ok (.ifCond .eq 5, 3) := by decide +kernel
theorem dX8_join_79 : decode cX8_join 79 = .ok (.iconst (-1), 1) := by decide +kernel
theorem dX8_join_80 : decode cX8_join 80 = .ok (.ireturn, 1) := by decide +kernel
theorem dX8_join_81 : decode cX8_join 81 = .ok (.aload_n 0, 1) := by decide +kernel
theorem dX8_join_82 : decode cX8_join 82 = .ok (.getfield 26, 3) := by decide +kernel
theorem dX8_join_85 : decode cX8_join 85 = .ok (.iload_n 1, 1) := by decide +kernel
theorem dX8_join_86 : decode cX8_join 86 = .ok (.iload_n 2, 1) := by decide +kernel
theorem dX8_join_87 : decode cX8_join 87 = .ok (.iload_n 3, 1) := by decide +kernel
theorem dX8_join_88 : decode cX8_join 88 = .ok (.invokevirtual 134, 3) := by decide +kernel
theorem dX8_join_91 : decode cX8_join 91 = .ok (.ireturn, 1) := by decide +kernel
set_option maxRecDepth 20000 in
theorem ggX8_cut_X3_isThere : GoodIn wsX8_cut wsX3_isThere := goodIn_r _ [6, 7, 8, 9, 10, 11, 12, 13, 35, 36, 37, 38, 39, 40, 41, 42, 43] (by decide +kernel) (by decide +kernel)
set_option maxRecDepth 20000 in
theorem gX8_cut_X3_isThere : GoodIn wsX8_cut (wsV RX8 135 RX3 yX3_isThere wsX3_isThere) := goodIn_app (goodIn_of _ (by decide +kernel)) ggX8_cut_X3_isThere
set_option maxRecDepth 20000 in
theorem ggX8_cut_X3_remove : GoodIn wsX8_cut wsX3_remove := goodIn_r _ [17, 8, 18, 19, 20, 21, 5, 22, 23, 7, 24, 25, 26, 12, 10, 13, 35, 36, 37, 38, 39, 40, 41, 42, 43] (by decide +kernel) (by decide +kernel)
set_option maxRecDepth 20000 in
theorem gX8_cut_X3_remove : GoodIn wsX8_cut (wsV RX8 138 RX3 yX3_remove wsX3_remove) := goodIn_app (goodIn_of _ (by decide +kernel)) ggX8_cut_X3_remove
theorem dX8_cut_0 : decode cX8_cut 0 = .ok (.aload_n 0, 1) := by decide +kernel
theorem dX8_cut_1 : decode cX8_cut 1 = .ok (.getfield 26, 3) := by decide +kernel
theorem dX8_cut_4 : decode cX8_cut 4 = .ok (.iload_n 1, 1) := by decide +kernel
theorem dX8_cut_5 : decode cX8_cut 5 = .ok (.invokevirtual 135, 3) := by decide +kernel
theorem dX8_cut_8 : decode cX8_cut 8 = .ok (.ifCond .ne 5, 3) := by decide +kernel
theorem dX8_cut_11 : decode cX8_cut 11 = .ok (.iconst 0, 1) := by decide +kernel
theorem dX8_cut_12 : decode cX8_cut 12 = .ok (.ireturn, 1) := by decide +kernel
theorem dX8_cut_13 : decode cX8_cut 13 = .ok (.aload_n 0, 1) := by decide +kernel
theorem dX8_cut_14 : decode cX8_cut 14 = .ok (.getfield 26, 3) := by decide +kernel
theorem dX8_cut_17 : decode cX8_cut 17 = .ok (.iload_n 1, 1) := by decide +kernel
theorem dX8_cut_18 : decode cX8_cut 18 = .ok (.invokevirtual 138, 3) := by decide +kernel
theorem dX8_cut_21 : decode cX8_cut 21 = .ok (.iconst 1, 1) := by decide +kernel
theorem dX8_cut_22 : decode cX8_cut 22 = .ok (.ireturn, 1) := by decide +kernel
set_option maxRecDepth 20000 in
theorem ggX8_except_X5_has : GoodIn wsX8_except wsX5_has := goodIn_r _ [6, 7, 8, 9, 10, 29, 30, 31, 32, 33, 34] (by decide +kernel) (by decide +kernel)
set_option maxRecDepth 20000 in
theorem gX8_except_X5_has : GoodIn wsX8_except (wsV RX8 104 RX5 yX5_has wsX5_has) := goodIn_app (goodIn_of _ (by decide +kernel)) ggX8_except_X5_has
set_option maxRecDepth 20000 in
theorem ggX8_except_X8_isPair : GoodIn wsX8_except wsX8_isPair := goodIn_r _ [13, 14, 8, 9, 10] (by decide +kernel) (by decide +kernel)
set_option maxRecDepth 20000 in
theorem gX8_except_X8_isPair : GoodIn wsX8_except (va_wsS RX8 73 yX8_isPair wsX8_isPair) := goodIn_app (goodIn_of _ (by decide +kernel)) ggX8_except_X8_isPair
set_option maxRecDepth 20000 in
theorem ggX8_except_X8_pairOf : GoodIn wsX8_except wsX8_pairOf := goodIn_r _ [17] (by decide +kernel) (by decide +kernel)
set_option maxRecDepth 20000 in
theorem gX8_except_X8_pairOf : GoodIn wsX8_except (va_wsS RX8 80 yX8_pairOf wsX8_pairOf) := goodIn_app (goodIn_of _ (by decide +kernel)) ggX8_except_X8_pairOf
set_option maxRecDepth 20000 in
theorem ggX8_except_X8_holds : GoodIn wsX8_except wsX8_holds := goodIn_r _ [20] (by decide +kernel) (by decide +kernel)
set_option maxRecDepth 20000 in
theorem gX8_except_X8_holds : GoodIn wsX8_except (va_wsS RX8 130 yX8_holds wsX8_holds) := goodIn_app (goodIn_of _ (by decide +kernel)) ggX8_except_X8_holds
theorem dX8_except_0 : decode cX8_except 0 = .ok (.aload_n 0, 1) := by decide +kernel
theorem dX8_except_1 : decode cX8_except 1 = .ok (.getfield 19, 3) := by decide +kernel
theorem dX8_except_4 : decode cX8_except 4 = .ok (.iload_n 1, 1) := by decide +kernel
theorem dX8_except_5 : decode cX8_except 5 = .ok (.invokevirtual 104, 3) := by decide +kernel
theorem dX8_except_8 : decode cX8_except 8 = .ok (.ifCond .eq 31, 3) := by decide +kernel
theorem dX8_except_11 : decode cX8_except 11 = .ok (.iload_n 2, 1) := by decide +kernel
theorem dX8_except_12 : decode cX8_except 12 = .ok (.iload_n 3, 1) := by decide +kernel
theorem dX8_except_13 : decode cX8_except 13 = .ok (.invokestatic 73, 3) := by decide +kernel
theorem dX8_except_16 : decode cX8_except 16 = .ok (.ifCond .eq 23, 3) := by decide +kernel
theorem dX8_except_19 : decode cX8_except 19 = .ok (.aload_n 0, 1) := by decide +kernel
theorem dX8_except_20 : decode cX8_except 20 = .ok (.getfield 19, 3) := by decide +kernel
theorem dX8_except_23 : decode cX8_except 23 = .ok (.getfield 142, 3) := by decide +kernel
theorem dX8_except_26 : decode cX8_except 26 = .ok (.iload_n 1, 1) := by decide +kernel
theorem dX8_except_27 : decode cX8_except 27 = .ok (.laload, 1) := by decide +kernel
theorem dX8_except_28 : decode cX8_except 28 = .ok (.iload_n 2, 1) := by decide +kernel
theorem dX8_except_29 : decode cX8_except 29 = .ok (.iload_n 3, 1) := by decide +kernel
theorem dX8_except_30 : decode cX8_except 30 = .ok (.invokestatic 80, 3) := by decide +kernel
theorem dX8_except_33 : decode cX8_except 33 = .ok (.invokestatic 130, 3) := by decide +kernel
theorem dX8_except_36 : decode cX8_except 36 = .ok (.ifCond .eq 5, 3) := by decide +kernel
theorem dX8_except_39 : decode cX8_except 39 = .ok (.iconst 0, 1) := by decide +kernel
theorem dX8_except_40 : decode cX8_except 40 = .ok (.ireturn, 1) := by decide +kernel
theorem dX8_except_41 : decode cX8_except 41 = .ok (.aload_n 0, 1) := by decide +kernel
theorem dX8_except_42 : decode cX8_except 42 = .ok (.getfield 19, 3) := by decide +kernel
theorem dX8_except_45 : decode cX8_except 45 = .ok (.getfield 142, 3) := by decide +kernel
theorem dX8_except_48 : decode cX8_except 48 = .ok (.iload_n 1, 1) := by decide +kernel
theorem dX8_except_49 : decode cX8_except 49 = .ok (.dup2, 1) := by decide +kernel
theorem dX8_except_50 : decode cX8_except 50 = .ok (.laload, 1) := by decide +kernel
theorem dX8_except_51 : decode cX8_except 51 = .ok (.lconst 1, 1) := by decide +kernel
theorem dX8_except_52 : decode cX8_except 52 = .ok (.iload_n 2, 1) := by decide +kernel
theorem dX8_except_53 : decode cX8_except 53 = .ok (.iload_n 3, 1) := by decide +kernel
theorem dX8_except_54 : decode cX8_except 54 = .ok (.invokestatic 80, 3) := by decide +kernel
theorem dX8_except_57 : decode cX8_except 57 = .ok (.lshl, 1) := by decide +kernel
theorem dX8_except_58 : decode cX8_except 58 = .ok (.lor, 1) := by decide +kernel
theorem dX8_except_59 : decode cX8_except 59 = .ok (.lastore, 1) := by decide +kernel
theorem dX8_except_60 : decode cX8_except 60 = .ok (.iconst 1, 1) := by decide +kernel
theorem dX8_except_61 : decode cX8_except 61 = .ok (.ireturn, 1) := by decide +kernel
set_option maxRecDepth 20000 in
theorem ggX8_product_X5_has : GoodIn wsX8_product wsX5_has := goodIn_r _ [6, 7, 8, 9, 10, 19, 20, 21, 22, 23, 24] (by decide +kernel) (by decide +kernel)
set_option maxRecDepth 20000 in
theorem gX8_product_X5_has : GoodIn wsX8_product (wsV RX8 104 RX5 yX5_has wsX5_has) := goodIn_app (goodIn_of _ (by decide +kernel)) ggX8_product_X5_has
theorem dX8_product_0 : decode cX8_product 0 = .ok (.aload_n 0, 1) := by decide +kernel
theorem dX8_product_1 : decode cX8_product 1 = .ok (.getfield 19, 3) := by decide +kernel
theorem dX8_product_4 : decode cX8_product 4 = .ok (.iload_n 1, 1) := by decide +kernel
theorem dX8_product_5 : decode cX8_product 5 = .ok (.invokevirtual 104, 3) := by decide +kernel
theorem dX8_product_8 : decode cX8_product 8 = .ok (.ifCond .ne 5, 3) := by decide +kernel
theorem dX8_product_11 : decode cX8_product 11 = .ok (.iconst 0, 1) := by decide +kernel
theorem dX8_product_12 : decode cX8_product 12 = .ok (.ireturn, 1) := by decide +kernel
theorem dX8_product_13 : decode cX8_product 13 = .ok (.aload_n 0, 1) := by decide +kernel
theorem dX8_product_14 : decode cX8_product 14 = .ok (.getfield 19, 3) := by decide +kernel
theorem dX8_product_17 : decode cX8_product 17 = .ok (.iload_n 1, 1) := by decide +kernel
theorem dX8_product_18 : decode cX8_product 18 = .ok (.putfield 146, 3) := by decide +kernel
theorem dX8_product_21 : decode cX8_product 21 = .ok (.iconst 1, 1) := by decide +kernel
theorem dX8_product_22 : decode cX8_product 22 = .ok (.ireturn, 1) := by decide +kernel
set_option maxRecDepth 20000 in
theorem ggX8_change_X5_has : GoodIn wsX8_change wsX5_has := goodIn_r _ [9, 10, 11, 12, 13, 47, 48, 49, 50, 51, 52] (by decide +kernel) (by decide +kernel)
set_option maxRecDepth 20000 in
theorem gX8_change_X5_has : GoodIn wsX8_change (wsV RX8 104 RX5 yX5_has wsX5_has) := goodIn_app (goodIn_of _ (by decide +kernel)) ggX8_change_X5_has
set_option maxRecDepth 20000 in
theorem ggX8_change_X8_within : GoodIn wsX8_change wsX8_within := goodIn_r _ [13] (by decide +kernel) (by decide +kernel)
set_option maxRecDepth 20000 in
theorem gX8_change_X8_within : GoodIn wsX8_change (va_wsS RX8 77 yX8_within wsX8_within) := goodIn_app (goodIn_of _ (by decide +kernel)) ggX8_change_X8_within
set_option maxRecDepth 20000 in
theorem ggX8_change_X0_add : GoodIn wsX8_change wsX0_add := goodIn_r _ [19, 20, 21, 22, 23, 24, 42, 43, 44, 45, 46] (by decide +kernel) (by decide +kernel)
set_option maxRecDepth 20000 in
theorem gX8_change_X0_add : GoodIn wsX8_change (wsV RX8 151 RX0 yX0_add wsX0_add) := goodIn_app (goodIn_of _ (by decide +kernel)) ggX8_change_X0_add
theorem dX8_change_0 : decode cX8_change 0 = .ok (.iload_n 1, 1) := by decide +kernel
theorem dX8_change_1 : decode cX8_change 1 = .ok (.ifCond .ne 23, 3) := by decide +kernel
theorem dX8_change_4 : decode cX8_change 4 = .ok (.aload_n 0, 1) := by decide +kernel
theorem dX8_change_5 : decode cX8_change 5 = .ok (.getfield 19, 3) := by decide +kernel
theorem dX8_change_8 : decode cX8_change 8 = .ok (.iload_n 2, 1) := by decide +kernel
theorem dX8_change_9 : decode cX8_change 9 = .ok (.invokevirtual 104, 3) := by decide +kernel
theorem dX8_change_12 : decode cX8_change 12 = .ok (.ifCond .eq 12, 3) := by decide +kernel
theorem dX8_change_15 : decode cX8_change 15 = .ok (.iload_n 3, 1) := by decide +kernel
theorem dX8_change_16 : decode cX8_change 16 = .ok (.bipush 8, 2) := by decide +kernel
theorem dX8_change_18 : decode cX8_change 18 = .ok (.invokestatic 77, 3) := by decide +kernel
theorem dX8_change_21 : decode cX8_change 21 = .ok (.ifCond .ne 22, 3) := by decide +kernel
theorem dX8_change_24 : decode cX8_change 24 = .ok (.iload_n 1, 1) := by decide +kernel
theorem dX8_change_25 : decode cX8_change 25 = .ok (.iconst 1, 1) := by decide +kernel
theorem dX8_change_26 : decode cX8_change 26 = .ok (.if_icmp .ne 21, 3) := by decide +kernel
theorem dX8_change_29 : decode cX8_change 29 = .ok (.iload_n 2, 1) := by decide +kernel
theorem dX8_change_30 : decode cX8_change 30 = .ok (.aload_n 0, 1) := by decide +kernel
theorem dX8_change_31 : decode cX8_change 31 = .ok (.getfield 26, 3) := by decide +kernel
theorem dX8_change_34 : decode cX8_change 34 = .ok (.getfield 118, 3) := by decide +kernel
theorem dX8_change_37 : decode cX8_change 37 = .ok (.invokestatic 77, 3) := by decide +kernel
theorem dX8_change_40 : decode cX8_change 40 = .ok (.ifCond .eq 7, 3) := by decide +kernel
theorem dX8_change_43 : decode cX8_change 43 = .ok (.iconst 1, 1) := by decide +kernel
theorem dX8_change_44 : decode cX8_change 44 = .ok (.goto 4, 3) := by decide +kernel
theorem dX8_change_47 : decode cX8_change 47 = .ok (.iconst 0, 1) := by decide +kernel
theorem dX8_change_48 : decode cX8_change 48 = .ok (.istore 5, 2) := by decide +kernel
theorem dX8_change_50 : decode cX8_change 50 = .ok (.iload 5, 2) := by decide +kernel
theorem dX8_change_52 : decode cX8_change 52 = .ok (.ifCond .eq 25, 3) := by decide +kernel
theorem dX8_change_55 : decode cX8_change 55 = .ok (.iload 4, 2) := by decide +kernel
theorem dX8_change_57 : decode cX8_change 57 = .ok (.ldc 149, 2) := by decide +kernel
theorem dX8_change_59 : decode cX8_change 59 = .ok (.invokestatic 77, 3) := by decide +kernel
theorem dX8_change_62 : decode cX8_change 62 = .ok (.ifCond .eq 15, 3) := by decide +kernel
theorem dX8_change_65 : decode cX8_change 65 = .ok (.aload_n 0, 1) := by decide +kernel
theorem dX8_change_66 : decode cX8_change 66 = .ok (.getfield 33, 3) := by decide +kernel
theorem dX8_change_69 : decode cX8_change 69 = .ok (.getfield 150, 3) := by decide +kernel
theorem dX8_change_72 : decode cX8_change 72 = .ok (.bipush 10, 2) := by decide +kernel
theorem dX8_change_74 : decode cX8_change 74 = .ok (.if_icmp .lt 5, 3) := by decide +kernel
theorem dX8_change_77 : decode cX8_change 77 = .ok (.iconst (-1), 1) := by decide +kernel
theorem dX8_change_78 : decode cX8_change 78 = .ok (.ireturn, 1) := by decide +kernel
theorem dX8_change_79 : decode cX8_change 79 = .ok (.aload_n 0, 1) := by decide +kernel
theorem dX8_change_80 : decode cX8_change 80 = .ok (.getfield 33, 3) := by decide +kernel
theorem dX8_change_83 : decode cX8_change 83 = .ok (.iload_n 1, 1) := by decide +kernel
theorem dX8_change_84 : decode cX8_change 84 = .ok (.iload_n 2, 1) := by decide +kernel
theorem dX8_change_85 : decode cX8_change 85 = .ok (.iload_n 3, 1) := by decide +kernel
theorem dX8_change_86 : decode cX8_change 86 = .ok (.iload 4, 2) := by decide +kernel
theorem dX8_change_88 : decode cX8_change 88 = .ok (.invokevirtual 151, 3) := by decide +kernel
theorem dX8_change_91 : decode cX8_change 91 = .ok (.ireturn, 1) := by decide +kernel
set_option maxRecDepth 20000 in
theorem ggX8_come_X8_within : GoodIn wsX8_come wsX8_within := goodIn_r _ [7] (by decide +kernel) (by decide +kernel)
set_option maxRecDepth 20000 in
theorem gX8_come_X8_within : GoodIn wsX8_come (va_wsS RX8 77 yX8_within wsX8_within) := goodIn_app (goodIn_of _ (by decide +kernel)) ggX8_come_X8_within
set_option maxRecDepth 20000 in
theorem ggX8_come_X5_has : GoodIn wsX8_come wsX5_has := goodIn_r _ [12, 13, 5, 6, 7, 48, 49, 50, 51, 52, 53] (by decide +kernel) (by decide +kernel)
set_option maxRecDepth 20000 in
theorem gX8_come_X5_has : GoodIn wsX8_come (wsV RX8 104 RX5 yX5_has wsX5_has) := goodIn_app (goodIn_of _ (by decide +kernel)) ggX8_come_X5_has
set_option maxRecDepth 20000 in
theorem ggX8_come_X2_run : GoodIn wsX8_come wsX2_run := goodIn_r _ [18, 19, 20, 21, 22, 17, 23, 24, 25, 26, 27, 6, 28, 29, 30, 31, 32, 33, 34, 35, 36, 37, 38, 39, 63, 64, 65, 66, 67, 54, 55, 56, 57, 58, 59, 60, 61, 62, 68, 69, 70, 48, 49, 50, 51, 52, 53] (by decide +kernel) (by decide +kernel)
set_option maxRecDepth 20000 in
theorem gX8_come_X2_run : GoodIn wsX8_come (wsV RX8 154 RX2 yX2_run wsX2_run) := goodIn_app (goodIn_of _ (by decide +kernel)) ggX8_come_X2_run
set_option maxRecDepth 20000 in
theorem ggX8_come_X8_pairOf : GoodIn wsX8_come wsX8_pairOf := goodIn_r _ [32] (by decide +kernel) (by decide +kernel)
set_option maxRecDepth 20000 in
theorem gX8_come_X8_pairOf : GoodIn wsX8_come (va_wsS RX8 80 yX8_pairOf wsX8_pairOf) := goodIn_app (goodIn_of _ (by decide +kernel)) ggX8_come_X8_pairOf
theorem dX8_come_0 : decode cX8_come 0 = .ok (.iload_n 1, 1) := by decide +kernel
theorem dX8_come_1 : decode cX8_come 1 = .ok (.iconst 4, 1) := by decide +kernel
theorem dX8_come_2 : decode cX8_come 2 = .ok (.invokestatic 77, 3) := by decide +kernel
theorem dX8_come_5 : decode cX8_come 5 = .ok (.ifCond .eq 23, 3) := by decide +kernel
theorem dX8_come_8 : decode cX8_come 8 = .ok (.aload_n 0, 1) := by decide +kernel
theorem dX8_come_9 : decode cX8_come 9 = .ok (.getfield 19, 3) := by decide +kernel
theorem dX8_come_12 : decode cX8_come 12 = .ok (.iload_n 2, 1) := by decide +kernel
theorem dX8_come_13 : decode cX8_come 13 = .ok (.invokevirtual 104, 3) := by decide +kernel
theorem dX8_come_16 : decode cX8_come 16 = .ok (.ifCond .eq 12, 3) := by decide +kernel
theorem dX8_come_19 : decode cX8_come 19 = .ok (.iload_n 3, 1) := by decide +kernel
theorem dX8_come_20 : decode cX8_come 20 = .ok (.bipush 8, 2) := by decide +kernel
theorem dX8_come_22 : decode cX8_come 22 = .ok (.invokestatic 77, 3) := by decide +kernel
theorem dX8_come_25 : decode cX8_come 25 = .ok (.ifCond .ne 5, 3) := by decide +kernel
theorem dX8_come_28 : decode cX8_come 28 = .ok (.iconst (-1), 1) := by decide +kernel
theorem dX8_come_29 : decode cX8_come 29 = .ok (.ireturn, 1) := by decide +kernel
theorem dX8_come_30 : decode cX8_come 30 = .ok (.aload_n 0, 1) := by decide +kernel
theorem dX8_come_31 : decode cX8_come 31 = .ok (.getfield 42, 3) := by decide +kernel
theorem dX8_come_34 : decode cX8_come 34 = .ok (.iload_n 1, 1) := by decide +kernel
theorem dX8_come_35 : decode cX8_come 35 = .ok (.aload_n 0, 1) := by decide +kernel
theorem dX8_come_36 : decode cX8_come 36 = .ok (.getfield 19, 3) := by decide +kernel
theorem dX8_come_39 : decode cX8_come 39 = .ok (.getfield 115, 3) := by decide +kernel
theorem dX8_come_42 : decode cX8_come 42 = .ok (.aload_n 0, 1) := by decide +kernel
theorem dX8_come_43 : decode cX8_come 43 = .ok (.getfield 26, 3) := by decide +kernel
theorem dX8_come_46 : decode cX8_come 46 = .ok (.getfield 122, 3) := by decide +kernel
theorem dX8_come_49 : decode cX8_come 49 = .ok (.invokevirtual 154, 3) := by decide +kernel
theorem dX8_come_52 : decode cX8_come 52 = .ok (.aload_n 0, 1) := by decide +kernel
theorem dX8_come_53 : decode cX8_come 53 = .ok (.getfield 42, 3) := by decide +kernel
theorem dX8_come_56 : decode cX8_come 56 = .ok (.getfield 158, 3) := by decide +kernel
theorem dX8_come_59 : decode cX8_come 59 = .ok (.iload_n 2, 1) := by decide +kernel
theorem dX8_come_60 : decode cX8_come 60 = .ok (.laload, 1) := by decide +kernel
theorem dX8_come_61 : decode cX8_come 61 = .ok (.iload_n 3, 1) := by decide +kernel
theorem dX8_come_62 : decode cX8_come 62 = .ok (.iconst 0, 1) := by decide +kernel
theorem dX8_come_63 : decode cX8_come 63 = .ok (.invokestatic 80, 3) := by decide +kernel
theorem dX8_come_66 : decode cX8_come 66 = .ok (.lushr, 1) := by decide +kernel
theorem dX8_come_67 : decode cX8_come 67 = .ok (.l2i, 1) := by decide +kernel
theorem dX8_come_68 : decode cX8_come 68 = .ok (.sipush 255, 3) := by decide +kernel
theorem dX8_come_71 : decode cX8_come 71 = .ok (.iand, 1) := by decide +kernel
theorem dX8_come_72 : decode cX8_come 72 = .ok (.ireturn, 1) := by decide +kernel
set_option maxRecDepth 20000 in
theorem ggX8_quarrels_X8_within : GoodIn wsX8_quarrels wsX8_within := goodIn_r _ [7] (by decide +kernel) (by decide +kernel)
set_option maxRecDepth 20000 in
theorem gX8_quarrels_X8_within : GoodIn wsX8_quarrels (va_wsS RX8 77 yX8_within wsX8_within) := goodIn_app (goodIn_of _ (by decide +kernel)) ggX8_quarrels_X8_within
set_option maxRecDepth 20000 in
theorem ggX8_quarrels_X2_run : GoodIn wsX8_quarrels wsX2_run := goodIn_r _ [12, 13, 14, 15, 16, 11, 17, 18, 19, 20, 21, 6, 22, 23, 24, 25, 26, 27, 28, 29, 30, 31, 32, 33, 86, 87, 88, 89, 90, 77, 78, 79, 80, 81, 82, 83, 84, 85, 91, 92, 93, 71, 72, 73, 74, 75, 76] (by decide +kernel) (by decide +kernel)
set_option maxRecDepth 20000 in
theorem gX8_quarrels_X2_run : GoodIn wsX8_quarrels (wsV RX8 154 RX2 yX2_run wsX2_run) := goodIn_app (goodIn_of _ (by decide +kernel)) ggX8_quarrels_X2_run
set_option maxRecDepth 20000 in
theorem ggX8_quarrels_X2_quarrelCount : GoodIn wsX8_quarrels wsX2_quarrelCount := goodIn_r _ [37, 19, 38, 39, 40, 11, 41, 13, 42, 43, 44, 45, 46, 47, 48, 49, 50, 51, 32, 6, 33, 52, 53, 54, 55, 31, 18, 56, 57, 58, 59, 60, 61, 62, 86, 87, 88, 89, 90, 71, 72, 73, 74, 75, 76, 77, 78, 79, 80, 81, 82, 83, 84, 85, 91, 92, 93] (by decide +kernel) (by decide +kernel)
set_option maxRecDepth 20000 in
theorem gX8_quarrels_X2_quarrelCount : GoodIn wsX8_quarrels (wsV RX8 161 RX2 yX2_quarrelCount wsX2_quarrelCount) := goodIn_app (goodIn_of _ (by decide +kernel)) ggX8_quarrels_X2_quarrelCount
theorem dX8_quarrels_0 : decode cX8_quarrels 0 = .ok (.iload_n 1, 1) := by decide +kernel
theorem dX8_quarrels_1 : decode cX8_quarrels 1 = .ok (.iconst 4, 1) := by decide +kernel
theorem dX8_quarrels_2 : decode cX8_quarrels 2 = .ok (.invokestatic 77, 3) := by decide +kernel
theorem dX8_quarrels_5 : decode cX8_quarrels 5 = .ok (.ifCond .ne 5, 3) := by decide +kernel
theorem dX8_quarrels_8 : decode cX8_quarrels 8 = .ok (.iconst (-1), 1) := by decide +kernel
theorem dX8_quarrels_9 : decode cX8_quarrels 9 = .ok (.ireturn, 1) := by decide +kernel
theorem dX8_quarrels_10 : decode cX8_quarrels 10 = .ok (.aload_n 0, 1) := by decide +kernel
theorem dX8_quarrels_11 : decode cX8_quarrels 11 = .ok (.getfield 42, 3) := by decide +kernel
theorem dX8_quarrels_14 : decode cX8_quarrels 14 = .ok (.iload_n 1, 1) := by decide +kernel
theorem dX8_quarrels_15 : decode cX8_quarrels 15 = .ok (.aload_n 0, 1) := by decide +kernel
theorem dX8_quarrels_16 : decode cX8_quarrels 16 = .ok (.getfield 19, 3) := by decide +kernel
theorem dX8_quarrels_19 : decode cX8_quarrels 19 = .ok (.getfield 115, 3) := by decide +kernel
theorem dX8_quarrels_22 : decode cX8_quarrels 22 = .ok (.aload_n 0, 1) := by decide +kernel
theorem dX8_quarrels_23 : decode cX8_quarrels 23 = .ok (.getfield 26, 3) := by decide +kernel
theorem dX8_quarrels_26 : decode cX8_quarrels 26 = .ok (.getfield 122, 3) := by decide +kernel
theorem dX8_quarrels_29 : decode cX8_quarrels 29 = .ok (.invokevirtual 154, 3) := by decide +kernel
theorem dX8_quarrels_32 : decode cX8_quarrels 32 = .ok (.aload_n 0, 1) := by decide +kernel
theorem dX8_quarrels_33 : decode cX8_quarrels 33 = .ok (.getfield 42, 3) := by decide +kernel
theorem dX8_quarrels_36 : decode cX8_quarrels 36 = .ok (.aload_n 0, 1) := by decide +kernel
theorem dX8_quarrels_37 : decode cX8_quarrels 37 = .ok (.getfield 19, 3) := by decide +kernel
theorem dX8_quarrels_40 : decode cX8_quarrels 40 = .ok (.getfield 115, 3) := by decide +kernel
theorem dX8_quarrels_43 : decode cX8_quarrels 43 = .ok (.aload_n 0, 1) := by decide +kernel
theorem dX8_quarrels_44 : decode cX8_quarrels 44 = .ok (.getfield 26, 3) := by decide +kernel
theorem dX8_quarrels_47 : decode cX8_quarrels 47 = .ok (.getfield 122, 3) := by decide +kernel
theorem dX8_quarrels_50 : decode cX8_quarrels 50 = .ok (.invokevirtual 161, 3) := by decide +kernel
theorem dX8_quarrels_53 : decode cX8_quarrels 53 = .ok (.ireturn, 1) := by decide +kernel
set_option maxRecDepth 20000 in
theorem ggX8_quarrel_X8_within : GoodIn wsX8_quarrel wsX8_within := goodIn_r _ [7] (by decide +kernel) (by decide +kernel)
set_option maxRecDepth 20000 in
theorem gX8_quarrel_X8_within : GoodIn wsX8_quarrel (va_wsS RX8 77 yX8_within wsX8_within) := goodIn_app (goodIn_of _ (by decide +kernel)) ggX8_quarrel_X8_within
set_option maxRecDepth 20000 in
theorem ggX8_quarrel_X2_run : GoodIn wsX8_quarrel wsX2_run := goodIn_r _ [12, 13, 14, 15, 16, 11, 17, 18, 19, 20, 21, 6, 22, 23, 24, 25, 26, 27, 28, 29, 30, 31, 32, 33, 89, 90, 91, 92, 93, 80, 81, 82, 83, 84, 85, 86, 87, 88, 94, 95, 96, 74, 75, 76, 77, 78, 79] (by decide +kernel) (by decide +kernel)
set_option maxRecDepth 20000 in
theorem gX8_quarrel_X2_run : GoodIn wsX8_quarrel (wsV RX8 154 RX2 yX2_run wsX2_run) := goodIn_app (goodIn_of _ (by decide +kernel)) ggX8_quarrel_X2_run
set_option maxRecDepth 20000 in
theorem ggX8_quarrel_X2_quarrelAt : GoodIn wsX8_quarrel wsX2_quarrelAt := goodIn_r _ [37, 13, 19, 38, 39, 40, 11, 41, 42, 43, 44, 45, 46, 47, 48, 49, 50, 51, 32, 6, 33, 52, 53, 54, 55, 31, 18, 56, 57, 58, 59, 60, 61, 62, 63, 64, 65, 89, 90, 91, 92, 93, 80, 81, 82, 83, 84, 85, 86, 87, 88, 74, 75, 76, 77, 78, 79, 94, 95, 96] (by decide +kernel) (by decide +kernel)
set_option maxRecDepth 20000 in
theorem gX8_quarrel_X2_quarrelAt : GoodIn wsX8_quarrel (wsV RX8 165 RX2 yX2_quarrelAt wsX2_quarrelAt) := goodIn_app (goodIn_of _ (by decide +kernel)) ggX8_quarrel_X2_quarrelAt
theorem dX8_quarrel_0 : decode cX8_quarrel 0 = .ok (.iload_n 1, 1) := by decide +kernel
theorem dX8_quarrel_1 : decode cX8_quarrel 1 = .ok (.iconst 4, 1) := by decide +kernel
theorem dX8_quarrel_2 : decode cX8_quarrel 2 = .ok (.invokestatic 77, 3) := by decide +kernel
theorem dX8_quarrel_5 : decode cX8_quarrel 5 = .ok (.ifCond .eq 7, 3) := by decide +kernel
theorem dX8_quarrel_8 : decode cX8_quarrel 8 = .ok (.iload_n 2, 1) := by decide +kernel
theorem dX8_quarrel_9 : decode cX8_quarrel 9 = .ok (.ifCond .ge 5, 3) := by decide +kernel
theorem dX8_quarrel_12 : decode cX8_quarrel 12 = .ok (.iconst (-1), 1) := by decide +kernel
theorem dX8_quarrel_13 : decode cX8_quarrel 13 = .ok (.ireturn, 1) := by decide +kernel
theorem dX8_quarrel_14 : decode cX8_quarrel 14 = .ok (.aload_n 0, 1) := by decide +kernel
theorem dX8_quarrel_15 : decode cX8_quarrel 15 = .ok (.getfield 42, 3) := by decide +kernel
theorem dX8_quarrel_18 : decode cX8_quarrel 18 = .ok (.iload_n 1, 1) := by decide +kernel
theorem dX8_quarrel_19 : decode cX8_quarrel 19 = .ok (.aload_n 0, 1) := by decide +kernel
theorem dX8_quarrel_20 : decode cX8_quarrel 20 = .ok (.getfield 19, 3) := by decide +kernel
theorem dX8_quarrel_23 : decode cX8_quarrel 23 = .ok (.getfield 115, 3) := by decide +kernel
theorem dX8_quarrel_26 : decode cX8_quarrel 26 = .ok (.aload_n 0, 1) := by decide +kernel
theorem dX8_quarrel_27 : decode cX8_quarrel 27 = .ok (.getfield 26, 3) := by decide +kernel
theorem dX8_quarrel_30 : decode cX8_quarrel 30 = .ok (.getfield 122, 3) := by decide +kernel
theorem dX8_quarrel_33 : decode cX8_quarrel 33 = .ok (.invokevirtual 154, 3) := by decide +kernel
theorem dX8_quarrel_36 : decode cX8_quarrel 36 = .ok (.aload_n 0, 1) := by decide +kernel
theorem dX8_quarrel_37 : decode cX8_quarrel 37 = .ok (.getfield 42, 3) := by decide +kernel
theorem dX8_quarrel_40 : decode cX8_quarrel 40 = .ok (.iload_n 2, 1) := by decide +kernel
theorem dX8_quarrel_41 : decode cX8_quarrel 41 = .ok (.invokevirtual 165, 3) := by decide +kernel
theorem dX8_quarrel_44 : decode cX8_quarrel 44 = .ok (.ireturn, 1) := by decide +kernel
set_option maxRecDepth 20000 in
theorem ggX8_judge_X8_within : GoodIn wsX8_judge wsX8_within := goodIn_r _ [7] (by decide +kernel) (by decide +kernel)
set_option maxRecDepth 20000 in
theorem gX8_judge_X8_within : GoodIn wsX8_judge (va_wsS RX8 77 yX8_within wsX8_within) := goodIn_app (goodIn_of _ (by decide +kernel)) ggX8_judge_X8_within
set_option maxRecDepth 20000 in
theorem ggX8_judge_X2_wayCount : GoodIn wsX8_judge wsX2_wayCount := goodIn_r _ [12, 13, 14, 15, 16, 17, 11, 18, 19, 20, 21, 22, 23, 24, 25, 26, 27, 28, 29, 6, 30, 128, 129, 130, 131, 132, 133, 134, 135, 136, 137, 138, 139, 140, 141, 122, 123, 124, 125, 126, 127] (by decide +kernel) (by decide +kernel)
set_option maxRecDepth 20000 in
theorem gX8_judge_X2_wayCount : GoodIn wsX8_judge (wsV RX8 169 RX2 yX2_wayCount wsX2_wayCount) := goodIn_app (goodIn_of _ (by decide +kernel)) ggX8_judge_X2_wayCount
set_option maxRecDepth 20000 in
theorem ggX8_judge_X1_takeBest : GoodIn wsX8_judge wsX1_takeBest := goodIn_r _ [35, 36, 37, 38, 39, 40, 41, 42, 43, 44, 45, 46, 16, 17, 11, 18, 14, 13, 19, 20, 21, 22, 23, 24, 25, 26, 27, 28, 29, 6, 30, 47, 48, 49, 34, 50, 51, 52, 53, 54, 55, 56, 57, 58, 59, 60, 61, 62, 63, 64, 65, 66, 67, 68, 69, 70, 71, 72, 73, 74, 75, 76, 77, 78, 79, 80, 81, 82, 83, 84, 85, 86, 87, 88, 89, 90, 91, 92, 93, 94, 95, 96, 97, 98, 99, 100, 101, 102, 103, 104, 105, 106, 107, 108, 109, 110, 111, 112, 113, 142, 143, 144, 145, 146, 147, 148, 149, 150, 151, 133, 134, 135, 136, 137, 138, 139, 140, 141, 128, 129, 130, 131, 132, 122, 123, 124, 125, 126, 127, 152, 153, 154] (by decide +kernel) (by decide +kernel)
set_option maxRecDepth 20000 in
theorem gX8_judge_X1_takeBest : GoodIn wsX8_judge (wsV RX8 173 RX1 yX1_takeBest wsX1_takeBest) := goodIn_app (goodIn_of _ (by decide +kernel)) ggX8_judge_X1_takeBest
theorem dX8_judge_0 : decode cX8_judge 0 = .ok (.iload_n 1, 1) := by decide +kernel
theorem dX8_judge_1 : decode cX8_judge 1 = .ok (.iconst 4, 1) := by decide +kernel
theorem dX8_judge_2 : decode cX8_judge 2 = .ok (.invokestatic 77, 3) := by decide +kernel
theorem dX8_judge_5 : decode cX8_judge 5 = .ok (.ifCond .eq 24, 3) := by decide +kernel
theorem dX8_judge_8 : decode cX8_judge 8 = .ok (.aload_n 0, 1) := by decide +kernel
theorem dX8_judge_9 : decode cX8_judge 9 = .ok (.getfield 19, 3) := by decide +kernel
theorem dX8_judge_12 : decode cX8_judge 12 = .ok (.getfield 96, 3) := by decide +kernel
theorem dX8_judge_15 : decode cX8_judge 15 = .ok (.ifCond .eq 14, 3) := by decide +kernel
theorem dX8_judge_18 : decode cX8_judge 18 = .ok (.aload_n 0, 1) := by decide +kernel
theorem dX8_judge_19 : decode cX8_judge 19 = .ok (.getfield 42, 3) := by decide +kernel
theorem dX8_judge_22 : decode cX8_judge 22 = .ok (.invokevirtual 169, 3) := by decide +kernel
theorem dX8_judge_25 : decode cX8_judge 25 = .ok (.iconst (-1), 1) := by decide +kernel
theorem dX8_judge_26 : decode cX8_judge 26 = .ok (.if_icmp .ne 5, 3) := by decide +kernel
theorem dX8_judge_29 : decode cX8_judge 29 = .ok (.iconst (-1), 1) := by decide +kernel
theorem dX8_judge_30 : decode cX8_judge 30 = .ok (.ireturn, 1) := by decide +kernel
theorem dX8_judge_31 : decode cX8_judge 31 = .ok (.aload_n 0, 1) := by decide +kernel
theorem dX8_judge_32 : decode cX8_judge 32 = .ok (.getfield 51, 3) := by decide +kernel
theorem dX8_judge_35 : decode cX8_judge 35 = .ok (.iload_n 1, 1) := by decide +kernel
theorem dX8_judge_36 : decode cX8_judge 36 = .ok (.invokevirtual 173, 3) := by decide +kernel
theorem dX8_judge_39 : decode cX8_judge 39 = .ok (.ireturn, 1) := by decide +kernel
set_option maxRecDepth 20000 in
theorem ggX8_cheapest_X8_within : GoodIn wsX8_cheapest wsX8_within := goodIn_r _ [5] (by decide +kernel) (by decide +kernel)
set_option maxRecDepth 20000 in
theorem gX8_cheapest_X8_within : GoodIn wsX8_cheapest (va_wsS RX8 77 yX8_within wsX8_within) := goodIn_app (goodIn_of _ (by decide +kernel)) ggX8_cheapest_X8_within
set_option maxRecDepth 20000 in
theorem ggX8_cheapest_X4_cheapestSet : GoodIn wsX8_cheapest wsX4_cheapestSet := goodIn_r _ [10, 11, 12, 13, 14, 15, 16, 17, 18, 19, 20, 21, 22, 23, 4, 24, 25, 26, 27, 28, 29, 30, 31, 32, 33, 34, 35, 36, 37, 38, 39, 40, 9, 41, 42, 43, 44, 45, 46, 47, 48, 49, 50, 51, 52, 53, 54, 55, 56, 57, 58, 59, 60, 61, 62, 63, 64, 65, 66, 67, 68, 69, 70, 71, 72, 73, 74, 75, 76, 77, 78, 79, 80, 81, 82, 83, 84, 85, 86, 87, 88, 89, 90, 91, 92, 93, 94, 95, 96, 97, 98, 99, 100, 101, 102, 103, 112, 113, 114, 115, 116, 117, 118, 119, 120, 121, 122, 123, 124, 125, 126, 127, 128, 129, 130, 131, 132, 133, 134, 135, 136, 137, 138, 139, 140, 141, 142, 143, 144] (by decide +kernel) (by decide +kernel)
set_option maxRecDepth 20000 in
theorem gX8_cheapest_X4_cheapestSet : GoodIn wsX8_cheapest (wsV RX8 176 RX4 yX4_cheapestSet wsX4_cheapestSet) := goodIn_app (goodIn_of _ (by decide +kernel)) ggX8_cheapest_X4_cheapestSet
theorem dX8_cheapest_0 : decode cX8_cheapest 0 = .ok (.iload_n 1, 1) := by decide +kernel
theorem dX8_cheapest_1 : decode cX8_cheapest 1 = .ok (.iconst 4, 1) := by decide +kernel
theorem dX8_cheapest_2 : decode cX8_cheapest 2 = .ok (.invokestatic 77, 3) := by decide +kernel
theorem dX8_cheapest_5 : decode cX8_cheapest 5 = .ok (.ifCond .eq 14, 3) := by decide +kernel
theorem dX8_cheapest_8 : decode cX8_cheapest 8 = .ok (.aload_n 0, 1) := by decide +kernel
theorem dX8_cheapest_9 : decode cX8_cheapest 9 = .ok (.getfield 60, 3) := by decide +kernel
theorem dX8_cheapest_12 : decode cX8_cheapest 12 = .ok (.iload_n 1, 1) := by decide +kernel
theorem dX8_cheapest_13 : decode cX8_cheapest 13 = .ok (.invokevirtual 176, 3) := by decide +kernel
theorem dX8_cheapest_16 : decode cX8_cheapest 16 = .ok (.goto 4, 3) := by decide +kernel
theorem dX8_cheapest_19 : decode cX8_cheapest 19 = .ok (.iconst (-1), 1) := by decide +kernel
theorem dX8_cheapest_20 : decode cX8_cheapest 20 = .ok (.ireturn, 1) := by decide +kernel
set_option maxRecDepth 20000 in
theorem ggX8_price_X8_within : GoodIn wsX8_price wsX8_within := goodIn_r _ [5] (by decide +kernel) (by decide +kernel)
set_option maxRecDepth 20000 in
theorem gX8_price_X8_within : GoodIn wsX8_price (va_wsS RX8 77 yX8_within wsX8_within) := goodIn_app (goodIn_of _ (by decide +kernel)) ggX8_price_X8_within
set_option maxRecDepth 20000 in
theorem ggX8_price_X0_priceOf : GoodIn wsX8_price wsX0_priceOf := goodIn_r _ [10, 11, 12, 13, 4, 14, 23, 24, 25, 26, 27] (by decide +kernel) (by decide +kernel)
set_option maxRecDepth 20000 in
theorem gX8_price_X0_priceOf : GoodIn wsX8_price (wsV RX8 179 RX0 yX0_priceOf wsX0_priceOf) := goodIn_app (goodIn_of _ (by decide +kernel)) ggX8_price_X0_priceOf
theorem dX8_price_0 : decode cX8_price 0 = .ok (.iload_n 1, 1) := by decide +kernel
theorem dX8_price_1 : decode cX8_price 1 = .ok (.iconst 1, 1) := by decide +kernel
theorem dX8_price_2 : decode cX8_price 2 = .ok (.aload_n 0, 1) := by decide +kernel
theorem dX8_price_3 : decode cX8_price 3 = .ok (.getfield 33, 3) := by decide +kernel
theorem dX8_price_6 : decode cX8_price 6 = .ok (.getfield 150, 3) := by decide +kernel
theorem dX8_price_9 : decode cX8_price 9 = .ok (.ishl, 1) := by decide +kernel
theorem dX8_price_10 : decode cX8_price 10 = .ok (.invokestatic 77, 3) := by decide +kernel
theorem dX8_price_13 : decode cX8_price 13 = .ok (.ifCond .eq 14, 3) := by decide +kernel
theorem dX8_price_16 : decode cX8_price 16 = .ok (.aload_n 0, 1) := by decide +kernel
theorem dX8_price_17 : decode cX8_price 17 = .ok (.getfield 33, 3) := by decide +kernel
theorem dX8_price_20 : decode cX8_price 20 = .ok (.iload_n 1, 1) := by decide +kernel
theorem dX8_price_21 : decode cX8_price 21 = .ok (.invokevirtual 179, 3) := by decide +kernel
theorem dX8_price_24 : decode cX8_price 24 = .ok (.goto 4, 3) := by decide +kernel
theorem dX8_price_27 : decode cX8_price 27 = .ok (.iconst (-1), 1) := by decide +kernel
theorem dX8_price_28 : decode cX8_price 28 = .ok (.ireturn, 1) := by decide +kernel
set_option maxRecDepth 20000 in
theorem ggX8_way_X8_within : GoodIn wsX8_way wsX8_within := goodIn_r _ [6] (by decide +kernel) (by decide +kernel)
set_option maxRecDepth 20000 in
theorem gX8_way_X8_within : GoodIn wsX8_way (va_wsS RX8 77 yX8_within wsX8_within) := goodIn_app (goodIn_of _ (by decide +kernel)) ggX8_way_X8_within
set_option maxRecDepth 20000 in
theorem ggX8_way_X8_isPair : GoodIn wsX8_way wsX8_isPair := goodIn_r _ [9, 3, 4, 5, 6] (by decide +kernel) (by decide +kernel)
set_option maxRecDepth 20000 in
theorem gX8_way_X8_isPair : GoodIn wsX8_way (va_wsS RX8 73 yX8_isPair wsX8_isPair) := goodIn_app (goodIn_of _ (by decide +kernel)) ggX8_way_X8_isPair
set_option maxRecDepth 20000 in
theorem ggX8_way_X5_has : GoodIn wsX8_way wsX5_has := goodIn_r _ [14, 15, 4, 5, 6, 81, 82, 83, 84, 85, 86] (by decide +kernel) (by decide +kernel)
set_option maxRecDepth 20000 in
theorem gX8_way_X5_has : GoodIn wsX8_way (wsV RX8 104 RX5 yX5_has wsX5_has) := goodIn_app (goodIn_of _ (by decide +kernel)) ggX8_way_X5_has
set_option maxRecDepth 20000 in
theorem ggX8_way_X8_pairOf : GoodIn wsX8_way wsX8_pairOf := goodIn_r _ [18] (by decide +kernel) (by decide +kernel)
set_option maxRecDepth 20000 in
theorem gX8_way_X8_pairOf : GoodIn wsX8_way (va_wsS RX8 80 yX8_pairOf wsX8_pairOf) := goodIn_app (goodIn_of _ (by decide +kernel)) ggX8_way_X8_pairOf
set_option maxRecDepth 20000 in
theorem ggX8_way_X7_partOnWay : GoodIn wsX8_way wsX7_partOnWay := goodIn_r _ [23, 24, 25, 26, 27, 22, 28, 29, 30, 31, 32, 33, 34, 35, 36, 37, 38, 39, 5, 40, 41, 42, 43, 44, 45, 46, 47, 48, 49, 50, 51, 52, 53, 54, 55, 56, 57, 58, 59, 60, 61, 16, 17, 18, 62, 63, 64, 65, 66, 67, 68, 69, 70, 71, 72, 4, 6, 87, 88, 89, 90, 91, 92, 93, 94, 95, 96, 97, 98, 99, 100, 101, 102, 103, 81, 82, 83, 84, 85, 86, 104, 105, 106, 107, 108] (by decide +kernel) (by decide +kernel)
set_option maxRecDepth 20000 in
theorem gX8_way_X7_partOnWay : GoodIn wsX8_way (wsV RX8 182 RX7 yX7_partOnWay wsX7_partOnWay) := goodIn_app (goodIn_of _ (by decide +kernel)) ggX8_way_X7_partOnWay
theorem dX8_way_0 : decode cX8_way 0 = .ok (.iload_n 1, 1) := by decide +kernel
theorem dX8_way_1 : decode cX8_way 1 = .ok (.iconst 4, 1) := by decide +kernel
theorem dX8_way_2 : decode cX8_way 2 = .ok (.invokestatic 77, 3) := by decide +kernel
theorem dX8_way_5 : decode cX8_way 5 = .ok (.ifCond .eq 23, 3) := by decide +kernel
theorem dX8_way_8 : decode cX8_way 8 = .ok (.iload_n 2, 1) := by decide +kernel
theorem dX8_way_9 : decode cX8_way 9 = .ok (.iload_n 3, 1) := by decide +kernel
theorem dX8_way_10 : decode cX8_way 10 = .ok (.invokestatic 73, 3) := by decide +kernel
theorem dX8_way_13 : decode cX8_way 13 = .ok (.ifCond .eq 15, 3) := by decide +kernel
theorem dX8_way_16 : decode cX8_way 16 = .ok (.aload_n 0, 1) := by decide +kernel
theorem dX8_way_17 : decode cX8_way 17 = .ok (.getfield 19, 3) := by decide +kernel
theorem dX8_way_20 : decode cX8_way 20 = .ok (.iload 4, 2) := by decide +kernel
theorem dX8_way_22 : decode cX8_way 22 = .ok (.invokevirtual 104, 3) := by decide +kernel
theorem dX8_way_25 : decode cX8_way 25 = .ok (.ifCond .ne 5, 3) := by decide +kernel
theorem dX8_way_28 : decode cX8_way 28 = .ok (.iconst (-1), 1) := by decide +kernel
theorem dX8_way_29 : decode cX8_way 29 = .ok (.ireturn, 1) := by decide +kernel
theorem dX8_way_30 : decode cX8_way 30 = .ok (.aload_n 0, 1) := by decide +kernel
theorem dX8_way_31 : decode cX8_way 31 = .ok (.getfield 69, 3) := by decide +kernel
theorem dX8_way_34 : decode cX8_way 34 = .ok (.iload_n 1, 1) := by decide +kernel
theorem dX8_way_35 : decode cX8_way 35 = .ok (.iload_n 2, 1) := by decide +kernel
theorem dX8_way_36 : decode cX8_way 36 = .ok (.iload_n 3, 1) := by decide +kernel
theorem dX8_way_37 : decode cX8_way 37 = .ok (.invokestatic 80, 3) := by decide +kernel
theorem dX8_way_40 : decode cX8_way 40 = .ok (.iload 4, 2) := by decide +kernel
theorem dX8_way_42 : decode cX8_way 42 = .ok (.iload 5, 2) := by decide +kernel
theorem dX8_way_44 : decode cX8_way 44 = .ok (.invokevirtual 182, 3) := by decide +kernel
theorem dX8_way_47 : decode cX8_way 47 = .ok (.ireturn, 1) := by decide +kernel
set_option maxRecDepth 20000 in
theorem ggX8_notice_X8_within : GoodIn wsX8_notice wsX8_within := goodIn_r _ [6] (by decide +kernel) (by decide +kernel)
set_option maxRecDepth 20000 in
theorem gX8_notice_X8_within : GoodIn wsX8_notice (va_wsS RX8 77 yX8_within wsX8_within) := goodIn_app (goodIn_of _ (by decide +kernel)) ggX8_notice_X8_within
set_option maxRecDepth 20000 in
theorem ggX8_notice_X7_noticed : GoodIn wsX8_notice wsX7_noticed := goodIn_r _ [11, 12, 13, 14, 5, 15, 16, 17, 18, 10, 19, 20, 21, 22, 23, 24, 25, 26, 27, 28, 29, 30, 31, 32, 33, 34, 35, 36, 37, 38, 39, 40, 41, 42, 43, 44, 45, 46, 47, 48, 67, 68, 69, 70, 71, 61, 62, 63, 64, 65, 66, 72, 73, 74, 75, 76, 77, 78, 79, 80, 81, 82, 83, 84, 85, 86, 87, 88] (by decide +kernel) (by decide +kernel)
set_option maxRecDepth 20000 in
theorem gX8_notice_X7_noticed : GoodIn wsX8_notice (wsV RX8 185 RX7 yX7_noticed wsX7_noticed) := goodIn_app (goodIn_of _ (by decide +kernel)) ggX8_notice_X7_noticed
set_option maxRecDepth 20000 in
theorem ggX8_notice_X8_memberAt : GoodIn wsX8_notice wsX8_memberAt := goodIn_r _ [51, 52, 30, 5, 31] (by decide +kernel) (by decide +kernel)
set_option maxRecDepth 20000 in
theorem gX8_notice_X8_memberAt : GoodIn wsX8_notice (va_wsS RX8 188 yX8_memberAt wsX8_memberAt) := goodIn_app (goodIn_of _ (by decide +kernel)) ggX8_notice_X8_memberAt
theorem dX8_notice_0 : decode cX8_notice 0 = .ok (.iload_n 1, 1) := by decide +kernel
theorem dX8_notice_1 : decode cX8_notice 1 = .ok (.iconst 4, 1) := by decide +kernel
theorem dX8_notice_2 : decode cX8_notice 2 = .ok (.invokestatic 77, 3) := by decide +kernel
theorem dX8_notice_5 : decode cX8_notice 5 = .ok (.ifCond .eq 13, 3) := by decide +kernel
theorem dX8_notice_8 : decode cX8_notice 8 = .ok (.aload_n 0, 1) := by decide +kernel
theorem dX8_notice_9 : decode cX8_notice 9 = .ok (.getfield 19, 3) := by decide +kernel
theorem dX8_notice_12 : decode cX8_notice 12 = .ok (.getfield 96, 3) := by decide +kernel
theorem dX8_notice_15 : decode cX8_notice 15 = .ok (.ifCond .ne 5, 3) := by decide +kernel
theorem dX8_notice_18 : decode cX8_notice 18 = .ok (.iconst (-1), 1) := by decide +kernel
theorem dX8_notice_19 : decode cX8_notice 19 = .ok (.ireturn, 1) := by decide +kernel
theorem dX8_notice_20 : decode cX8_notice 20 = .ok (.aload_n 0, 1) := by decide +kernel
theorem dX8_notice_21 : decode cX8_notice 21 = .ok (.getfield 69, 3) := by decide +kernel
theorem dX8_notice_24 : decode cX8_notice 24 = .ok (.iload_n 1, 1) := by decide +kernel
theorem dX8_notice_25 : decode cX8_notice 25 = .ok (.invokevirtual 185, 3) := by decide +kernel
theorem dX8_notice_28 : decode cX8_notice 28 = .ok (.iload_n 2, 1) := by decide +kernel
theorem dX8_notice_29 : decode cX8_notice 29 = .ok (.invokestatic 188, 3) := by decide +kernel
theorem dX8_notice_32 : decode cX8_notice 32 = .ok (.ireturn, 1) := by decide +kernel
set_option maxRecDepth 20000 in
theorem ggX8_differ_X8_within : GoodIn wsX8_differ wsX8_within := goodIn_r _ [5] (by decide +kernel) (by decide +kernel)
set_option maxRecDepth 20000 in
theorem gX8_differ_X8_within : GoodIn wsX8_differ (va_wsS RX8 77 yX8_within wsX8_within) := goodIn_app (goodIn_of _ (by decide +kernel)) ggX8_differ_X8_within
set_option maxRecDepth 20000 in
theorem ggX8_differ_X2_unlike : GoodIn wsX8_differ wsX2_unlike := goodIn_r _ [10, 11, 12, 13, 14, 15, 16, 17, 18, 19, 20, 21, 9, 22, 23, 24, 25, 26, 27, 28, 29, 4, 30, 31, 32, 33, 34, 35, 36, 37, 38, 39, 40, 41, 42, 43, 44, 45, 46, 47, 48, 49, 50, 51, 52, 53, 54, 67, 68, 69, 70, 71, 72, 73, 74, 75, 76, 77, 78, 79, 80, 81, 82, 83, 84, 85, 86, 87, 88, 89] (by decide +kernel) (by decide +kernel)
set_option maxRecDepth 20000 in
theorem gX8_differ_X2_unlike : GoodIn wsX8_differ (wsV RX8 191 RX2 yX2_unlike wsX2_unlike) := goodIn_app (goodIn_of _ (by decide +kernel)) ggX8_differ_X2_unlike
set_option maxRecDepth 20000 in
theorem ggX8_differ_X8_memberAt : GoodIn wsX8_differ wsX8_memberAt := goodIn_r _ [57, 58, 39, 4, 40] (by decide +kernel) (by decide +kernel)
set_option maxRecDepth 20000 in
theorem gX8_differ_X8_memberAt : GoodIn wsX8_differ (va_wsS RX8 188 yX8_memberAt wsX8_memberAt) := goodIn_app (goodIn_of _ (by decide +kernel)) ggX8_differ_X8_memberAt
end
section
theorem dX8_differ_0 : decode cX8_differ 0 = .ok (.iload_n 1, 1) := by decide +kernel
theorem dX8_differ_1 : decode cX8_differ 1 = .ok (.iconst 4, 1) := by decide +kernel
theorem dX8_differ_2 : decode cX8_differ 2 = .ok (.invokestatic 77, 3) := by decide +kernel
theorem dX8_differ_5 : decode cX8_differ 5 = .ok (.ifCond .eq 11, 3) := by decide +kernel
theorem dX8_differ_8 : decode cX8_differ 8 = .ok (.iload_n 2, 1) := by decide +kernel
theorem dX8_differ_9 : decode cX8_differ 9 = .ok (.iconst 4, 1) := by decide +kernel
theorem dX8_differ_10 : decode cX8_differ 10 = .ok (.invokestatic 77, 3) := by decide +kernel
theorem dX8_differ_13 : decode cX8_differ 13 = .ok (.ifCond .ne 5, 3) := by decide +kernel
theorem dX8_differ_16 : decode cX8_differ 16 = .ok (.iconst (-1), 1) := by decide +kernel
theorem dX8_differ_17 : decode cX8_differ 17 = .ok (.ireturn, 1) := by decide +kernel
theorem dX8_differ_18 : decode cX8_differ 18 = .ok (.aload_n 0, 1) := by decide +kernel
theorem dX8_differ_19 : decode cX8_differ 19 = .ok (.getfield 42, 3) := by decide +kernel
theorem dX8_differ_22 : decode cX8_differ 22 = .ok (.iload_n 1, 1) := by decide +kernel
theorem dX8_differ_23 : decode cX8_differ 23 = .ok (.iload_n 2, 1) := by decide +kernel
theorem dX8_differ_24 : decode cX8_differ 24 = .ok (.invokevirtual 191, 3) := by decide +kernel
theorem dX8_differ_27 : decode cX8_differ 27 = .ok (.iload_n 3, 1) := by decide +kernel
theorem dX8_differ_28 : decode cX8_differ 28 = .ok (.invokestatic 188, 3) := by decide +kernel
theorem dX8_differ_31 : decode cX8_differ 31 = .ok (.ireturn, 1) := by decide +kernel
set_option maxRecDepth 20000 in
theorem ggX8_look_X5_has : GoodIn wsX8_look wsX5_has := goodIn_r _ [8, 9, 10, 11, 12, 60, 61, 62, 63, 64, 65] (by decide +kernel) (by decide +kernel)
set_option maxRecDepth 20000 in
theorem gX8_look_X5_has : GoodIn wsX8_look (wsV RX8 104 RX5 yX5_has wsX5_has) := goodIn_app (goodIn_of _ (by decide +kernel)) ggX8_look_X5_has
set_option maxRecDepth 20000 in
theorem ggX8_look_X2_ofProduct : GoodIn wsX8_look wsX2_ofProduct := goodIn_r _ [17, 18, 19, 20, 21, 22, 23, 24, 25, 26, 27, 28, 29, 30, 11, 31, 75, 76, 77, 78, 79, 60, 61, 62, 63, 64, 65, 66, 67, 68, 69, 70, 71, 72, 73, 74] (by decide +kernel) (by decide +kernel)
set_option maxRecDepth 20000 in
theorem gX8_look_X2_ofProduct : GoodIn wsX8_look (wsV RX8 194 RX2 yX2_ofProduct wsX2_ofProduct) := goodIn_app (goodIn_of _ (by decide +kernel)) ggX8_look_X2_ofProduct
set_option maxRecDepth 20000 in
theorem ggX8_look_X8_holds : GoodIn wsX8_look wsX8_holds := goodIn_r _ [31] (by decide +kernel) (by decide +kernel)
set_option maxRecDepth 20000 in
theorem gX8_look_X8_holds : GoodIn wsX8_look (va_wsS RX8 130 yX8_holds wsX8_holds) := goodIn_app (goodIn_of _ (by decide +kernel)) ggX8_look_X8_holds
set_option maxRecDepth 20000 in
theorem ggX8_look_X3_countInto : GoodIn wsX8_look wsX3_countInto := goodIn_r _ [36, 27, 26, 66, 67, 68, 69, 70, 71, 72, 73, 74] (by decide +kernel) (by decide +kernel)
set_option maxRecDepth 20000 in
theorem gX8_look_X3_countInto : GoodIn wsX8_look (wsV RX8 198 RX3 yX3_countInto wsX3_countInto) := goodIn_app (goodIn_of _ (by decide +kernel)) ggX8_look_X3_countInto
set_option maxRecDepth 20000 in
theorem ggX8_look_X3_countOutOf : GoodIn wsX8_look wsX3_countOutOf := goodIn_r _ [40, 41, 29, 42, 30, 11, 31, 66, 67, 68, 69, 70, 71, 72, 73, 74] (by decide +kernel) (by decide +kernel)
set_option maxRecDepth 20000 in
theorem gX8_look_X3_countOutOf : GoodIn wsX8_look (wsV RX8 201 RX3 yX3_countOutOf wsX3_countOutOf) := goodIn_app (goodIn_of _ (by decide +kernel)) ggX8_look_X3_countOutOf
set_option maxRecDepth 20000 in
theorem ggX8_look_X8_choiceOrNone : GoodIn wsX8_look wsX8_choiceOrNone := goodIn_r _ [46, 1, 47, 48, 49, 7, 50, 51, 52, 53, 54, 55, 56, 57, 58, 59, 60, 61, 62, 63, 64, 65] (by decide +kernel) (by decide +kernel)
set_option maxRecDepth 20000 in
theorem gX8_look_X8_choiceOrNone : GoodIn wsX8_look (wsV RX8 204 RX8 yX8_choiceOrNone wsX8_choiceOrNone) := goodIn_app (goodIn_of _ (by decide +kernel)) ggX8_look_X8_choiceOrNone
theorem dX8_look_0 : decode cX8_look 0 = .ok (.aload_n 0, 1) := by decide +kernel
theorem dX8_look_1 : decode cX8_look 1 = .ok (.getfield 19, 3) := by decide +kernel
theorem dX8_look_4 : decode cX8_look 4 = .ok (.iload_n 1, 1) := by decide +kernel
theorem dX8_look_5 : decode cX8_look 5 = .ok (.invokevirtual 104, 3) := by decide +kernel
theorem dX8_look_8 : decode cX8_look 8 = .ok (.ifCond .ne 5, 3) := by decide +kernel
theorem dX8_look_11 : decode cX8_look 11 = .ok (.iconst (-1), 1) := by decide +kernel
theorem dX8_look_12 : decode cX8_look 12 = .ok (.ireturn, 1) := by decide +kernel
theorem dX8_look_13 : decode cX8_look 13 = .ok (.iload_n 2, 1) := by decide +kernel
theorem dX8_look_14 : decode cX8_look 14 = .ok (.tableswitch 100 0 4 #[34, 44, 54, 82, 91], 34) := by decide +kernel
theorem dX8_look_48 : decode cX8_look 48 = .ok (.aload_n 0, 1) := by decide +kernel
theorem dX8_look_49 : decode cX8_look 49 = .ok (.getfield 19, 3) := by decide +kernel
theorem dX8_look_52 : decode cX8_look 52 = .ok (.getfield 115, 3) := by decide +kernel
theorem dX8_look_55 : decode cX8_look 55 = .ok (.iload_n 1, 1) := by decide +kernel
theorem dX8_look_56 : decode cX8_look 56 = .ok (.iaload, 1) := by decide +kernel
theorem dX8_look_57 : decode cX8_look 57 = .ok (.ireturn, 1) := by decide +kernel
theorem dX8_look_58 : decode cX8_look 58 = .ok (.aload_n 0, 1) := by decide +kernel
theorem dX8_look_59 : decode cX8_look 59 = .ok (.getfield 19, 3) := by decide +kernel
theorem dX8_look_62 : decode cX8_look 62 = .ok (.getfield 108, 3) := by decide +kernel
theorem dX8_look_65 : decode cX8_look 65 = .ok (.iload_n 1, 1) := by decide +kernel
theorem dX8_look_66 : decode cX8_look 66 = .ok (.iaload, 1) := by decide +kernel
theorem dX8_look_67 : decode cX8_look 67 = .ok (.ireturn, 1) := by decide +kernel
theorem dX8_look_68 : decode cX8_look 68 = .ok (.aload_n 0, 1) := by decide +kernel
theorem dX8_look_69 : decode cX8_look 69 = .ok (.getfield 42, 3) := by decide +kernel
theorem dX8_look_72 : decode cX8_look 72 = .ok (.aload_n 0, 1) := by decide +kernel
theorem dX8_look_73 : decode cX8_look 73 = .ok (.getfield 26, 3) := by decide +kernel
theorem dX8_look_76 : decode cX8_look 76 = .ok (.getfield 122, 3) := by decide +kernel
theorem dX8_look_79 : decode cX8_look 79 = .ok (.invokevirtual 194, 3) := by decide +kernel
theorem dX8_look_82 : decode cX8_look 82 = .ok (.i2l, 1) := by decide +kernel
theorem dX8_look_83 : decode cX8_look 83 = .ok (.iload_n 1, 1) := by decide +kernel
theorem dX8_look_84 : decode cX8_look 84 = .ok (.invokestatic 130, 3) := by decide +kernel
theorem dX8_look_87 : decode cX8_look 87 = .ok (.ifCond .eq 7, 3) := by decide +kernel
theorem dX8_look_90 : decode cX8_look 90 = .ok (.iconst 1, 1) := by decide +kernel
theorem dX8_look_91 : decode cX8_look 91 = .ok (.goto 4, 3) := by decide +kernel
theorem dX8_look_94 : decode cX8_look 94 = .ok (.iconst 0, 1) := by decide +kernel
theorem dX8_look_95 : decode cX8_look 95 = .ok (.ireturn, 1) := by decide +kernel
theorem dX8_look_96 : decode cX8_look 96 = .ok (.aload_n 0, 1) := by decide +kernel
theorem dX8_look_97 : decode cX8_look 97 = .ok (.getfield 26, 3) := by decide +kernel
theorem dX8_look_100 : decode cX8_look 100 = .ok (.iload_n 1, 1) := by decide +kernel
theorem dX8_look_101 : decode cX8_look 101 = .ok (.invokevirtual 198, 3) := by decide +kernel
theorem dX8_look_104 : decode cX8_look 104 = .ok (.ireturn, 1) := by decide +kernel
theorem dX8_look_105 : decode cX8_look 105 = .ok (.aload_n 0, 1) := by decide +kernel
theorem dX8_look_106 : decode cX8_look 106 = .ok (.getfield 26, 3) := by decide +kernel
theorem dX8_look_109 : decode cX8_look 109 = .ok (.iload_n 1, 1) := by decide +kernel
theorem dX8_look_110 : decode cX8_look 110 = .ok (.invokevirtual 201, 3) := by decide +kernel
theorem dX8_look_113 : decode cX8_look 113 = .ok (.ireturn, 1) := by decide +kernel
theorem dX8_look_114 : decode cX8_look 114 = .ok (.aload_n 0, 1) := by decide +kernel
theorem dX8_look_115 : decode cX8_look 115 = .ok (.iload_n 1, 1) := by decide +kernel
theorem dX8_look_116 : decode cX8_look 116 = .ok (.iload_n 2, 1) := by decide +kernel
theorem dX8_look_117 : decode cX8_look 117 = .ok (.invokevirtual 204, 3) := by decide +kernel
theorem dX8_look_120 : decode cX8_look 120 = .ok (.ireturn, 1) := by decide +kernel
set_option maxRecDepth 20000 in
theorem ggX8_count_J13_bitCount_95d88 : GoodIn wsX8_count wsJ13_bitCount_95d88 := goodIn_r _ [8, 9, 10, 11] (by decide +kernel) (by decide +kernel)
set_option maxRecDepth 20000 in
theorem gX8_count_J13_bitCount_95d88 : GoodIn wsX8_count (va_wsS RX8 207 yJ13_bitCount_95d88 wsJ13_bitCount_95d88) := goodIn_app (goodIn_of _ (by decide +kernel)) ggX8_count_J13_bitCount_95d88
set_option maxRecDepth 20000 in
theorem ggX8_count_X2_ofProduct : GoodIn wsX8_count wsX2_ofProduct := goodIn_r _ [16, 17, 18, 19, 20, 21, 22, 23, 24, 25, 26, 27, 28, 29, 30, 31, 72, 73, 74, 75, 76, 52, 53, 54, 55, 56, 57, 58, 59, 60, 61, 62, 63, 64, 65, 66] (by decide +kernel) (by decide +kernel)
set_option maxRecDepth 20000 in
theorem gX8_count_X2_ofProduct : GoodIn wsX8_count (wsV RX8 194 RX2 yX2_ofProduct wsX2_ofProduct) := goodIn_app (goodIn_of _ (by decide +kernel)) ggX8_count_X2_ofProduct
set_option maxRecDepth 20000 in
theorem ggX8_count_J6_bitCount_0f7a4 : GoodIn wsX8_count wsJ6_bitCount_0f7a4 := goodIn_r _ [35, 36, 37, 38] (by decide +kernel) (by decide +kernel)
set_option maxRecDepth 20000 in
theorem gX8_count_J6_bitCount_0f7a4 : GoodIn wsX8_count (va_wsS RX8 212 yJ6_bitCount_0f7a4 wsJ6_bitCount_0f7a4) := goodIn_app (goodIn_of _ (by decide +kernel)) ggX8_count_J6_bitCount_0f7a4
set_option maxRecDepth 20000 in
theorem ggX8_count_X2_wayCount : GoodIn wsX8_count wsX2_wayCount := goodIn_r _ [42, 18, 17, 43, 13, 14, 15, 16, 19, 20, 21, 22, 23, 24, 25, 26, 27, 28, 29, 30, 31, 72, 73, 74, 75, 76, 58, 59, 60, 61, 62, 63, 64, 65, 66, 52, 53, 54, 55, 56, 57] (by decide +kernel) (by decide +kernel)
set_option maxRecDepth 20000 in
theorem gX8_count_X2_wayCount : GoodIn wsX8_count (wsV RX8 169 RX2 yX2_wayCount wsX2_wayCount) := goodIn_app (goodIn_of _ (by decide +kernel)) ggX8_count_X2_wayCount
theorem dX8_count_0 : decode cX8_count 0 = .ok (.iload_n 1, 1) := by decide +kernel
theorem dX8_count_1 : decode cX8_count 1 = .ok (.tableswitch 112 0 6 #[43, 51, 59, 70, 88, 96, 104], 43) := by decide +kernel
theorem dX8_count_44 : decode cX8_count 44 = .ok (.aload_n 0, 1) := by decide +kernel
theorem dX8_count_45 : decode cX8_count 45 = .ok (.getfield 19, 3) := by decide +kernel
theorem dX8_count_48 : decode cX8_count 48 = .ok (.getfield 96, 3) := by decide +kernel
theorem dX8_count_51 : decode cX8_count 51 = .ok (.ireturn, 1) := by decide +kernel
theorem dX8_count_52 : decode cX8_count 52 = .ok (.aload_n 0, 1) := by decide +kernel
theorem dX8_count_53 : decode cX8_count 53 = .ok (.getfield 26, 3) := by decide +kernel
theorem dX8_count_56 : decode cX8_count 56 = .ok (.getfield 118, 3) := by decide +kernel
theorem dX8_count_59 : decode cX8_count 59 = .ok (.ireturn, 1) := by decide +kernel
theorem dX8_count_60 : decode cX8_count 60 = .ok (.aload_n 0, 1) := by decide +kernel
theorem dX8_count_61 : decode cX8_count 61 = .ok (.getfield 26, 3) := by decide +kernel
theorem dX8_count_64 : decode cX8_count 64 = .ok (.getfield 122, 3) := by decide +kernel
theorem dX8_count_67 : decode cX8_count 67 = .ok (.invokestatic 207, 3) := by decide +kernel
theorem dX8_count_70 : decode cX8_count 70 = .ok (.ireturn, 1) := by decide +kernel
theorem dX8_count_71 : decode cX8_count 71 = .ok (.aload_n 0, 1) := by decide +kernel
theorem dX8_count_72 : decode cX8_count 72 = .ok (.getfield 42, 3) := by decide +kernel
theorem dX8_count_75 : decode cX8_count 75 = .ok (.aload_n 0, 1) := by decide +kernel
theorem dX8_count_76 : decode cX8_count 76 = .ok (.getfield 26, 3) := by decide +kernel
theorem dX8_count_79 : decode cX8_count 79 = .ok (.getfield 122, 3) := by decide +kernel
theorem dX8_count_82 : decode cX8_count 82 = .ok (.invokevirtual 194, 3) := by decide +kernel
theorem dX8_count_85 : decode cX8_count 85 = .ok (.invokestatic 212, 3) := by decide +kernel
theorem dX8_count_88 : decode cX8_count 88 = .ok (.ireturn, 1) := by decide +kernel
theorem dX8_count_89 : decode cX8_count 89 = .ok (.aload_n 0, 1) := by decide +kernel
theorem dX8_count_90 : decode cX8_count 90 = .ok (.getfield 33, 3) := by decide +kernel
theorem dX8_count_93 : decode cX8_count 93 = .ok (.getfield 150, 3) := by decide +kernel
theorem dX8_count_96 : decode cX8_count 96 = .ok (.ireturn, 1) := by decide +kernel
theorem dX8_count_97 : decode cX8_count 97 = .ok (.aload_n 0, 1) := by decide +kernel
theorem dX8_count_98 : decode cX8_count 98 = .ok (.getfield 19, 3) := by decide +kernel
theorem dX8_count_101 : decode cX8_count 101 = .ok (.getfield 146, 3) := by decide +kernel
theorem dX8_count_104 : decode cX8_count 104 = .ok (.ireturn, 1) := by decide +kernel
theorem dX8_count_105 : decode cX8_count 105 = .ok (.aload_n 0, 1) := by decide +kernel
theorem dX8_count_106 : decode cX8_count 106 = .ok (.getfield 42, 3) := by decide +kernel
theorem dX8_count_109 : decode cX8_count 109 = .ok (.invokevirtual 169, 3) := by decide +kernel
theorem dX8_count_112 : decode cX8_count 112 = .ok (.ireturn, 1) := by decide +kernel
theorem dX8_count_113 : decode cX8_count 113 = .ok (.iconst (-1), 1) := by decide +kernel
theorem dX8_count_114 : decode cX8_count 114 = .ok (.ireturn, 1) := by decide +kernel
set_option maxRecDepth 20000 in
theorem ggX8_choiceOrNone_X5_choiceOf : GoodIn wsX8_choiceOrNone wsX5_choiceOf := goodIn_r _ [6, 7, 16, 17, 18, 19, 20, 21] (by decide +kernel) (by decide +kernel)
set_option maxRecDepth 20000 in
theorem gX8_choiceOrNone_X5_choiceOf : GoodIn wsX8_choiceOrNone (wsV RX8 112 RX5 yX5_choiceOf wsX5_choiceOf) := goodIn_app (goodIn_of _ (by decide +kernel)) ggX8_choiceOrNone_X5_choiceOf
theorem dX8_choiceOrNone_0 : decode cX8_choiceOrNone 0 = .ok (.iload_n 2, 1) := by decide +kernel
theorem dX8_choiceOrNone_1 : decode cX8_choiceOrNone 1 = .ok (.iconst 5, 1) := by decide +kernel
theorem dX8_choiceOrNone_2 : decode cX8_choiceOrNone 2 = .ok (.if_icmp .lt 18, 3) := by decide +kernel
theorem dX8_choiceOrNone_5 : decode cX8_choiceOrNone 5 = .ok (.iload_n 2, 1) := by decide +kernel
theorem dX8_choiceOrNone_6 : decode cX8_choiceOrNone 6 = .ok (.iconst 5, 1) := by decide +kernel
theorem dX8_choiceOrNone_7 : decode cX8_choiceOrNone 7 = .ok (.isub, 1) := by decide +kernel
theorem dX8_choiceOrNone_8 : decode cX8_choiceOrNone 8 = .ok (.aload_n 0, 1) := by decide +kernel
theorem dX8_choiceOrNone_9 : decode cX8_choiceOrNone 9 = .ok (.getfield 19, 3) := by decide +kernel
theorem dX8_choiceOrNone_12 : decode cX8_choiceOrNone 12 = .ok (.getfield 108, 3) := by decide +kernel
theorem dX8_choiceOrNone_15 : decode cX8_choiceOrNone 15 = .ok (.iload_n 1, 1) := by decide +kernel
theorem dX8_choiceOrNone_16 : decode cX8_choiceOrNone 16 = .ok (.iaload, 1) := by decide +kernel
theorem dX8_choiceOrNone_17 : decode cX8_choiceOrNone 17 = .ok (.if_icmp .lt 5, 3) := by decide +kernel
theorem dX8_choiceOrNone_20 : decode cX8_choiceOrNone 20 = .ok (.iconst (-1), 1) := by decide +kernel
theorem dX8_choiceOrNone_21 : decode cX8_choiceOrNone 21 = .ok (.ireturn, 1) := by decide +kernel
theorem dX8_choiceOrNone_22 : decode cX8_choiceOrNone 22 = .ok (.aload_n 0, 1) := by decide +kernel
theorem dX8_choiceOrNone_23 : decode cX8_choiceOrNone 23 = .ok (.getfield 19, 3) := by decide +kernel
theorem dX8_choiceOrNone_26 : decode cX8_choiceOrNone 26 = .ok (.iload_n 1, 1) := by decide +kernel
theorem dX8_choiceOrNone_27 : decode cX8_choiceOrNone 27 = .ok (.iload_n 2, 1) := by decide +kernel
theorem dX8_choiceOrNone_28 : decode cX8_choiceOrNone 28 = .ok (.iconst 5, 1) := by decide +kernel
theorem dX8_choiceOrNone_29 : decode cX8_choiceOrNone 29 = .ok (.isub, 1) := by decide +kernel
theorem dX8_choiceOrNone_30 : decode cX8_choiceOrNone 30 = .ok (.invokevirtual 112, 3) := by decide +kernel
theorem dX8_choiceOrNone_33 : decode cX8_choiceOrNone 33 = .ok (.ireturn, 1) := by decide +kernel
theorem dX8_within_0 : decode cX8_within 0 = .ok (.iload_n 0, 1) := by decide +kernel
theorem dX8_within_1 : decode cX8_within 1 = .ok (.ifCond .lt 12, 3) := by decide +kernel
theorem dX8_within_4 : decode cX8_within 4 = .ok (.iload_n 0, 1) := by decide +kernel
theorem dX8_within_5 : decode cX8_within 5 = .ok (.iload_n 1, 1) := by decide +kernel
theorem dX8_within_6 : decode cX8_within 6 = .ok (.if_icmp .ge 7, 3) := by decide +kernel
theorem dX8_within_9 : decode cX8_within 9 = .ok (.iconst 1, 1) := by decide +kernel
theorem dX8_within_10 : decode cX8_within 10 = .ok (.goto 4, 3) := by decide +kernel
theorem dX8_within_13 : decode cX8_within 13 = .ok (.iconst 0, 1) := by decide +kernel
theorem dX8_within_14 : decode cX8_within 14 = .ok (.ireturn, 1) := by decide +kernel
set_option maxRecDepth 20000 in
theorem ggX8_isPair_X8_within : GoodIn wsX8_isPair wsX8_within := goodIn_r _ [4] (by decide +kernel) (by decide +kernel)
set_option maxRecDepth 20000 in
theorem gX8_isPair_X8_within : GoodIn wsX8_isPair (va_wsS RX8 77 yX8_within wsX8_within) := goodIn_app (goodIn_of _ (by decide +kernel)) ggX8_isPair_X8_within
theorem dX8_isPair_0 : decode cX8_isPair 0 = .ok (.iload_n 0, 1) := by decide +kernel
theorem dX8_isPair_1 : decode cX8_isPair 1 = .ok (.bipush 8, 2) := by decide +kernel
theorem dX8_isPair_3 : decode cX8_isPair 3 = .ok (.invokestatic 77, 3) := by decide +kernel
theorem dX8_isPair_6 : decode cX8_isPair 6 = .ok (.ifCond .eq 16, 3) := by decide +kernel
theorem dX8_isPair_9 : decode cX8_isPair 9 = .ok (.iload_n 1, 1) := by decide +kernel
theorem dX8_isPair_10 : decode cX8_isPair 10 = .ok (.bipush 8, 2) := by decide +kernel
theorem dX8_isPair_12 : decode cX8_isPair 12 = .ok (.invokestatic 77, 3) := by decide +kernel
theorem dX8_isPair_15 : decode cX8_isPair 15 = .ok (.ifCond .eq 7, 3) := by decide +kernel
theorem dX8_isPair_18 : decode cX8_isPair 18 = .ok (.iconst 1, 1) := by decide +kernel
theorem dX8_isPair_19 : decode cX8_isPair 19 = .ok (.goto 4, 3) := by decide +kernel
theorem dX8_isPair_22 : decode cX8_isPair 22 = .ok (.iconst 0, 1) := by decide +kernel
theorem dX8_isPair_23 : decode cX8_isPair 23 = .ok (.ireturn, 1) := by decide +kernel
theorem dX8_pairOf_0 : decode cX8_pairOf 0 = .ok (.iload_n 0, 1) := by decide +kernel
theorem dX8_pairOf_1 : decode cX8_pairOf 1 = .ok (.bipush 8, 2) := by decide +kernel
theorem dX8_pairOf_3 : decode cX8_pairOf 3 = .ok (.imul, 1) := by decide +kernel
theorem dX8_pairOf_4 : decode cX8_pairOf 4 = .ok (.iload_n 1, 1) := by decide +kernel
theorem dX8_pairOf_5 : decode cX8_pairOf 5 = .ok (.iadd, 1) := by decide +kernel
theorem dX8_pairOf_6 : decode cX8_pairOf 6 = .ok (.ireturn, 1) := by decide +kernel
theorem dX8_holds_0 : decode cX8_holds 0 = .ok (.lload_n 0, 1) := by decide +kernel
theorem dX8_holds_1 : decode cX8_holds 1 = .ok (.iload_n 2, 1) := by decide +kernel
theorem dX8_holds_2 : decode cX8_holds 2 = .ok (.lushr, 1) := by decide +kernel
theorem dX8_holds_3 : decode cX8_holds 3 = .ok (.lconst 1, 1) := by decide +kernel
theorem dX8_holds_4 : decode cX8_holds 4 = .ok (.land, 1) := by decide +kernel
theorem dX8_holds_5 : decode cX8_holds 5 = .ok (.lconst 0, 1) := by decide +kernel
theorem dX8_holds_6 : decode cX8_holds 6 = .ok (.lcmp, 1) := by decide +kernel
theorem dX8_holds_7 : decode cX8_holds 7 = .ok (.ifCond .eq 7, 3) := by decide +kernel
theorem dX8_holds_10 : decode cX8_holds 10 = .ok (.iconst 1, 1) := by decide +kernel
theorem dX8_holds_11 : decode cX8_holds 11 = .ok (.goto 4, 3) := by decide +kernel
theorem dX8_holds_14 : decode cX8_holds 14 = .ok (.iconst 0, 1) := by decide +kernel
theorem dX8_holds_15 : decode cX8_holds 15 = .ok (.ireturn, 1) := by decide +kernel
set_option maxRecDepth 20000 in
theorem ggX8_pairsOf_X8_pairOf : GoodIn wsX8_pairsOf wsX8_pairOf := goodIn_r _ [5] (by decide +kernel) (by decide +kernel)
set_option maxRecDepth 20000 in
theorem gX8_pairsOf_X8_pairOf : GoodIn wsX8_pairsOf (va_wsS RX8 80 yX8_pairOf wsX8_pairOf) := goodIn_app (goodIn_of _ (by decide +kernel)) ggX8_pairsOf_X8_pairOf
theorem dX8_pairsOf_0 : decode cX8_pairsOf 0 = .ok (.ldc2_w 216, 3) := by decide +kernel
theorem dX8_pairsOf_3 : decode cX8_pairsOf 3 = .ok (.iload_n 0, 1) := by decide +kernel
theorem dX8_pairsOf_4 : decode cX8_pairsOf 4 = .ok (.iconst 0, 1) := by decide +kernel
theorem dX8_pairsOf_5 : decode cX8_pairsOf 5 = .ok (.invokestatic 80, 3) := by decide +kernel
theorem dX8_pairsOf_8 : decode cX8_pairsOf 8 = .ok (.lshl, 1) := by decide +kernel
theorem dX8_pairsOf_9 : decode cX8_pairsOf 9 = .ok (.lreturn, 1) := by decide +kernel
set_option maxRecDepth 20000 in
theorem ggX8_isRowOfChoices_X8_within : GoodIn wsX8_isRowOfChoices wsX8_within := goodIn_r _ [4] (by decide +kernel) (by decide +kernel)
set_option maxRecDepth 20000 in
theorem gX8_isRowOfChoices_X8_within : GoodIn wsX8_isRowOfChoices (va_wsS RX8 77 yX8_within wsX8_within) := goodIn_app (goodIn_of _ (by decide +kernel)) ggX8_isRowOfChoices_X8_within
theorem dX8_isRowOfChoices_0 : decode cX8_isRowOfChoices 0 = .ok (.iload_n 0, 1) := by decide +kernel
theorem dX8_isRowOfChoices_1 : decode cX8_isRowOfChoices 1 = .ok (.bipush 8, 2) := by decide +kernel
theorem dX8_isRowOfChoices_3 : decode cX8_isRowOfChoices 3 = .ok (.invokestatic 77, 3) := by decide +kernel
theorem dX8_isRowOfChoices_6 : decode cX8_isRowOfChoices 6 = .ok (.ifCond .ne 5, 3) := by decide +kernel
theorem dX8_isRowOfChoices_9 : decode cX8_isRowOfChoices 9 = .ok (.iconst 0, 1) := by decide +kernel
theorem dX8_isRowOfChoices_10 : decode cX8_isRowOfChoices 10 = .ok (.ireturn, 1) := by decide +kernel
theorem dX8_isRowOfChoices_11 : decode cX8_isRowOfChoices 11 = .ok (.iload_n 1, 1) := by decide +kernel
theorem dX8_isRowOfChoices_12 : decode cX8_isRowOfChoices 12 = .ok (.iconst (-1), 1) := by decide +kernel
theorem dX8_isRowOfChoices_13 : decode cX8_isRowOfChoices 13 = .ok (.if_icmp .ne 14, 3) := by decide +kernel
theorem dX8_isRowOfChoices_16 : decode cX8_isRowOfChoices 16 = .ok (.iload_n 2, 1) := by decide +kernel
theorem dX8_isRowOfChoices_17 : decode cX8_isRowOfChoices 17 = .ok (.iconst (-1), 1) := by decide +kernel
theorem dX8_isRowOfChoices_18 : decode cX8_isRowOfChoices 18 = .ok (.if_icmp .ne 7, 3) := by decide +kernel
theorem dX8_isRowOfChoices_21 : decode cX8_isRowOfChoices 21 = .ok (.iconst 1, 1) := by decide +kernel
theorem dX8_isRowOfChoices_22 : decode cX8_isRowOfChoices 22 = .ok (.goto 4, 3) := by decide +kernel
theorem dX8_isRowOfChoices_25 : decode cX8_isRowOfChoices 25 = .ok (.iconst 0, 1) := by decide +kernel
theorem dX8_isRowOfChoices_26 : decode cX8_isRowOfChoices 26 = .ok (.ireturn, 1) := by decide +kernel
theorem dX8_isRowOfChoices_27 : decode cX8_isRowOfChoices 27 = .ok (.iload_n 1, 1) := by decide +kernel
theorem dX8_isRowOfChoices_28 : decode cX8_isRowOfChoices 28 = .ok (.bipush 8, 2) := by decide +kernel
theorem dX8_isRowOfChoices_30 : decode cX8_isRowOfChoices 30 = .ok (.invokestatic 77, 3) := by decide +kernel
theorem dX8_isRowOfChoices_33 : decode cX8_isRowOfChoices 33 = .ok (.ifCond .eq 8, 3) := by decide +kernel
theorem dX8_isRowOfChoices_36 : decode cX8_isRowOfChoices 36 = .ok (.iload_n 0, 1) := by decide +kernel
theorem dX8_isRowOfChoices_37 : decode cX8_isRowOfChoices 37 = .ok (.iload_n 1, 1) := by decide +kernel
theorem dX8_isRowOfChoices_38 : decode cX8_isRowOfChoices 38 = .ok (.if_icmp .ne 5, 3) := by decide +kernel
theorem dX8_isRowOfChoices_41 : decode cX8_isRowOfChoices 41 = .ok (.iconst 0, 1) := by decide +kernel
theorem dX8_isRowOfChoices_42 : decode cX8_isRowOfChoices 42 = .ok (.ireturn, 1) := by decide +kernel
theorem dX8_isRowOfChoices_43 : decode cX8_isRowOfChoices 43 = .ok (.iload_n 2, 1) := by decide +kernel
theorem dX8_isRowOfChoices_44 : decode cX8_isRowOfChoices 44 = .ok (.iconst (-1), 1) := by decide +kernel
theorem dX8_isRowOfChoices_45 : decode cX8_isRowOfChoices 45 = .ok (.if_icmp .eq 22, 3) := by decide +kernel
theorem dX8_isRowOfChoices_48 : decode cX8_isRowOfChoices 48 = .ok (.iload_n 2, 1) := by decide +kernel
theorem dX8_isRowOfChoices_49 : decode cX8_isRowOfChoices 49 = .ok (.bipush 8, 2) := by decide +kernel
theorem dX8_isRowOfChoices_51 : decode cX8_isRowOfChoices 51 = .ok (.invokestatic 77, 3) := by decide +kernel
theorem dX8_isRowOfChoices_54 : decode cX8_isRowOfChoices 54 = .ok (.ifCond .eq 17, 3) := by decide +kernel
theorem dX8_isRowOfChoices_57 : decode cX8_isRowOfChoices 57 = .ok (.iload_n 2, 1) := by decide +kernel
theorem dX8_isRowOfChoices_58 : decode cX8_isRowOfChoices 58 = .ok (.iload_n 0, 1) := by decide +kernel
theorem dX8_isRowOfChoices_59 : decode cX8_isRowOfChoices 59 = .ok (.if_icmp .eq 12, 3) := by decide +kernel
theorem dX8_isRowOfChoices_62 : decode cX8_isRowOfChoices 62 = .ok (.iload_n 2, 1) := by decide +kernel
theorem dX8_isRowOfChoices_63 : decode cX8_isRowOfChoices 63 = .ok (.iload_n 1, 1) := by decide +kernel
theorem dX8_isRowOfChoices_64 : decode cX8_isRowOfChoices 64 = .ok (.if_icmp .eq 7, 3) := by decide +kernel
theorem dX8_isRowOfChoices_67 : decode cX8_isRowOfChoices 67 = .ok (.iconst 1, 1) := by decide +kernel
theorem dX8_isRowOfChoices_68 : decode cX8_isRowOfChoices 68 = .ok (.goto 4, 3) := by decide +kernel
theorem dX8_isRowOfChoices_71 : decode cX8_isRowOfChoices 71 = .ok (.iconst 0, 1) := by decide +kernel
theorem dX8_isRowOfChoices_72 : decode cX8_isRowOfChoices 72 = .ok (.ireturn, 1) := by decide +kernel
set_option maxRecDepth 20000 in
theorem ggX8_memberAt_X8_holds : GoodIn wsX8_memberAt wsX8_holds := goodIn_r _ [4] (by decide +kernel) (by decide +kernel)
set_option maxRecDepth 20000 in
theorem gX8_memberAt_X8_holds : GoodIn wsX8_memberAt (va_wsS RX8 130 yX8_holds wsX8_holds) := goodIn_app (goodIn_of _ (by decide +kernel)) ggX8_memberAt_X8_holds
theorem dX8_memberAt_0 : decode cX8_memberAt 0 = .ok (.iconst 0, 1) := by decide +kernel
theorem dX8_memberAt_1 : decode cX8_memberAt 1 = .ok (.istore_n 2, 1) := by decide +kernel
theorem dX8_memberAt_2 : decode cX8_memberAt 2 = .ok (.iconst 0, 1) := by decide +kernel
theorem dX8_memberAt_3 : decode cX8_memberAt 3 = .ok (.istore_n 3, 1) := by decide +kernel
theorem dX8_memberAt_4 : decode cX8_memberAt 4 = .ok (.iload_n 3, 1) := by decide +kernel
theorem dX8_memberAt_5 : decode cX8_memberAt 5 = .ok (.bipush 24, 2) := by decide +kernel
theorem dX8_memberAt_7 : decode cX8_memberAt 7 = .ok (.if_icmp .ge 28, 3) := by decide +kernel
theorem dX8_memberAt_10 : decode cX8_memberAt 10 = .ok (.iload_n 0, 1) := by decide +kernel
theorem dX8_memberAt_11 : decode cX8_memberAt 11 = .ok (.i2l, 1) := by decide +kernel
theorem dX8_memberAt_12 : decode cX8_memberAt 12 = .ok (.iload_n 3, 1) := by decide +kernel
theorem dX8_memberAt_13 : decode cX8_memberAt 13 = .ok (.invokestatic 130, 3) := by decide +kernel
theorem dX8_memberAt_16 : decode cX8_memberAt 16 = .ok (.ifCond .eq 13, 3) := by decide +kernel
theorem dX8_memberAt_19 : decode cX8_memberAt 19 = .ok (.iload_n 2, 1) := by decide +kernel
theorem dX8_memberAt_20 : decode cX8_memberAt 20 = .ok (.iload_n 1, 1) := by decide +kernel
theorem dX8_memberAt_21 : decode cX8_memberAt 21 = .ok (.if_icmp .ne 5, 3) := by decide +kernel
theorem dX8_memberAt_24 : decode cX8_memberAt 24 = .ok (.iload_n 3, 1) := by decide +kernel
theorem dX8_memberAt_25 : decode cX8_memberAt 25 = .ok (.ireturn, 1) := by decide +kernel
theorem dX8_memberAt_26 : decode cX8_memberAt 26 = .ok (.iinc 2 1, 3) := by decide +kernel
theorem dX8_memberAt_29 : decode cX8_memberAt 29 = .ok (.iinc 3 1, 3) := by decide +kernel
theorem dX8_memberAt_32 : decode cX8_memberAt 32 = .ok (.goto (-28), 3) := by decide +kernel
theorem dX8_memberAt_35 : decode cX8_memberAt 35 = .ok (.iconst (-1), 1) := by decide +kernel
theorem dX8_memberAt_36 : decode cX8_memberAt 36 = .ok (.ireturn, 1) := by decide +kernel
theorem dX9_init_0 : decode cX9_init 0 = .ok (.aload_n 0, 1) := by decide +kernel
theorem dX9_init_1 : decode cX9_init 1 = .ok (.invokespecial 1, 3) := by decide +kernel
theorem dX9_init_4 : decode cX9_init 4 = .ok (.aload_n 0, 1) := by decide +kernel
theorem dX9_init_5 : decode cX9_init 5 = .ok (.bipush 32, 2) := by decide +kernel
theorem dX9_init_7 : decode cX9_init 7 = .ok (.newarray .int, 2) := by decide +kernel
theorem dX9_init_9 : decode cX9_init 9 = .ok (.putfield 7, 3) := by decide +kernel
theorem dX9_init_12 : decode cX9_init 12 = .ok (.aload_n 0, 1) := by decide +kernel
theorem dX9_init_13 : decode cX9_init 13 = .ok (.iconst 4, 1) := by decide +kernel
theorem dX9_init_14 : decode cX9_init 14 = .ok (.newarray .long, 2) := by decide +kernel
theorem dX9_init_16 : decode cX9_init 16 = .ok (.putfield 13, 3) := by decide +kernel
theorem dX9_init_19 : decode cX9_init 19 = .ok (.aload_n 0, 1) := by decide +kernel
theorem dX9_init_20 : decode cX9_init 20 = .ok (.bipush 8, 2) := by decide +kernel
theorem dX9_init_22 : decode cX9_init 22 = .ok (.newarray .int, 2) := by decide +kernel
theorem dX9_init_24 : decode cX9_init 24 = .ok (.putfield 17, 3) := by decide +kernel
theorem dX9_init_27 : decode cX9_init 27 = .ok (.aload_n 0, 1) := by decide +kernel
theorem dX9_init_28 : decode cX9_init 28 = .ok (.bipush 72, 2) := by decide +kernel
theorem dX9_init_30 : decode cX9_init 30 = .ok (.newarray .int, 2) := by decide +kernel
theorem dX9_init_32 : decode cX9_init 32 = .ok (.putfield 20, 3) := by decide +kernel
theorem dX9_init_35 : decode cX9_init 35 = .ok (.aload_n 0, 1) := by decide +kernel
theorem dX9_init_36 : decode cX9_init 36 = .ok (.bipush 24, 2) := by decide +kernel
theorem dX9_init_38 : decode cX9_init 38 = .ok (.newarray .int, 2) := by decide +kernel
theorem dX9_init_40 : decode cX9_init 40 = .ok (.putfield 23, 3) := by decide +kernel
theorem dX9_init_43 : decode cX9_init 43 = .ok (.aload_n 0, 1) := by decide +kernel
theorem dX9_init_44 : decode cX9_init 44 = .ok (.bipush 24, 2) := by decide +kernel
theorem dX9_init_46 : decode cX9_init 46 = .ok (.newarray .int, 2) := by decide +kernel
theorem dX9_init_48 : decode cX9_init 48 = .ok (.putfield 26, 3) := by decide +kernel
theorem dX9_init_51 : decode cX9_init 51 = .ok (.aload_n 0, 1) := by decide +kernel
theorem dX9_init_52 : decode cX9_init 52 = .ok (.bipush 24, 2) := by decide +kernel
theorem dX9_init_54 : decode cX9_init 54 = .ok (.newarray .long, 2) := by decide +kernel
theorem dX9_init_56 : decode cX9_init 56 = .ok (.putfield 29, 3) := by decide +kernel
theorem dX9_init_59 : decode cX9_init 59 = .ok (.aload_n 0, 1) := by decide +kernel
theorem dX9_init_60 : decode cX9_init 60 = .ok (.bipush 40, 2) := by decide +kernel
theorem dX9_init_62 : decode cX9_init 62 = .ok (.newarray .int, 2) := by decide +kernel
theorem dX9_init_64 : decode cX9_init 64 = .ok (.putfield 32, 3) := by decide +kernel
theorem dX9_init_67 : decode cX9_init 67 = .ok (.aload_n 0, 1) := by decide +kernel
theorem dX9_init_68 : decode cX9_init 68 = .ok (.bipush 40, 2) := by decide +kernel
theorem dX9_init_70 : decode cX9_init 70 = .ok (.newarray .int, 2) := by decide +kernel
theorem dX9_init_72 : decode cX9_init 72 = .ok (.putfield 35, 3) := by decide +kernel
theorem dX9_init_75 : decode cX9_init 75 = .ok (.aload_n 0, 1) := by decide +kernel
theorem dX9_init_76 : decode cX9_init 76 = .ok (.bipush 40, 2) := by decide +kernel
theorem dX9_init_78 : decode cX9_init 78 = .ok (.newarray .int, 2) := by decide +kernel
theorem dX9_init_80 : decode cX9_init 80 = .ok (.putfield 38, 3) := by decide +kernel
theorem dX9_init_83 : decode cX9_init 83 = .ok (.aload_n 0, 1) := by decide +kernel
theorem dX9_init_84 : decode cX9_init 84 = .ok (.bipush 40, 2) := by decide +kernel
theorem dX9_init_86 : decode cX9_init 86 = .ok (.newarray .boolean, 2) := by decide +kernel
theorem dX9_init_88 : decode cX9_init 88 = .ok (.putfield 41, 3) := by decide +kernel
theorem dX9_init_91 : decode cX9_init 91 = .ok (.aload_n 0, 1) := by decide +kernel
theorem dX9_init_92 : decode cX9_init 92 = .ok (.bipush 10, 2) := by decide +kernel
theorem dX9_init_94 : decode cX9_init 94 = .ok (.newarray .int, 2) := by decide +kernel
theorem dX9_init_96 : decode cX9_init 96 = .ok (.putfield 45, 3) := by decide +kernel
theorem dX9_init_99 : decode cX9_init 99 = .ok (.aload_n 0, 1) := by decide +kernel
theorem dX9_init_100 : decode cX9_init 100 = .ok (.bipush 10, 2) := by decide +kernel
theorem dX9_init_102 : decode cX9_init 102 = .ok (.newarray .int, 2) := by decide +kernel
theorem dX9_init_104 : decode cX9_init 104 = .ok (.putfield 48, 3) := by decide +kernel
theorem dX9_init_107 : decode cX9_init 107 = .ok (.aload_n 0, 1) := by decide +kernel
theorem dX9_init_108 : decode cX9_init 108 = .ok (.bipush 10, 2) := by decide +kernel
theorem dX9_init_110 : decode cX9_init 110 = .ok (.newarray .int, 2) := by decide +kernel
theorem dX9_init_112 : decode cX9_init 112 = .ok (.putfield 51, 3) := by decide +kernel
theorem dX9_init_115 : decode cX9_init 115 = .ok (.aload_n 0, 1) := by decide +kernel
theorem dX9_init_116 : decode cX9_init 116 = .ok (.bipush 10, 2) := by decide +kernel
theorem dX9_init_118 : decode cX9_init 118 = .ok (.newarray .int, 2) := by decide +kernel
theorem dX9_init_120 : decode cX9_init 120 = .ok (.putfield 54, 3) := by decide +kernel
theorem dX9_init_123 : decode cX9_init 123 = .ok (.aload_n 0, 1) := by decide +kernel
theorem dX9_init_124 : decode cX9_init 124 = .ok (.bipush 24, 2) := by decide +kernel
theorem dX9_init_126 : decode cX9_init 126 = .ok (.newarray .boolean, 2) := by decide +kernel
theorem dX9_init_128 : decode cX9_init 128 = .ok (.putfield 57, 3) := by decide +kernel
theorem dX9_init_131 : decode cX9_init 131 = .ok (.aload_n 0, 1) := by decide +kernel
theorem dX9_init_132 : decode cX9_init 132 = .ok (.bipush 40, 2) := by decide +kernel
theorem dX9_init_134 : decode cX9_init 134 = .ok (.newarray .boolean, 2) := by decide +kernel
theorem dX9_init_136 : decode cX9_init 136 = .ok (.putfield 60, 3) := by decide +kernel
theorem dX9_init_139 : decode cX9_init 139 = .ok (.aload_n 0, 1) := by decide +kernel
theorem dX9_init_140 : decode cX9_init 140 = .ok (.bipush 24, 2) := by decide +kernel
theorem dX9_init_142 : decode cX9_init 142 = .ok (.newarray .int, 2) := by decide +kernel
theorem dX9_init_144 : decode cX9_init 144 = .ok (.putfield 63, 3) := by decide +kernel
theorem dX9_init_147 : decode cX9_init 147 = .ok (.aload_n 0, 1) := by decide +kernel
theorem dX9_init_148 : decode cX9_init 148 = .ok (.bipush 24, 2) := by decide +kernel
theorem dX9_init_150 : decode cX9_init 150 = .ok (.newarray .long, 2) := by decide +kernel
theorem dX9_init_152 : decode cX9_init 152 = .ok (.putfield 66, 3) := by decide +kernel
theorem dX9_init_155 : decode cX9_init 155 = .ok (.aload_n 0, 1) := by decide +kernel
theorem dX9_init_156 : decode cX9_init 156 = .ok (.bipush 40, 2) := by decide +kernel
theorem dX9_init_158 : decode cX9_init 158 = .ok (.newarray .int, 2) := by decide +kernel
theorem dX9_init_160 : decode cX9_init 160 = .ok (.putfield 69, 3) := by decide +kernel
theorem dX9_init_163 : decode cX9_init 163 = .ok (.aload_n 0, 1) := by decide +kernel
theorem dX9_init_164 : decode cX9_init 164 = .ok (.bipush 24, 2) := by decide +kernel
theorem dX9_init_166 : decode cX9_init 166 = .ok (.newarray .int, 2) := by decide +kernel
theorem dX9_init_168 : decode cX9_init 168 = .ok (.putfield 72, 3) := by decide +kernel
theorem dX9_init_171 : decode cX9_init 171 = .ok (.aload_n 0, 1) := by decide +kernel
theorem dX9_init_172 : decode cX9_init 172 = .ok (.bipush 24, 2) := by decide +kernel
theorem dX9_init_174 : decode cX9_init 174 = .ok (.newarray .int, 2) := by decide +kernel
theorem dX9_init_176 : decode cX9_init 176 = .ok (.putfield 75, 3) := by decide +kernel
theorem dX9_init_179 : decode cX9_init 179 = .ok (.aload_n 0, 1) := by decide +kernel
theorem dX9_init_180 : decode cX9_init 180 = .ok (.bipush 24, 2) := by decide +kernel
theorem dX9_init_182 : decode cX9_init 182 = .ok (.newarray .int, 2) := by decide +kernel
theorem dX9_init_184 : decode cX9_init 184 = .ok (.putfield 78, 3) := by decide +kernel
theorem dX9_init_187 : decode cX9_init 187 = .ok (.aload_n 0, 1) := by decide +kernel
theorem dX9_init_188 : decode cX9_init 188 = .ok (.bipush 24, 2) := by decide +kernel
theorem dX9_init_190 : decode cX9_init 190 = .ok (.newarray .int, 2) := by decide +kernel
theorem dX9_init_192 : decode cX9_init 192 = .ok (.putfield 81, 3) := by decide +kernel
theorem dX9_init_195 : decode cX9_init 195 = .ok (.aload_n 0, 1) := by decide +kernel
theorem dX9_init_196 : decode cX9_init 196 = .ok (.bipush 24, 2) := by decide +kernel
theorem dX9_init_198 : decode cX9_init 198 = .ok (.newarray .long, 2) := by decide +kernel
theorem dX9_init_200 : decode cX9_init 200 = .ok (.putfield 84, 3) := by decide +kernel
theorem dX9_init_203 : decode cX9_init 203 = .ok (.return_, 1) := by decide +kernel
theorem dX9_lies_0 : decode cX9_lies 0 = .ok (.iload_n 0, 1) := by decide +kernel
theorem dX9_lies_1 : decode cX9_lies 1 = .ok (.iload_n 1, 1) := by decide +kernel
theorem dX9_lies_2 : decode cX9_lies 2 = .ok (.if_icmp .lt 12, 3) := by decide +kernel
theorem dX9_lies_5 : decode cX9_lies 5 = .ok (.iload_n 0, 1) := by decide +kernel
theorem dX9_lies_6 : decode cX9_lies 6 = .ok (.iload_n 2, 1) := by decide +kernel
theorem dX9_lies_7 : decode cX9_lies 7 = .ok (.if_icmp .gt 7, 3) := by decide +kernel
theorem dX9_lies_10 : decode cX9_lies 10 = .ok (.iconst 1, 1) := by decide +kernel
theorem dX9_lies_11 : decode cX9_lies 11 = .ok (.goto 4, 3) := by decide +kernel
theorem dX9_lies_14 : decode cX9_lies 14 = .ok (.iconst 0, 1) := by decide +kernel
theorem dX9_lies_15 : decode cX9_lies 15 = .ok (.ireturn, 1) := by decide +kernel
set_option maxRecDepth 20000 in
theorem ggX9_isPart_X9_lies : GoodIn wsX9_isPart wsX9_lies := goodIn_r _ [5] (by decide +kernel) (by decide +kernel)
set_option maxRecDepth 20000 in
theorem gX9_isPart_X9_lies : GoodIn wsX9_isPart (va_wsS RX9 91 yX9_lies wsX9_lies) := goodIn_app (goodIn_of _ (by decide +kernel)) ggX9_isPart_X9_lies
theorem dX9_isPart_0 : decode cX9_isPart 0 = .ok (.iload_n 1, 1) := by decide +kernel
theorem dX9_isPart_1 : decode cX9_isPart 1 = .ok (.iconst 0, 1) := by decide +kernel
theorem dX9_isPart_2 : decode cX9_isPart 2 = .ok (.aload_n 0, 1) := by decide +kernel
theorem dX9_isPart_3 : decode cX9_isPart 3 = .ok (.getfield 87, 3) := by decide +kernel
theorem dX9_isPart_6 : decode cX9_isPart 6 = .ok (.iconst 1, 1) := by decide +kernel
theorem dX9_isPart_7 : decode cX9_isPart 7 = .ok (.isub, 1) := by decide +kernel
theorem dX9_isPart_8 : decode cX9_isPart 8 = .ok (.invokestatic 91, 3) := by decide +kernel
theorem dX9_isPart_11 : decode cX9_isPart 11 = .ok (.ireturn, 1) := by decide +kernel
set_option maxRecDepth 20000 in
theorem ggX9_isLicence_X9_lies : GoodIn wsX9_isLicence wsX9_lies := goodIn_r _ [4] (by decide +kernel) (by decide +kernel)
set_option maxRecDepth 20000 in
theorem gX9_isLicence_X9_lies : GoodIn wsX9_isLicence (va_wsS RX9 91 yX9_lies wsX9_lies) := goodIn_app (goodIn_of _ (by decide +kernel)) ggX9_isLicence_X9_lies
theorem dX9_isLicence_0 : decode cX9_isLicence 0 = .ok (.iload_n 0, 1) := by decide +kernel
theorem dX9_isLicence_1 : decode cX9_isLicence 1 = .ok (.iconst 0, 1) := by decide +kernel
theorem dX9_isLicence_2 : decode cX9_isLicence 2 = .ok (.bipush 7, 2) := by decide +kernel
theorem dX9_isLicence_4 : decode cX9_isLicence 4 = .ok (.invokestatic 91, 3) := by decide +kernel
theorem dX9_isLicence_7 : decode cX9_isLicence 7 = .ok (.ireturn, 1) := by decide +kernel
set_option maxRecDepth 20000 in
theorem ggX9_isShipping_X9_lies : GoodIn wsX9_isShipping wsX9_lies := goodIn_r _ [4] (by decide +kernel) (by decide +kernel)
set_option maxRecDepth 20000 in
theorem gX9_isShipping_X9_lies : GoodIn wsX9_isShipping (va_wsS RX9 91 yX9_lies wsX9_lies) := goodIn_app (goodIn_of _ (by decide +kernel)) ggX9_isShipping_X9_lies
theorem dX9_isShipping_0 : decode cX9_isShipping 0 = .ok (.iload_n 0, 1) := by decide +kernel
theorem dX9_isShipping_1 : decode cX9_isShipping 1 = .ok (.iconst 0, 1) := by decide +kernel
theorem dX9_isShipping_2 : decode cX9_isShipping 2 = .ok (.iconst 3, 1) := by decide +kernel
theorem dX9_isShipping_3 : decode cX9_isShipping 3 = .ok (.invokestatic 91, 3) := by decide +kernel
theorem dX9_isShipping_6 : decode cX9_isShipping 6 = .ok (.ireturn, 1) := by decide +kernel
theorem dX9_bit_0 : decode cX9_bit 0 = .ok (.lconst 1, 1) := by decide +kernel
theorem dX9_bit_1 : decode cX9_bit 1 = .ok (.bipush 8, 2) := by decide +kernel
theorem dX9_bit_3 : decode cX9_bit 3 = .ok (.iload_n 0, 1) := by decide +kernel
theorem dX9_bit_4 : decode cX9_bit 4 = .ok (.imul, 1) := by decide +kernel
theorem dX9_bit_5 : decode cX9_bit 5 = .ok (.iload_n 1, 1) := by decide +kernel
theorem dX9_bit_6 : decode cX9_bit 6 = .ok (.iadd, 1) := by decide +kernel
theorem dX9_bit_7 : decode cX9_bit 7 = .ok (.lshl, 1) := by decide +kernel
theorem dX9_bit_8 : decode cX9_bit 8 = .ok (.lreturn, 1) := by decide +kernel
set_option maxRecDepth 20000 in
theorem ggX9_asks_X9_isLicence : GoodIn wsX9_asks wsX9_isLicence := goodIn_r _ [7, 8, 9, 6, 10] (by decide +kernel) (by decide +kernel)
set_option maxRecDepth 20000 in
theorem gX9_asks_X9_isLicence : GoodIn wsX9_asks (va_wsS RX9 95 yX9_isLicence wsX9_isLicence) := goodIn_app (goodIn_of _ (by decide +kernel)) ggX9_asks_X9_isLicence
set_option maxRecDepth 20000 in
theorem ggX9_asks_X9_lies : GoodIn wsX9_asks wsX9_lies := goodIn_r _ [10] (by decide +kernel) (by decide +kernel)
set_option maxRecDepth 20000 in
theorem gX9_asks_X9_lies : GoodIn wsX9_asks (va_wsS RX9 91 yX9_lies wsX9_lies) := goodIn_app (goodIn_of _ (by decide +kernel)) ggX9_asks_X9_lies
set_option maxRecDepth 20000 in
theorem ggX9_asks_X9_bit : GoodIn wsX9_asks wsX9_bit := goodIn_r _ [13] (by decide +kernel) (by decide +kernel)
set_option maxRecDepth 20000 in
theorem gX9_asks_X9_bit : GoodIn wsX9_asks (va_wsS RX9 99 yX9_bit wsX9_bit) := goodIn_app (goodIn_of _ (by decide +kernel)) ggX9_asks_X9_bit
theorem dX9_asks_0 : decode cX9_asks 0 = .ok (.iload_n 1, 1) := by decide +kernel
theorem dX9_asks_1 : decode cX9_asks 1 = .ok (.invokestatic 95, 3) := by decide +kernel
theorem dX9_asks_4 : decode cX9_asks 4 = .ok (.ifCond .eq 34, 3) := by decide +kernel
theorem dX9_asks_7 : decode cX9_asks 7 = .ok (.iload_n 2, 1) := by decide +kernel
theorem dX9_asks_8 : decode cX9_asks 8 = .ok (.iconst 0, 1) := by decide +kernel
theorem dX9_asks_9 : decode cX9_asks 9 = .ok (.bipush 7, 2) := by decide +kernel
theorem dX9_asks_11 : decode cX9_asks 11 = .ok (.invokestatic 91, 3) := by decide +kernel
theorem dX9_asks_14 : decode cX9_asks 14 = .ok (.ifCond .eq 24, 3) := by decide +kernel
theorem dX9_asks_17 : decode cX9_asks 17 = .ok (.iload_n 3, 1) := by decide +kernel
theorem dX9_asks_18 : decode cX9_asks 18 = .ok (.iconst 0, 1) := by decide +kernel
theorem dX9_asks_19 : decode cX9_asks 19 = .ok (.bipush 15, 2) := by decide +kernel
theorem dX9_asks_21 : decode cX9_asks 21 = .ok (.invokestatic 91, 3) := by decide +kernel
theorem dX9_asks_24 : decode cX9_asks 24 = .ok (.ifCond .eq 14, 3) := by decide +kernel
theorem dX9_asks_27 : decode cX9_asks 27 = .ok (.iload 4, 2) := by decide +kernel
theorem dX9_asks_29 : decode cX9_asks 29 = .ok (.iconst 0, 1) := by decide +kernel
theorem dX9_asks_30 : decode cX9_asks 30 = .ok (.bipush 15, 2) := by decide +kernel
theorem dX9_asks_32 : decode cX9_asks 32 = .ok (.invokestatic 91, 3) := by decide +kernel
theorem dX9_asks_35 : decode cX9_asks 35 = .ok (.ifCond .ne 5, 3) := by decide +kernel
theorem dX9_asks_38 : decode cX9_asks 38 = .ok (.iconst 0, 1) := by decide +kernel
theorem dX9_asks_39 : decode cX9_asks 39 = .ok (.ireturn, 1) := by decide +kernel
theorem dX9_asks_40 : decode cX9_asks 40 = .ok (.iconst 0, 1) := by decide +kernel
theorem dX9_asks_41 : decode cX9_asks 41 = .ok (.istore 5, 2) := by decide +kernel
theorem dX9_asks_43 : decode cX9_asks 43 = .ok (.iload 5, 2) := by decide +kernel
theorem dX9_asks_45 : decode cX9_asks 45 = .ok (.iconst 4, 1) := by decide +kernel
theorem dX9_asks_46 : decode cX9_asks 46 = .ok (.if_icmp .ge 100, 3) := by decide +kernel
theorem dX9_asks_49 : decode cX9_asks 49 = .ok (.aload_n 0, 1) := by decide +kernel
theorem dX9_asks_50 : decode cX9_asks 50 = .ok (.getfield 7, 3) := by decide +kernel
theorem dX9_asks_53 : decode cX9_asks 53 = .ok (.iconst 4, 1) := by decide +kernel
theorem dX9_asks_54 : decode cX9_asks 54 = .ok (.iload_n 1, 1) := by decide +kernel
theorem dX9_asks_55 : decode cX9_asks 55 = .ok (.imul, 1) := by decide +kernel
theorem dX9_asks_56 : decode cX9_asks 56 = .ok (.iload 5, 2) := by decide +kernel
theorem dX9_asks_58 : decode cX9_asks 58 = .ok (.iadd, 1) := by decide +kernel
theorem dX9_asks_59 : decode cX9_asks 59 = .ok (.dup2, 1) := by decide +kernel
theorem dX9_asks_60 : decode cX9_asks 60 = .ok (.iaload, 1) := by decide +kernel
theorem dX9_asks_61 : decode cX9_asks 61 = .ok (.iconst 1, 1) := by decide +kernel
theorem dX9_asks_62 : decode cX9_asks 62 = .ok (.iload_n 2, 1) := by decide +kernel
theorem dX9_asks_63 : decode cX9_asks 63 = .ok (.ishl, 1) := by decide +kernel
theorem dX9_asks_64 : decode cX9_asks 64 = .ok (.iconst (-1), 1) := by decide +kernel
theorem dX9_asks_65 : decode cX9_asks 65 = .ok (.ixor, 1) := by decide +kernel
theorem dX9_asks_66 : decode cX9_asks 66 = .ok (.iand, 1) := by decide +kernel
theorem dX9_asks_67 : decode cX9_asks 67 = .ok (.iastore, 1) := by decide +kernel
theorem dX9_asks_68 : decode cX9_asks 68 = .ok (.iload_n 3, 1) := by decide +kernel
theorem dX9_asks_69 : decode cX9_asks 69 = .ok (.iload 5, 2) := by decide +kernel
theorem dX9_asks_71 : decode cX9_asks 71 = .ok (.ishr, 1) := by decide +kernel
theorem dX9_asks_72 : decode cX9_asks 72 = .ok (.iconst 1, 1) := by decide +kernel
theorem dX9_asks_73 : decode cX9_asks 73 = .ok (.iand, 1) := by decide +kernel
theorem dX9_asks_74 : decode cX9_asks 74 = .ok (.iconst 1, 1) := by decide +kernel
theorem dX9_asks_75 : decode cX9_asks 75 = .ok (.if_icmp .ne 20, 3) := by decide +kernel
theorem dX9_asks_78 : decode cX9_asks 78 = .ok (.aload_n 0, 1) := by decide +kernel
theorem dX9_asks_79 : decode cX9_asks 79 = .ok (.getfield 7, 3) := by decide +kernel
theorem dX9_asks_82 : decode cX9_asks 82 = .ok (.iconst 4, 1) := by decide +kernel
theorem dX9_asks_83 : decode cX9_asks 83 = .ok (.iload_n 1, 1) := by decide +kernel
theorem dX9_asks_84 : decode cX9_asks 84 = .ok (.imul, 1) := by decide +kernel
theorem dX9_asks_85 : decode cX9_asks 85 = .ok (.iload 5, 2) := by decide +kernel
theorem dX9_asks_87 : decode cX9_asks 87 = .ok (.iadd, 1) := by decide +kernel
theorem dX9_asks_88 : decode cX9_asks 88 = .ok (.dup2, 1) := by decide +kernel
theorem dX9_asks_89 : decode cX9_asks 89 = .ok (.iaload, 1) := by decide +kernel
theorem dX9_asks_90 : decode cX9_asks 90 = .ok (.iconst 1, 1) := by decide +kernel
theorem dX9_asks_91 : decode cX9_asks 91 = .ok (.iload_n 2, 1) := by decide +kernel
theorem dX9_asks_92 : decode cX9_asks 92 = .ok (.ishl, 1) := by decide +kernel
theorem dX9_asks_93 : decode cX9_asks 93 = .ok (.ior, 1) := by decide +kernel
theorem dX9_asks_94 : decode cX9_asks 94 = .ok (.iastore, 1) := by decide +kernel
theorem dX9_asks_95 : decode cX9_asks 95 = .ok (.aload_n 0, 1) := by decide +kernel
theorem dX9_asks_96 : decode cX9_asks 96 = .ok (.getfield 13, 3) := by decide +kernel
theorem dX9_asks_99 : decode cX9_asks 99 = .ok (.iload 5, 2) := by decide +kernel
theorem dX9_asks_101 : decode cX9_asks 101 = .ok (.dup2, 1) := by decide +kernel
theorem dX9_asks_102 : decode cX9_asks 102 = .ok (.laload, 1) := by decide +kernel
theorem dX9_asks_103 : decode cX9_asks 103 = .ok (.iload_n 1, 1) := by decide +kernel
theorem dX9_asks_104 : decode cX9_asks 104 = .ok (.iload_n 2, 1) := by decide +kernel
theorem dX9_asks_105 : decode cX9_asks 105 = .ok (.invokestatic 99, 3) := by decide +kernel
theorem dX9_asks_108 : decode cX9_asks 108 = .ok (.ldc2_w 103, 3) := by decide +kernel
theorem dX9_asks_111 : decode cX9_asks 111 = .ok (.lxor, 1) := by decide +kernel
theorem dX9_asks_112 : decode cX9_asks 112 = .ok (.land, 1) := by decide +kernel
theorem dX9_asks_113 : decode cX9_asks 113 = .ok (.lastore, 1) := by decide +kernel
theorem dX9_asks_114 : decode cX9_asks 114 = .ok (.iload 4, 2) := by decide +kernel
theorem dX9_asks_116 : decode cX9_asks 116 = .ok (.iload 5, 2) := by decide +kernel
theorem dX9_asks_118 : decode cX9_asks 118 = .ok (.ishr, 1) := by decide +kernel
theorem dX9_asks_119 : decode cX9_asks 119 = .ok (.iconst 1, 1) := by decide +kernel
theorem dX9_asks_120 : decode cX9_asks 120 = .ok (.iand, 1) := by decide +kernel
theorem dX9_asks_121 : decode cX9_asks 121 = .ok (.iconst 1, 1) := by decide +kernel
theorem dX9_asks_122 : decode cX9_asks 122 = .ok (.if_icmp .ne 18, 3) := by decide +kernel
theorem dX9_asks_125 : decode cX9_asks 125 = .ok (.aload_n 0, 1) := by decide +kernel
theorem dX9_asks_126 : decode cX9_asks 126 = .ok (.getfield 13, 3) := by decide +kernel
theorem dX9_asks_129 : decode cX9_asks 129 = .ok (.iload 5, 2) := by decide +kernel
theorem dX9_asks_131 : decode cX9_asks 131 = .ok (.dup2, 1) := by decide +kernel
theorem dX9_asks_132 : decode cX9_asks 132 = .ok (.laload, 1) := by decide +kernel
theorem dX9_asks_133 : decode cX9_asks 133 = .ok (.iload_n 1, 1) := by decide +kernel
theorem dX9_asks_134 : decode cX9_asks 134 = .ok (.iload_n 2, 1) := by decide +kernel
theorem dX9_asks_135 : decode cX9_asks 135 = .ok (.invokestatic 99, 3) := by decide +kernel
theorem dX9_asks_138 : decode cX9_asks 138 = .ok (.lor, 1) := by decide +kernel
theorem dX9_asks_139 : decode cX9_asks 139 = .ok (.lastore, 1) := by decide +kernel
theorem dX9_asks_140 : decode cX9_asks 140 = .ok (.iinc 5 1, 3) := by decide +kernel
theorem dX9_asks_143 : decode cX9_asks 143 = .ok (.goto (-100), 3) := by decide +kernel
theorem dX9_asks_146 : decode cX9_asks 146 = .ok (.iconst 1, 1) := by decide +kernel
theorem dX9_asks_147 : decode cX9_asks 147 = .ok (.ireturn, 1) := by decide +kernel
set_option maxRecDepth 20000 in
theorem ggX9_bars_X9_isLicence : GoodIn wsX9_bars wsX9_isLicence := goodIn_r _ [5, 6, 7, 4, 8] (by decide +kernel) (by decide +kernel)
set_option maxRecDepth 20000 in
theorem gX9_bars_X9_isLicence : GoodIn wsX9_bars (va_wsS RX9 95 yX9_isLicence wsX9_isLicence) := goodIn_app (goodIn_of _ (by decide +kernel)) ggX9_bars_X9_isLicence
set_option maxRecDepth 20000 in
theorem ggX9_bars_X9_lies : GoodIn wsX9_bars wsX9_lies := goodIn_r _ [8] (by decide +kernel) (by decide +kernel)
set_option maxRecDepth 20000 in
theorem gX9_bars_X9_lies : GoodIn wsX9_bars (va_wsS RX9 91 yX9_lies wsX9_lies) := goodIn_app (goodIn_of _ (by decide +kernel)) ggX9_bars_X9_lies
theorem dX9_bars_0 : decode cX9_bars 0 = .ok (.iload_n 1, 1) := by decide +kernel
theorem dX9_bars_1 : decode cX9_bars 1 = .ok (.invokestatic 95, 3) := by decide +kernel
theorem dX9_bars_4 : decode cX9_bars 4 = .ok (.ifCond .eq 14, 3) := by decide +kernel
theorem dX9_bars_7 : decode cX9_bars 7 = .ok (.iload_n 2, 1) := by decide +kernel
theorem dX9_bars_8 : decode cX9_bars 8 = .ok (.iconst 0, 1) := by decide +kernel
theorem dX9_bars_9 : decode cX9_bars 9 = .ok (.sipush 255, 3) := by decide +kernel
theorem dX9_bars_12 : decode cX9_bars 12 = .ok (.invokestatic 91, 3) := by decide +kernel
theorem dX9_bars_15 : decode cX9_bars 15 = .ok (.ifCond .ne 5, 3) := by decide +kernel
theorem dX9_bars_18 : decode cX9_bars 18 = .ok (.iconst 0, 1) := by decide +kernel
theorem dX9_bars_19 : decode cX9_bars 19 = .ok (.ireturn, 1) := by decide +kernel
theorem dX9_bars_20 : decode cX9_bars 20 = .ok (.aload_n 0, 1) := by decide +kernel
theorem dX9_bars_21 : decode cX9_bars 21 = .ok (.getfield 17, 3) := by decide +kernel
theorem dX9_bars_24 : decode cX9_bars 24 = .ok (.iload_n 1, 1) := by decide +kernel
theorem dX9_bars_25 : decode cX9_bars 25 = .ok (.iload_n 2, 1) := by decide +kernel
theorem dX9_bars_26 : decode cX9_bars 26 = .ok (.iastore, 1) := by decide +kernel
theorem dX9_bars_27 : decode cX9_bars 27 = .ok (.iconst 1, 1) := by decide +kernel
theorem dX9_bars_28 : decode cX9_bars 28 = .ok (.ireturn, 1) := by decide +kernel
set_option maxRecDepth 20000 in
theorem ggX9_part_X9_isLicence : GoodIn wsX9_part wsX9_isLicence := goodIn_r _ [7, 8, 9, 6, 10] (by decide +kernel) (by decide +kernel)
set_option maxRecDepth 20000 in
theorem gX9_part_X9_isLicence : GoodIn wsX9_part (va_wsS RX9 95 yX9_isLicence wsX9_isLicence) := goodIn_app (goodIn_of _ (by decide +kernel)) ggX9_part_X9_isLicence
theorem dX9_part_0 : decode cX9_part 0 = .ok (.aload_n 0, 1) := by decide +kernel
theorem dX9_part_1 : decode cX9_part 1 = .ok (.getfield 87, 3) := by decide +kernel
theorem dX9_part_4 : decode cX9_part 4 = .ok (.bipush 24, 2) := by decide +kernel
theorem dX9_part_6 : decode cX9_part 6 = .ok (.if_icmp .eq 20, 3) := by decide +kernel
theorem dX9_part_9 : decode cX9_part 9 = .ok (.iload_n 1, 1) := by decide +kernel
theorem dX9_part_10 : decode cX9_part 10 = .ok (.invokestatic 95, 3) := by decide +kernel
theorem dX9_part_13 : decode cX9_part 13 = .ok (.ifCond .eq 13, 3) := by decide +kernel
theorem dX9_part_16 : decode cX9_part 16 = .ok (.iload_n 2, 1) := by decide +kernel
theorem dX9_part_17 : decode cX9_part 17 = .ok (.iconst (-1), 1) := by decide +kernel
theorem dX9_part_18 : decode cX9_part 18 = .ok (.if_icmp .ne 10, 3) := by decide +kernel
theorem dX9_part_21 : decode cX9_part 21 = .ok (.iload_n 3, 1) := by decide +kernel
theorem dX9_part_22 : decode cX9_part 22 = .ok (.iconst (-1), 1) := by decide +kernel
theorem dX9_part_23 : decode cX9_part 23 = .ok (.if_icmp .eq 5, 3) := by decide +kernel
theorem dX9_part_26 : decode cX9_part 26 = .ok (.iconst (-1), 1) := by decide +kernel
theorem dX9_part_27 : decode cX9_part 27 = .ok (.ireturn, 1) := by decide +kernel
theorem dX9_part_28 : decode cX9_part 28 = .ok (.iload_n 2, 1) := by decide +kernel
theorem dX9_part_29 : decode cX9_part 29 = .ok (.iconst (-1), 1) := by decide +kernel
theorem dX9_part_30 : decode cX9_part 30 = .ok (.if_icmp .eq 15, 3) := by decide +kernel
theorem dX9_part_33 : decode cX9_part 33 = .ok (.iload_n 2, 1) := by decide +kernel
theorem dX9_part_34 : decode cX9_part 34 = .ok (.invokestatic 95, 3) := by decide +kernel
theorem dX9_part_37 : decode cX9_part 37 = .ok (.ifCond .eq 30, 3) := by decide +kernel
theorem dX9_part_40 : decode cX9_part 40 = .ok (.iload_n 2, 1) := by decide +kernel
theorem dX9_part_41 : decode cX9_part 41 = .ok (.iload_n 1, 1) := by decide +kernel
theorem dX9_part_42 : decode cX9_part 42 = .ok (.if_icmp .eq 25, 3) := by decide +kernel
theorem dX9_part_45 : decode cX9_part 45 = .ok (.iload_n 3, 1) := by decide +kernel
theorem dX9_part_46 : decode cX9_part 46 = .ok (.iconst (-1), 1) := by decide +kernel
theorem dX9_part_47 : decode cX9_part 47 = .ok (.if_icmp .eq 22, 3) := by decide +kernel
theorem dX9_part_50 : decode cX9_part 50 = .ok (.iload_n 3, 1) := by decide +kernel
theorem dX9_part_51 : decode cX9_part 51 = .ok (.invokestatic 95, 3) := by decide +kernel
theorem dX9_part_54 : decode cX9_part 54 = .ok (.ifCond .eq 13, 3) := by decide +kernel
theorem dX9_part_57 : decode cX9_part 57 = .ok (.iload_n 3, 1) := by decide +kernel
theorem dX9_part_58 : decode cX9_part 58 = .ok (.iload_n 1, 1) := by decide +kernel
theorem dX9_part_59 : decode cX9_part 59 = .ok (.if_icmp .eq 8, 3) := by decide +kernel
theorem dX9_part_62 : decode cX9_part 62 = .ok (.iload_n 3, 1) := by decide +kernel
theorem dX9_part_63 : decode cX9_part 63 = .ok (.iload_n 2, 1) := by decide +kernel
theorem dX9_part_64 : decode cX9_part 64 = .ok (.if_icmp .ne 5, 3) := by decide +kernel
theorem dX9_part_67 : decode cX9_part 67 = .ok (.iconst (-1), 1) := by decide +kernel
theorem dX9_part_68 : decode cX9_part 68 = .ok (.ireturn, 1) := by decide +kernel
theorem dX9_part_69 : decode cX9_part 69 = .ok (.aload_n 0, 1) := by decide +kernel
theorem dX9_part_70 : decode cX9_part 70 = .ok (.getfield 20, 3) := by decide +kernel
theorem dX9_part_73 : decode cX9_part 73 = .ok (.iconst 3, 1) := by decide +kernel
theorem dX9_part_74 : decode cX9_part 74 = .ok (.aload_n 0, 1) := by decide +kernel
theorem dX9_part_75 : decode cX9_part 75 = .ok (.getfield 87, 3) := by decide +kernel
theorem dX9_part_78 : decode cX9_part 78 = .ok (.imul, 1) := by decide +kernel
theorem dX9_part_79 : decode cX9_part 79 = .ok (.iload_n 1, 1) := by decide +kernel
theorem dX9_part_80 : decode cX9_part 80 = .ok (.iastore, 1) := by decide +kernel
theorem dX9_part_81 : decode cX9_part 81 = .ok (.aload_n 0, 1) := by decide +kernel
theorem dX9_part_82 : decode cX9_part 82 = .ok (.getfield 20, 3) := by decide +kernel
theorem dX9_part_85 : decode cX9_part 85 = .ok (.iconst 3, 1) := by decide +kernel
theorem dX9_part_86 : decode cX9_part 86 = .ok (.aload_n 0, 1) := by decide +kernel
theorem dX9_part_87 : decode cX9_part 87 = .ok (.getfield 87, 3) := by decide +kernel
theorem dX9_part_90 : decode cX9_part 90 = .ok (.imul, 1) := by decide +kernel
theorem dX9_part_91 : decode cX9_part 91 = .ok (.iconst 1, 1) := by decide +kernel
theorem dX9_part_92 : decode cX9_part 92 = .ok (.iadd, 1) := by decide +kernel
theorem dX9_part_93 : decode cX9_part 93 = .ok (.iload_n 2, 1) := by decide +kernel
theorem dX9_part_94 : decode cX9_part 94 = .ok (.iastore, 1) := by decide +kernel
theorem dX9_part_95 : decode cX9_part 95 = .ok (.aload_n 0, 1) := by decide +kernel
theorem dX9_part_96 : decode cX9_part 96 = .ok (.getfield 20, 3) := by decide +kernel
theorem dX9_part_99 : decode cX9_part 99 = .ok (.iconst 3, 1) := by decide +kernel
theorem dX9_part_100 : decode cX9_part 100 = .ok (.aload_n 0, 1) := by decide +kernel
theorem dX9_part_101 : decode cX9_part 101 = .ok (.getfield 87, 3) := by decide +kernel
theorem dX9_part_104 : decode cX9_part 104 = .ok (.imul, 1) := by decide +kernel
theorem dX9_part_105 : decode cX9_part 105 = .ok (.iconst 2, 1) := by decide +kernel
theorem dX9_part_106 : decode cX9_part 106 = .ok (.iadd, 1) := by decide +kernel
theorem dX9_part_107 : decode cX9_part 107 = .ok (.iload_n 3, 1) := by decide +kernel
theorem dX9_part_108 : decode cX9_part 108 = .ok (.iastore, 1) := by decide +kernel
theorem dX9_part_109 : decode cX9_part 109 = .ok (.aload_n 0, 1) := by decide +kernel
theorem dX9_part_110 : decode cX9_part 110 = .ok (.getfield 23, 3) := by decide +kernel
theorem dX9_part_113 : decode cX9_part 113 = .ok (.aload_n 0, 1) := by decide +kernel
theorem dX9_part_114 : decode cX9_part 114 = .ok (.getfield 87, 3) := by decide +kernel
theorem dX9_part_117 : decode cX9_part 117 = .ok (.iload_n 2, 1) := by decide +kernel
theorem dX9_part_118 : decode cX9_part 118 = .ok (.iconst (-1), 1) := by decide +kernel
theorem dX9_part_119 : decode cX9_part 119 = .ok (.if_icmp .ne 7, 3) := by decide +kernel
theorem dX9_part_122 : decode cX9_part 122 = .ok (.iconst 1, 1) := by decide +kernel
theorem dX9_part_123 : decode cX9_part 123 = .ok (.goto 13, 3) := by decide +kernel
theorem dX9_part_126 : decode cX9_part 126 = .ok (.iload_n 3, 1) := by decide +kernel
theorem dX9_part_127 : decode cX9_part 127 = .ok (.iconst (-1), 1) := by decide +kernel
theorem dX9_part_128 : decode cX9_part 128 = .ok (.if_icmp .ne 7, 3) := by decide +kernel
theorem dX9_part_131 : decode cX9_part 131 = .ok (.iconst 2, 1) := by decide +kernel
theorem dX9_part_132 : decode cX9_part 132 = .ok (.goto 4, 3) := by decide +kernel
theorem dX9_part_135 : decode cX9_part 135 = .ok (.iconst 3, 1) := by decide +kernel
theorem dX9_part_136 : decode cX9_part 136 = .ok (.iastore, 1) := by decide +kernel
theorem dX9_part_137 : decode cX9_part 137 = .ok (.aload_n 0, 1) := by decide +kernel
theorem dX9_part_138 : decode cX9_part 138 = .ok (.dup, 1) := by decide +kernel
theorem dX9_part_139 : decode cX9_part 139 = .ok (.getfield 87, 3) := by decide +kernel
theorem dX9_part_142 : decode cX9_part 142 = .ok (.iconst 1, 1) := by decide +kernel
theorem dX9_part_143 : decode cX9_part 143 = .ok (.iadd, 1) := by decide +kernel
theorem dX9_part_144 : decode cX9_part 144 = .ok (.putfield 87, 3) := by decide +kernel
theorem dX9_part_147 : decode cX9_part 147 = .ok (.aload_n 0, 1) := by decide +kernel
theorem dX9_part_148 : decode cX9_part 148 = .ok (.getfield 87, 3) := by decide +kernel
theorem dX9_part_151 : decode cX9_part 151 = .ok (.iconst 1, 1) := by decide +kernel
theorem dX9_part_152 : decode cX9_part 152 = .ok (.isub, 1) := by decide +kernel
theorem dX9_part_153 : decode cX9_part 153 = .ok (.ireturn, 1) := by decide +kernel
set_option maxRecDepth 20000 in
theorem ggX9_take_X9_isPart : GoodIn wsX9_take wsX9_isPart := goodIn_r _ [7, 8, 9, 10, 6, 11, 12, 13, 14, 15, 16, 17, 18, 19, 20, 21, 22, 23, 24, 25, 26, 27, 28, 29, 30, 31, 32, 33, 34, 35, 36, 37, 38, 39, 40, 41] (by decide +kernel) (by decide +kernel)
set_option maxRecDepth 20000 in
theorem gX9_take_X9_isPart : GoodIn wsX9_take (wsV RX9 105 RX9 yX9_isPart wsX9_isPart) := goodIn_app (goodIn_of _ (by decide +kernel)) ggX9_take_X9_isPart
set_option maxRecDepth 20000 in
theorem ggX9_take_X9_lies : GoodIn wsX9_take wsX9_lies := goodIn_r _ [11] (by decide +kernel) (by decide +kernel)
set_option maxRecDepth 20000 in
theorem gX9_take_X9_lies : GoodIn wsX9_take (va_wsS RX9 91 yX9_lies wsX9_lies) := goodIn_app (goodIn_of _ (by decide +kernel)) ggX9_take_X9_lies
theorem dX9_take_0 : decode cX9_take 0 = .ok (.aload_n 0, 1) := by decide +kernel
theorem dX9_take_1 : decode cX9_take 1 = .ok (.iload_n 1, 1) := by decide +kernel
theorem dX9_take_2 : decode cX9_take 2 = .ok (.invokevirtual 105, 3) := by decide +kernel
theorem dX9_take_5 : decode cX9_take 5 = .ok (.ifCond .eq 29, 3) := by decide +kernel
theorem dX9_take_8 : decode cX9_take 8 = .ok (.iload_n 2, 1) := by decide +kernel
theorem dX9_take_9 : decode cX9_take 9 = .ok (.iconst 0, 1) := by decide +kernel
theorem dX9_take_10 : decode cX9_take 10 = .ok (.aload_n 0, 1) := by decide +kernel
theorem dX9_take_11 : decode cX9_take 11 = .ok (.getfield 23, 3) := by decide +kernel
theorem dX9_take_14 : decode cX9_take 14 = .ok (.iload_n 1, 1) := by decide +kernel
theorem dX9_take_15 : decode cX9_take 15 = .ok (.iaload, 1) := by decide +kernel
theorem dX9_take_16 : decode cX9_take 16 = .ok (.iconst 1, 1) := by decide +kernel
theorem dX9_take_17 : decode cX9_take 17 = .ok (.isub, 1) := by decide +kernel
theorem dX9_take_18 : decode cX9_take 18 = .ok (.invokestatic 91, 3) := by decide +kernel
theorem dX9_take_21 : decode cX9_take 21 = .ok (.ifCond .eq 13, 3) := by decide +kernel
theorem dX9_take_24 : decode cX9_take 24 = .ok (.aload_n 0, 1) := by decide +kernel
theorem dX9_take_25 : decode cX9_take 25 = .ok (.getfield 26, 3) := by decide +kernel
theorem dX9_take_28 : decode cX9_take 28 = .ok (.iload_n 1, 1) := by decide +kernel
theorem dX9_take_29 : decode cX9_take 29 = .ok (.iaload, 1) := by decide +kernel
theorem dX9_take_30 : decode cX9_take 30 = .ok (.iload_n 2, 1) := by decide +kernel
theorem dX9_take_31 : decode cX9_take 31 = .ok (.if_icmp .ne 5, 3) := by decide +kernel
theorem dX9_take_34 : decode cX9_take 34 = .ok (.iconst 0, 1) := by decide +kernel
theorem dX9_take_35 : decode cX9_take 35 = .ok (.ireturn, 1) := by decide +kernel
theorem dX9_take_36 : decode cX9_take 36 = .ok (.aload_n 0, 1) := by decide +kernel
theorem dX9_take_37 : decode cX9_take 37 = .ok (.getfield 26, 3) := by decide +kernel
theorem dX9_take_40 : decode cX9_take 40 = .ok (.iload_n 1, 1) := by decide +kernel
theorem dX9_take_41 : decode cX9_take 41 = .ok (.iload_n 2, 1) := by decide +kernel
theorem dX9_take_42 : decode cX9_take 42 = .ok (.iastore, 1) := by decide +kernel
theorem dX9_take_43 : decode cX9_take 43 = .ok (.iconst 1, 1) := by decide +kernel
theorem dX9_take_44 : decode cX9_take 44 = .ok (.ireturn, 1) := by decide +kernel
theorem dX9_reaches_0 : decode cX9_reaches 0 = .ok (.iconst 0, 1) := by decide +kernel
theorem dX9_reaches_1 : decode cX9_reaches 1 = .ok (.istore_n 2, 1) := by decide +kernel
theorem dX9_reaches_2 : decode cX9_reaches 2 = .ok (.iload_n 2, 1) := by decide +kernel
theorem dX9_reaches_3 : decode cX9_reaches 3 = .ok (.bipush 24, 2) := by decide +kernel
theorem dX9_reaches_5 : decode cX9_reaches 5 = .ok (.if_icmp .ge 25, 3) := by decide +kernel
theorem dX9_reaches_8 : decode cX9_reaches 8 = .ok (.aload_n 0, 1) := by decide +kernel
theorem dX9_reaches_9 : decode cX9_reaches 9 = .ok (.getfield 57, 3) := by decide +kernel
theorem dX9_reaches_12 : decode cX9_reaches 12 = .ok (.iload_n 2, 1) := by decide +kernel
theorem dX9_reaches_13 : decode cX9_reaches 13 = .ok (.iload_n 2, 1) := by decide +kernel
theorem dX9_reaches_14 : decode cX9_reaches 14 = .ok (.iload_n 1, 1) := by decide +kernel
theorem dX9_reaches_15 : decode cX9_reaches 15 = .ok (.if_icmp .ne 7, 3) := by decide +kernel
theorem dX9_reaches_18 : decode cX9_reaches 18 = .ok (.iconst 1, 1) := by decide +kernel
theorem dX9_reaches_19 : decode cX9_reaches 19 = .ok (.goto 4, 3) := by decide +kernel
theorem dX9_reaches_22 : decode cX9_reaches 22 = .ok (.iconst 0, 1) := by decide +kernel
theorem dX9_reaches_23 : decode cX9_reaches 23 = .ok (.bastore, 1) := by decide +kernel
theorem dX9_reaches_24 : decode cX9_reaches 24 = .ok (.iinc 2 1, 3) := by decide +kernel
theorem dX9_reaches_27 : decode cX9_reaches 27 = .ok (.goto (-25), 3) := by decide +kernel
theorem dX9_reaches_30 : decode cX9_reaches 30 = .ok (.iconst 1, 1) := by decide +kernel
theorem dX9_reaches_31 : decode cX9_reaches 31 = .ok (.istore_n 2, 1) := by decide +kernel
theorem dX9_reaches_32 : decode cX9_reaches 32 = .ok (.iload_n 2, 1) := by decide +kernel
theorem dX9_reaches_33 : decode cX9_reaches 33 = .ok (.ifCond .eq 78, 3) := by decide +kernel
theorem dX9_reaches_36 : decode cX9_reaches 36 = .ok (.iconst 0, 1) := by decide +kernel
theorem dX9_reaches_37 : decode cX9_reaches 37 = .ok (.istore_n 2, 1) := by decide +kernel
theorem dX9_reaches_38 : decode cX9_reaches 38 = .ok (.iconst 0, 1) := by decide +kernel
theorem dX9_reaches_39 : decode cX9_reaches 39 = .ok (.istore_n 3, 1) := by decide +kernel
theorem dX9_reaches_40 : decode cX9_reaches 40 = .ok (.iload_n 3, 1) := by decide +kernel
theorem dX9_reaches_41 : decode cX9_reaches 41 = .ok (.aload_n 0, 1) := by decide +kernel
theorem dX9_reaches_42 : decode cX9_reaches 42 = .ok (.getfield 108, 3) := by decide +kernel
theorem dX9_reaches_45 : decode cX9_reaches 45 = .ok (.if_icmp .ge 63, 3) := by decide +kernel
theorem dX9_reaches_48 : decode cX9_reaches 48 = .ok (.aload_n 0, 1) := by decide +kernel
theorem dX9_reaches_49 : decode cX9_reaches 49 = .ok (.getfield 60, 3) := by decide +kernel
theorem dX9_reaches_52 : decode cX9_reaches 52 = .ok (.iload_n 3, 1) := by decide +kernel
theorem dX9_reaches_53 : decode cX9_reaches 53 = .ok (.baload, 1) := by decide +kernel
theorem dX9_reaches_54 : decode cX9_reaches 54 = .ok (.ifCond .ne 48, 3) := by decide +kernel
theorem dX9_reaches_57 : decode cX9_reaches 57 = .ok (.aload_n 0, 1) := by decide +kernel
theorem dX9_reaches_58 : decode cX9_reaches 58 = .ok (.getfield 57, 3) := by decide +kernel
theorem dX9_reaches_61 : decode cX9_reaches 61 = .ok (.aload_n 0, 1) := by decide +kernel
theorem dX9_reaches_62 : decode cX9_reaches 62 = .ok (.getfield 35, 3) := by decide +kernel
theorem dX9_reaches_65 : decode cX9_reaches 65 = .ok (.iload_n 3, 1) := by decide +kernel
theorem dX9_reaches_66 : decode cX9_reaches 66 = .ok (.iaload, 1) := by decide +kernel
theorem dX9_reaches_67 : decode cX9_reaches 67 = .ok (.baload, 1) := by decide +kernel
theorem dX9_reaches_68 : decode cX9_reaches 68 = .ok (.ifCond .eq 34, 3) := by decide +kernel
theorem dX9_reaches_71 : decode cX9_reaches 71 = .ok (.aload_n 0, 1) := by decide +kernel
theorem dX9_reaches_72 : decode cX9_reaches 72 = .ok (.getfield 57, 3) := by decide +kernel
theorem dX9_reaches_75 : decode cX9_reaches 75 = .ok (.aload_n 0, 1) := by decide +kernel
theorem dX9_reaches_76 : decode cX9_reaches 76 = .ok (.getfield 32, 3) := by decide +kernel
theorem dX9_reaches_79 : decode cX9_reaches 79 = .ok (.iload_n 3, 1) := by decide +kernel
theorem dX9_reaches_80 : decode cX9_reaches 80 = .ok (.iaload, 1) := by decide +kernel
theorem dX9_reaches_81 : decode cX9_reaches 81 = .ok (.baload, 1) := by decide +kernel
theorem dX9_reaches_82 : decode cX9_reaches 82 = .ok (.ifCond .eq 6, 3) := by decide +kernel
theorem dX9_reaches_85 : decode cX9_reaches 85 = .ok (.goto 17, 3) := by decide +kernel
theorem dX9_reaches_88 : decode cX9_reaches 88 = .ok (.aload_n 0, 1) := by decide +kernel
theorem dX9_reaches_89 : decode cX9_reaches 89 = .ok (.getfield 57, 3) := by decide +kernel
theorem dX9_reaches_92 : decode cX9_reaches 92 = .ok (.aload_n 0, 1) := by decide +kernel
theorem dX9_reaches_93 : decode cX9_reaches 93 = .ok (.getfield 32, 3) := by decide +kernel
theorem dX9_reaches_96 : decode cX9_reaches 96 = .ok (.iload_n 3, 1) := by decide +kernel
theorem dX9_reaches_97 : decode cX9_reaches 97 = .ok (.iaload, 1) := by decide +kernel
theorem dX9_reaches_98 : decode cX9_reaches 98 = .ok (.iconst 1, 1) := by decide +kernel
theorem dX9_reaches_99 : decode cX9_reaches 99 = .ok (.bastore, 1) := by decide +kernel
theorem dX9_reaches_100 : decode cX9_reaches 100 = .ok (.iconst 1, 1) := by decide +kernel
theorem dX9_reaches_101 : decode cX9_reaches 101 = .ok (.istore_n 2, 1) := by decide +kernel
theorem dX9_reaches_102 : decode cX9_reaches 102 = .ok (.iinc 3 1, 3) := by decide +kernel
theorem dX9_reaches_105 : decode cX9_reaches 105 = .ok (.goto (-65), 3) := by decide +kernel
theorem dX9_reaches_108 : decode cX9_reaches 108 = .ok (.goto (-76), 3) := by decide +kernel
theorem dX9_reaches_111 : decode cX9_reaches 111 = .ok (.return_, 1) := by decide +kernel
theorem dX9_asItIs_0 : decode cX9_asItIs 0 = .ok (.iconst 0, 1) := by decide +kernel
theorem dX9_asItIs_1 : decode cX9_asItIs 1 = .ok (.istore_n 1, 1) := by decide +kernel
theorem dX9_asItIs_2 : decode cX9_asItIs 2 = .ok (.iload_n 1, 1) := by decide +kernel
theorem dX9_asItIs_3 : decode cX9_asItIs 3 = .ok (.aload_n 0, 1) := by decide +kernel
theorem dX9_asItIs_4 : decode cX9_asItIs 4 = .ok (.getfield 108, 3) := by decide +kernel
theorem dX9_asItIs_7 : decode cX9_asItIs 7 = .ok (.if_icmp .ge 21, 3) := by decide +kernel
theorem dX9_asItIs_10 : decode cX9_asItIs 10 = .ok (.aload_n 0, 1) := by decide +kernel
theorem dX9_asItIs_11 : decode cX9_asItIs 11 = .ok (.getfield 60, 3) := by decide +kernel
theorem dX9_asItIs_14 : decode cX9_asItIs 14 = .ok (.iload_n 1, 1) := by decide +kernel
theorem dX9_asItIs_15 : decode cX9_asItIs 15 = .ok (.aload_n 0, 1) := by decide +kernel
theorem dX9_asItIs_16 : decode cX9_asItIs 16 = .ok (.getfield 41, 3) := by decide +kernel
theorem dX9_asItIs_19 : decode cX9_asItIs 19 = .ok (.iload_n 1, 1) := by decide +kernel
theorem dX9_asItIs_20 : decode cX9_asItIs 20 = .ok (.baload, 1) := by decide +kernel
theorem dX9_asItIs_21 : decode cX9_asItIs 21 = .ok (.bastore, 1) := by decide +kernel
theorem dX9_asItIs_22 : decode cX9_asItIs 22 = .ok (.iinc 1 1, 3) := by decide +kernel
theorem dX9_asItIs_25 : decode cX9_asItIs 25 = .ok (.goto (-23), 3) := by decide +kernel
theorem dX9_asItIs_28 : decode cX9_asItIs 28 = .ok (.iconst 0, 1) := by decide +kernel
theorem dX9_asItIs_29 : decode cX9_asItIs 29 = .ok (.istore_n 1, 1) := by decide +kernel
theorem dX9_asItIs_30 : decode cX9_asItIs 30 = .ok (.iload_n 1, 1) := by decide +kernel
theorem dX9_asItIs_31 : decode cX9_asItIs 31 = .ok (.aload_n 0, 1) := by decide +kernel
theorem dX9_asItIs_32 : decode cX9_asItIs 32 = .ok (.getfield 87, 3) := by decide +kernel
theorem dX9_asItIs_35 : decode cX9_asItIs 35 = .ok (.if_icmp .ge 30, 3) := by decide +kernel
theorem dX9_asItIs_38 : decode cX9_asItIs 38 = .ok (.aload_n 0, 1) := by decide +kernel
theorem dX9_asItIs_39 : decode cX9_asItIs 39 = .ok (.getfield 63, 3) := by decide +kernel
theorem dX9_asItIs_42 : decode cX9_asItIs 42 = .ok (.iload_n 1, 1) := by decide +kernel
theorem dX9_asItIs_43 : decode cX9_asItIs 43 = .ok (.aload_n 0, 1) := by decide +kernel
theorem dX9_asItIs_44 : decode cX9_asItIs 44 = .ok (.getfield 20, 3) := by decide +kernel
theorem dX9_asItIs_47 : decode cX9_asItIs 47 = .ok (.iconst 3, 1) := by decide +kernel
theorem dX9_asItIs_48 : decode cX9_asItIs 48 = .ok (.iload_n 1, 1) := by decide +kernel
theorem dX9_asItIs_49 : decode cX9_asItIs 49 = .ok (.imul, 1) := by decide +kernel
theorem dX9_asItIs_50 : decode cX9_asItIs 50 = .ok (.aload_n 0, 1) := by decide +kernel
theorem dX9_asItIs_51 : decode cX9_asItIs 51 = .ok (.getfield 26, 3) := by decide +kernel
theorem dX9_asItIs_54 : decode cX9_asItIs 54 = .ok (.iload_n 1, 1) := by decide +kernel
theorem dX9_asItIs_55 : decode cX9_asItIs 55 = .ok (.iaload, 1) := by decide +kernel
theorem dX9_asItIs_56 : decode cX9_asItIs 56 = .ok (.iadd, 1) := by decide +kernel
theorem dX9_asItIs_57 : decode cX9_asItIs 57 = .ok (.iaload, 1) := by decide +kernel
theorem dX9_asItIs_58 : decode cX9_asItIs 58 = .ok (.iastore, 1) := by decide +kernel
theorem dX9_asItIs_59 : decode cX9_asItIs 59 = .ok (.iinc 1 1, 3) := by decide +kernel
theorem dX9_asItIs_62 : decode cX9_asItIs 62 = .ok (.goto (-32), 3) := by decide +kernel
theorem dX9_asItIs_65 : decode cX9_asItIs 65 = .ok (.return_, 1) := by decide +kernel
set_option maxRecDepth 20000 in
theorem ggX9_join_X9_isPart : GoodIn wsX9_join wsX9_isPart := goodIn_r _ [11, 12, 13, 14, 10, 15, 28, 29, 30, 31, 32, 33, 34, 35, 36, 37, 38, 39, 40, 41, 42, 43, 44, 45, 46, 47, 48, 49, 50, 51, 52, 53, 54, 55, 56, 57] (by decide +kernel) (by decide +kernel)
set_option maxRecDepth 20000 in
theorem gX9_join_X9_isPart : GoodIn wsX9_join (wsV RX9 105 RX9 yX9_isPart wsX9_isPart) := goodIn_app (goodIn_of _ (by decide +kernel)) ggX9_join_X9_isPart
set_option maxRecDepth 20000 in
theorem ggX9_join_X9_lies : GoodIn wsX9_join wsX9_lies := goodIn_r _ [15] (by decide +kernel) (by decide +kernel)
set_option maxRecDepth 20000 in
theorem gX9_join_X9_lies : GoodIn wsX9_join (va_wsS RX9 91 yX9_lies wsX9_lies) := goodIn_app (goodIn_of _ (by decide +kernel)) ggX9_join_X9_lies
set_option maxRecDepth 20000 in
theorem ggX9_join_X9_asItIs : GoodIn wsX9_join wsX9_asItIs := goodIn_r _ [19, 1, 20, 2, 12, 21, 22, 23, 28, 29, 30, 31, 32, 33, 34, 35, 36, 37, 38, 39, 40, 41, 42, 43, 44, 45, 46, 47, 48, 49, 50, 51, 52, 53, 54, 55, 56, 57] (by decide +kernel) (by decide +kernel)
set_option maxRecDepth 20000 in
theorem gX9_join_X9_asItIs : GoodIn wsX9_join (wsV RX9 111 RX9 yX9_asItIs wsX9_asItIs) := goodIn_app (goodIn_of _ (by decide +kernel)) ggX9_join_X9_asItIs
set_option maxRecDepth 20000 in
theorem ggX9_join_X9_reaches : GoodIn wsX9_join wsX9_reaches := goodIn_r _ [27, 5, 1, 20, 4, 3, 28, 29, 30, 31, 32, 33, 34, 35, 36, 37, 38, 39, 40, 41, 42, 43, 44, 45, 46, 47, 48, 49, 50, 51, 52, 53, 54, 55, 56, 57] (by decide +kernel) (by decide +kernel)
set_option maxRecDepth 20000 in
theorem gX9_join_X9_reaches : GoodIn wsX9_join (wsV RX9 114 RX9 yX9_reaches wsX9_reaches) := goodIn_app (goodIn_of _ (by decide +kernel)) ggX9_join_X9_reaches
theorem dX9_join_0 : decode cX9_join 0 = .ok (.aload_n 0, 1) := by decide +kernel
theorem dX9_join_1 : decode cX9_join 1 = .ok (.getfield 108, 3) := by decide +kernel
theorem dX9_join_4 : decode cX9_join 4 = .ok (.bipush 40, 2) := by decide +kernel
theorem dX9_join_6 : decode cX9_join 6 = .ok (.if_icmp .eq 33, 3) := by decide +kernel
theorem dX9_join_9 : decode cX9_join 9 = .ok (.aload_n 0, 1) := by decide +kernel
theorem dX9_join_10 : decode cX9_join 10 = .ok (.iload_n 1, 1) := by decide +kernel
theorem dX9_join_11 : decode cX9_join 11 = .ok (.invokevirtual 105, 3) := by decide +kernel
theorem dX9_join_14 : decode cX9_join 14 = .ok (.ifCond .eq 25, 3) := by decide +kernel
theorem dX9_join_17 : decode cX9_join 17 = .ok (.aload_n 0, 1) := by decide +kernel
theorem dX9_join_18 : decode cX9_join 18 = .ok (.iload_n 2, 1) := by decide +kernel
theorem dX9_join_19 : decode cX9_join 19 = .ok (.invokevirtual 105, 3) := by decide +kernel
theorem dX9_join_22 : decode cX9_join 22 = .ok (.ifCond .eq 17, 3) := by decide +kernel
theorem dX9_join_25 : decode cX9_join 25 = .ok (.iload_n 1, 1) := by decide +kernel
theorem dX9_join_26 : decode cX9_join 26 = .ok (.iload_n 2, 1) := by decide +kernel
theorem dX9_join_27 : decode cX9_join 27 = .ok (.if_icmp .eq 12, 3) := by decide +kernel
theorem dX9_join_30 : decode cX9_join 30 = .ok (.iload_n 3, 1) := by decide +kernel
theorem dX9_join_31 : decode cX9_join 31 = .ok (.iconst 0, 1) := by decide +kernel
theorem dX9_join_32 : decode cX9_join 32 = .ok (.iconst 3, 1) := by decide +kernel
theorem dX9_join_33 : decode cX9_join 33 = .ok (.invokestatic 91, 3) := by decide +kernel
theorem dX9_join_36 : decode cX9_join 36 = .ok (.ifCond .ne 5, 3) := by decide +kernel
theorem dX9_join_39 : decode cX9_join 39 = .ok (.iconst (-1), 1) := by decide +kernel
theorem dX9_join_40 : decode cX9_join 40 = .ok (.ireturn, 1) := by decide +kernel
theorem dX9_join_41 : decode cX9_join 41 = .ok (.iconst 0, 1) := by decide +kernel
theorem dX9_join_42 : decode cX9_join 42 = .ok (.istore 4, 2) := by decide +kernel
theorem dX9_join_44 : decode cX9_join 44 = .ok (.iload 4, 2) := by decide +kernel
theorem dX9_join_46 : decode cX9_join 46 = .ok (.aload_n 0, 1) := by decide +kernel
theorem dX9_join_47 : decode cX9_join 47 = .ok (.getfield 108, 3) := by decide +kernel
theorem dX9_join_50 : decode cX9_join 50 = .ok (.if_icmp .ge 43, 3) := by decide +kernel
theorem dX9_join_53 : decode cX9_join 53 = .ok (.aload_n 0, 1) := by decide +kernel
theorem dX9_join_54 : decode cX9_join 54 = .ok (.getfield 41, 3) := by decide +kernel
theorem dX9_join_57 : decode cX9_join 57 = .ok (.iload 4, 2) := by decide +kernel
theorem dX9_join_59 : decode cX9_join 59 = .ok (.baload, 1) := by decide +kernel
theorem dX9_join_60 : decode cX9_join 60 = .ok (.ifCond .ne 27, 3) := by decide +kernel
theorem dX9_join_63 : decode cX9_join 63 = .ok (.aload_n 0, 1) := by decide +kernel
theorem dX9_join_64 : decode cX9_join 64 = .ok (.getfield 32, 3) := by decide +kernel
theorem dX9_join_67 : decode cX9_join 67 = .ok (.iload 4, 2) := by decide +kernel
theorem dX9_join_69 : decode cX9_join 69 = .ok (.iaload, 1) := by decide +kernel
theorem dX9_join_70 : decode cX9_join 70 = .ok (.iload_n 1, 1) := by decide +kernel
theorem dX9_join_71 : decode cX9_join 71 = .ok (.if_icmp .ne 16, 3) := by decide +kernel
theorem dX9_join_74 : decode cX9_join 74 = .ok (.aload_n 0, 1) := by decide +kernel
theorem dX9_join_75 : decode cX9_join 75 = .ok (.getfield 35, 3) := by decide +kernel
theorem dX9_join_78 : decode cX9_join 78 = .ok (.iload 4, 2) := by decide +kernel
theorem dX9_join_80 : decode cX9_join 80 = .ok (.iaload, 1) := by decide +kernel
theorem dX9_join_81 : decode cX9_join 81 = .ok (.iload_n 2, 1) := by decide +kernel
theorem dX9_join_82 : decode cX9_join 82 = .ok (.if_icmp .ne 5, 3) := by decide +kernel
theorem dX9_join_85 : decode cX9_join 85 = .ok (.iconst (-1), 1) := by decide +kernel
theorem dX9_join_86 : decode cX9_join 86 = .ok (.ireturn, 1) := by decide +kernel
theorem dX9_join_87 : decode cX9_join 87 = .ok (.iinc 4 1, 3) := by decide +kernel
theorem dX9_join_90 : decode cX9_join 90 = .ok (.goto (-46), 3) := by decide +kernel
theorem dX9_join_93 : decode cX9_join 93 = .ok (.aload_n 0, 1) := by decide +kernel
theorem dX9_join_94 : decode cX9_join 94 = .ok (.invokevirtual 111, 3) := by decide +kernel
theorem dX9_join_97 : decode cX9_join 97 = .ok (.aload_n 0, 1) := by decide +kernel
theorem dX9_join_98 : decode cX9_join 98 = .ok (.iload_n 1, 1) := by decide +kernel
theorem dX9_join_99 : decode cX9_join 99 = .ok (.invokevirtual 114, 3) := by decide +kernel
theorem dX9_join_102 : decode cX9_join 102 = .ok (.aload_n 0, 1) := by decide +kernel
theorem dX9_join_103 : decode cX9_join 103 = .ok (.getfield 57, 3) := by decide +kernel
theorem dX9_join_106 : decode cX9_join 106 = .ok (.iload_n 2, 1) := by decide +kernel
theorem dX9_join_107 : decode cX9_join 107 = .ok (.baload, 1) := by decide +kernel
theorem dX9_join_108 : decode cX9_join 108 = .ok (.ifCond .eq 5, 3) := by decide +kernel
theorem dX9_join_111 : decode cX9_join 111 = .ok (.iconst (-1), 1) := by decide +kernel
theorem dX9_join_112 : decode cX9_join 112 = .ok (.ireturn, 1) := by decide +kernel
theorem dX9_join_113 : decode cX9_join 113 = .ok (.aload_n 0, 1) := by decide +kernel
theorem dX9_join_114 : decode cX9_join 114 = .ok (.getfield 32, 3) := by decide +kernel
theorem dX9_join_117 : decode cX9_join 117 = .ok (.aload_n 0, 1) := by decide +kernel
theorem dX9_join_118 : decode cX9_join 118 = .ok (.getfield 108, 3) := by decide +kernel
theorem dX9_join_121 : decode cX9_join 121 = .ok (.iload_n 1, 1) := by decide +kernel
end
section
theorem dX9_join_122 : decode cX9_join 122 = .ok (.iastore, 1) := by decide +kernel
theorem dX9_join_123 : decode cX9_join 123 = .ok (.aload_n 0, 1) := by decide +kernel
theorem dX9_join_124 : decode cX9_join 124 = .ok (.getfield 35, 3) := by decide +kernel
theorem dX9_join_127 : decode cX9_join 127 = .ok (.aload_n 0, 1) := by decide +kernel
theorem dX9_join_128 : decode cX9_join 128 = .ok (.getfield 108, 3) := by decide +kernel
theorem dX9_join_131 : decode cX9_join 131 = .ok (.iload_n 2, 1) := by decide +kernel
theorem dX9_join_132 : decode cX9_join 132 = .ok (.iastore, 1) := by decide +kernel
theorem dX9_join_133 : decode cX9_join 133 = .ok (.aload_n 0, 1) := by decide +kernel
theorem dX9_join_134 : decode cX9_join 134 = .ok (.getfield 38, 3) := by decide +kernel
theorem dX9_join_137 : decode cX9_join 137 = .ok (.aload_n 0, 1) := by decide +kernel
theorem dX9_join_138 : decode cX9_join 138 = .ok (.getfield 108, 3) := by decide +kernel
theorem dX9_join_141 : decode cX9_join 141 = .ok (.iload_n 3, 1) := by decide +kernel
theorem dX9_join_142 : decode cX9_join 142 = .ok (.iastore, 1) := by decide +kernel
theorem dX9_join_143 : decode cX9_join 143 = .ok (.aload_n 0, 1) := by decide +kernel
theorem dX9_join_144 : decode cX9_join 144 = .ok (.dup, 1) := by decide +kernel
theorem dX9_join_145 : decode cX9_join 145 = .ok (.getfield 108, 3) := by decide +kernel
theorem dX9_join_148 : decode cX9_join 148 = .ok (.iconst 1, 1) := by decide +kernel
theorem dX9_join_149 : decode cX9_join 149 = .ok (.iadd, 1) := by decide +kernel
theorem dX9_join_150 : decode cX9_join 150 = .ok (.putfield 108, 3) := by decide +kernel
theorem dX9_join_153 : decode cX9_join 153 = .ok (.aload_n 0, 1) := by decide +kernel
theorem dX9_join_154 : decode cX9_join 154 = .ok (.getfield 108, 3) := by decide +kernel
theorem dX9_join_157 : decode cX9_join 157 = .ok (.iconst 1, 1) := by decide +kernel
theorem dX9_join_158 : decode cX9_join 158 = .ok (.isub, 1) := by decide +kernel
theorem dX9_join_159 : decode cX9_join 159 = .ok (.ireturn, 1) := by decide +kernel
set_option maxRecDepth 20000 in
theorem ggX9_cut_X9_lies : GoodIn wsX9_cut wsX9_lies := goodIn_r _ [6] (by decide +kernel) (by decide +kernel)
set_option maxRecDepth 20000 in
theorem gX9_cut_X9_lies : GoodIn wsX9_cut (va_wsS RX9 91 yX9_lies wsX9_lies) := goodIn_app (goodIn_of _ (by decide +kernel)) ggX9_cut_X9_lies
theorem dX9_cut_0 : decode cX9_cut 0 = .ok (.iload_n 1, 1) := by decide +kernel
theorem dX9_cut_1 : decode cX9_cut 1 = .ok (.iconst 0, 1) := by decide +kernel
theorem dX9_cut_2 : decode cX9_cut 2 = .ok (.aload_n 0, 1) := by decide +kernel
theorem dX9_cut_3 : decode cX9_cut 3 = .ok (.getfield 108, 3) := by decide +kernel
theorem dX9_cut_6 : decode cX9_cut 6 = .ok (.iconst 1, 1) := by decide +kernel
theorem dX9_cut_7 : decode cX9_cut 7 = .ok (.isub, 1) := by decide +kernel
theorem dX9_cut_8 : decode cX9_cut 8 = .ok (.invokestatic 91, 3) := by decide +kernel
theorem dX9_cut_11 : decode cX9_cut 11 = .ok (.ifCond .eq 12, 3) := by decide +kernel
theorem dX9_cut_14 : decode cX9_cut 14 = .ok (.aload_n 0, 1) := by decide +kernel
theorem dX9_cut_15 : decode cX9_cut 15 = .ok (.getfield 41, 3) := by decide +kernel
theorem dX9_cut_18 : decode cX9_cut 18 = .ok (.iload_n 1, 1) := by decide +kernel
theorem dX9_cut_19 : decode cX9_cut 19 = .ok (.baload, 1) := by decide +kernel
theorem dX9_cut_20 : decode cX9_cut 20 = .ok (.ifCond .eq 5, 3) := by decide +kernel
theorem dX9_cut_23 : decode cX9_cut 23 = .ok (.iconst 0, 1) := by decide +kernel
theorem dX9_cut_24 : decode cX9_cut 24 = .ok (.ireturn, 1) := by decide +kernel
theorem dX9_cut_25 : decode cX9_cut 25 = .ok (.aload_n 0, 1) := by decide +kernel
theorem dX9_cut_26 : decode cX9_cut 26 = .ok (.getfield 41, 3) := by decide +kernel
theorem dX9_cut_29 : decode cX9_cut 29 = .ok (.iload_n 1, 1) := by decide +kernel
theorem dX9_cut_30 : decode cX9_cut 30 = .ok (.iconst 1, 1) := by decide +kernel
theorem dX9_cut_31 : decode cX9_cut 31 = .ok (.bastore, 1) := by decide +kernel
theorem dX9_cut_32 : decode cX9_cut 32 = .ok (.iconst 1, 1) := by decide +kernel
theorem dX9_cut_33 : decode cX9_cut 33 = .ok (.ireturn, 1) := by decide +kernel
set_option maxRecDepth 20000 in
theorem ggX9_except_X9_isPart : GoodIn wsX9_except wsX9_isPart := goodIn_r _ [6, 7, 8, 9, 5, 10, 17, 18, 19, 20, 21, 22, 23, 24, 25, 26, 27, 28, 29, 30, 31, 32, 33, 34, 35, 36, 37, 38, 39, 40, 41, 42, 43, 44, 45, 46] (by decide +kernel) (by decide +kernel)
set_option maxRecDepth 20000 in
theorem gX9_except_X9_isPart : GoodIn wsX9_except (wsV RX9 105 RX9 yX9_isPart wsX9_isPart) := goodIn_app (goodIn_of _ (by decide +kernel)) ggX9_except_X9_isPart
set_option maxRecDepth 20000 in
theorem ggX9_except_X9_isLicence : GoodIn wsX9_except wsX9_isLicence := goodIn_r _ [13, 8, 9, 5, 10] (by decide +kernel) (by decide +kernel)
set_option maxRecDepth 20000 in
theorem gX9_except_X9_isLicence : GoodIn wsX9_except (va_wsS RX9 95 yX9_isLicence wsX9_isLicence) := goodIn_app (goodIn_of _ (by decide +kernel)) ggX9_except_X9_isLicence
set_option maxRecDepth 20000 in
theorem ggX9_except_X9_lies : GoodIn wsX9_except wsX9_lies := goodIn_r _ [10] (by decide +kernel) (by decide +kernel)
set_option maxRecDepth 20000 in
theorem gX9_except_X9_lies : GoodIn wsX9_except (va_wsS RX9 91 yX9_lies wsX9_lies) := goodIn_app (goodIn_of _ (by decide +kernel)) ggX9_except_X9_lies
set_option maxRecDepth 20000 in
theorem ggX9_except_X9_bit : GoodIn wsX9_except wsX9_bit := goodIn_r _ [16] (by decide +kernel) (by decide +kernel)
set_option maxRecDepth 20000 in
theorem gX9_except_X9_bit : GoodIn wsX9_except (va_wsS RX9 99 yX9_bit wsX9_bit) := goodIn_app (goodIn_of _ (by decide +kernel)) ggX9_except_X9_bit
theorem dX9_except_0 : decode cX9_except 0 = .ok (.aload_n 0, 1) := by decide +kernel
theorem dX9_except_1 : decode cX9_except 1 = .ok (.iload_n 1, 1) := by decide +kernel
theorem dX9_except_2 : decode cX9_except 2 = .ok (.invokevirtual 105, 3) := by decide +kernel
theorem dX9_except_5 : decode cX9_except 5 = .ok (.ifCond .eq 37, 3) := by decide +kernel
theorem dX9_except_8 : decode cX9_except 8 = .ok (.iload_n 2, 1) := by decide +kernel
theorem dX9_except_9 : decode cX9_except 9 = .ok (.invokestatic 95, 3) := by decide +kernel
theorem dX9_except_12 : decode cX9_except 12 = .ok (.ifCond .eq 30, 3) := by decide +kernel
theorem dX9_except_15 : decode cX9_except 15 = .ok (.iload_n 3, 1) := by decide +kernel
theorem dX9_except_16 : decode cX9_except 16 = .ok (.iconst 0, 1) := by decide +kernel
theorem dX9_except_17 : decode cX9_except 17 = .ok (.bipush 7, 2) := by decide +kernel
theorem dX9_except_19 : decode cX9_except 19 = .ok (.invokestatic 91, 3) := by decide +kernel
theorem dX9_except_22 : decode cX9_except 22 = .ok (.ifCond .eq 20, 3) := by decide +kernel
theorem dX9_except_25 : decode cX9_except 25 = .ok (.aload_n 0, 1) := by decide +kernel
theorem dX9_except_26 : decode cX9_except 26 = .ok (.getfield 29, 3) := by decide +kernel
theorem dX9_except_29 : decode cX9_except 29 = .ok (.iload_n 1, 1) := by decide +kernel
theorem dX9_except_30 : decode cX9_except 30 = .ok (.laload, 1) := by decide +kernel
theorem dX9_except_31 : decode cX9_except 31 = .ok (.iload_n 2, 1) := by decide +kernel
theorem dX9_except_32 : decode cX9_except 32 = .ok (.iload_n 3, 1) := by decide +kernel
theorem dX9_except_33 : decode cX9_except 33 = .ok (.invokestatic 99, 3) := by decide +kernel
theorem dX9_except_36 : decode cX9_except 36 = .ok (.land, 1) := by decide +kernel
theorem dX9_except_37 : decode cX9_except 37 = .ok (.lconst 0, 1) := by decide +kernel
theorem dX9_except_38 : decode cX9_except 38 = .ok (.lcmp, 1) := by decide +kernel
theorem dX9_except_39 : decode cX9_except 39 = .ok (.ifCond .eq 5, 3) := by decide +kernel
theorem dX9_except_42 : decode cX9_except 42 = .ok (.iconst 0, 1) := by decide +kernel
theorem dX9_except_43 : decode cX9_except 43 = .ok (.ireturn, 1) := by decide +kernel
theorem dX9_except_44 : decode cX9_except 44 = .ok (.aload_n 0, 1) := by decide +kernel
theorem dX9_except_45 : decode cX9_except 45 = .ok (.getfield 29, 3) := by decide +kernel
theorem dX9_except_48 : decode cX9_except 48 = .ok (.iload_n 1, 1) := by decide +kernel
theorem dX9_except_49 : decode cX9_except 49 = .ok (.dup2, 1) := by decide +kernel
theorem dX9_except_50 : decode cX9_except 50 = .ok (.laload, 1) := by decide +kernel
theorem dX9_except_51 : decode cX9_except 51 = .ok (.iload_n 2, 1) := by decide +kernel
theorem dX9_except_52 : decode cX9_except 52 = .ok (.iload_n 3, 1) := by decide +kernel
theorem dX9_except_53 : decode cX9_except 53 = .ok (.invokestatic 99, 3) := by decide +kernel
theorem dX9_except_56 : decode cX9_except 56 = .ok (.lor, 1) := by decide +kernel
theorem dX9_except_57 : decode cX9_except 57 = .ok (.lastore, 1) := by decide +kernel
theorem dX9_except_58 : decode cX9_except 58 = .ok (.iconst 1, 1) := by decide +kernel
theorem dX9_except_59 : decode cX9_except 59 = .ok (.ireturn, 1) := by decide +kernel
set_option maxRecDepth 20000 in
theorem ggX9_product_X9_isPart : GoodIn wsX9_product wsX9_isPart := goodIn_r _ [6, 7, 8, 9, 5, 10, 11, 12, 13, 14, 15, 16, 17, 18, 19, 20, 21, 22, 23, 24, 25, 26, 27, 28, 29, 30, 31, 32, 33, 34, 35, 36, 37, 38, 39, 40] (by decide +kernel) (by decide +kernel)
set_option maxRecDepth 20000 in
theorem gX9_product_X9_isPart : GoodIn wsX9_product (wsV RX9 105 RX9 yX9_isPart wsX9_isPart) := goodIn_app (goodIn_of _ (by decide +kernel)) ggX9_product_X9_isPart
theorem dX9_product_0 : decode cX9_product 0 = .ok (.aload_n 0, 1) := by decide +kernel
theorem dX9_product_1 : decode cX9_product 1 = .ok (.iload_n 1, 1) := by decide +kernel
theorem dX9_product_2 : decode cX9_product 2 = .ok (.invokevirtual 105, 3) := by decide +kernel
theorem dX9_product_5 : decode cX9_product 5 = .ok (.ifCond .ne 5, 3) := by decide +kernel
theorem dX9_product_8 : decode cX9_product 8 = .ok (.iconst 0, 1) := by decide +kernel
theorem dX9_product_9 : decode cX9_product 9 = .ok (.ireturn, 1) := by decide +kernel
theorem dX9_product_10 : decode cX9_product 10 = .ok (.aload_n 0, 1) := by decide +kernel
theorem dX9_product_11 : decode cX9_product 11 = .ok (.iload_n 1, 1) := by decide +kernel
theorem dX9_product_12 : decode cX9_product 12 = .ok (.putfield 118, 3) := by decide +kernel
theorem dX9_product_15 : decode cX9_product 15 = .ok (.iconst 1, 1) := by decide +kernel
theorem dX9_product_16 : decode cX9_product 16 = .ok (.ireturn, 1) := by decide +kernel
set_option maxRecDepth 20000 in
theorem ggX9_change_X9_lies : GoodIn wsX9_change wsX9_lies := goodIn_r _ [11] (by decide +kernel) (by decide +kernel)
set_option maxRecDepth 20000 in
theorem gX9_change_X9_lies : GoodIn wsX9_change (va_wsS RX9 91 yX9_lies wsX9_lies) := goodIn_app (goodIn_of _ (by decide +kernel)) ggX9_change_X9_lies
set_option maxRecDepth 20000 in
theorem ggX9_change_X9_isPart : GoodIn wsX9_change wsX9_isPart := goodIn_r _ [15, 16, 8, 9, 10, 11, 20, 21, 22, 23, 24, 25, 26, 27, 28, 29, 30, 31, 32, 33, 34, 35, 36, 37, 38, 39, 40, 41, 42, 43, 44, 45, 46, 47, 48, 49] (by decide +kernel) (by decide +kernel)
set_option maxRecDepth 20000 in
theorem gX9_change_X9_isPart : GoodIn wsX9_change (wsV RX9 105 RX9 yX9_isPart wsX9_isPart) := goodIn_app (goodIn_of _ (by decide +kernel)) ggX9_change_X9_isPart
set_option maxRecDepth 20000 in
theorem ggX9_change_X9_isLicence : GoodIn wsX9_change wsX9_isLicence := goodIn_r _ [19, 8, 9, 10, 11] (by decide +kernel) (by decide +kernel)
set_option maxRecDepth 20000 in
theorem gX9_change_X9_isLicence : GoodIn wsX9_change (va_wsS RX9 95 yX9_isLicence wsX9_isLicence) := goodIn_app (goodIn_of _ (by decide +kernel)) ggX9_change_X9_isLicence
theorem dX9_change_0 : decode cX9_change 0 = .ok (.aload_n 0, 1) := by decide +kernel
theorem dX9_change_1 : decode cX9_change 1 = .ok (.getfield 121, 3) := by decide +kernel
theorem dX9_change_4 : decode cX9_change 4 = .ok (.bipush 10, 2) := by decide +kernel
theorem dX9_change_6 : decode cX9_change 6 = .ok (.if_icmp .eq 23, 3) := by decide +kernel
theorem dX9_change_9 : decode cX9_change 9 = .ok (.iload_n 1, 1) := by decide +kernel
theorem dX9_change_10 : decode cX9_change 10 = .ok (.iconst 0, 1) := by decide +kernel
theorem dX9_change_11 : decode cX9_change 11 = .ok (.iconst 1, 1) := by decide +kernel
theorem dX9_change_12 : decode cX9_change 12 = .ok (.invokestatic 91, 3) := by decide +kernel
theorem dX9_change_15 : decode cX9_change 15 = .ok (.ifCond .eq 14, 3) := by decide +kernel
theorem dX9_change_18 : decode cX9_change 18 = .ok (.iload 4, 2) := by decide +kernel
theorem dX9_change_20 : decode cX9_change 20 = .ok (.iconst 0, 1) := by decide +kernel
theorem dX9_change_21 : decode cX9_change 21 = .ok (.ldc 124, 2) := by decide +kernel
theorem dX9_change_23 : decode cX9_change 23 = .ok (.invokestatic 91, 3) := by decide +kernel
theorem dX9_change_26 : decode cX9_change 26 = .ok (.ifCond .ne 5, 3) := by decide +kernel
theorem dX9_change_29 : decode cX9_change 29 = .ok (.iconst (-1), 1) := by decide +kernel
theorem dX9_change_30 : decode cX9_change 30 = .ok (.ireturn, 1) := by decide +kernel
theorem dX9_change_31 : decode cX9_change 31 = .ok (.iload_n 1, 1) := by decide +kernel
theorem dX9_change_32 : decode cX9_change 32 = .ok (.ifCond .ne 21, 3) := by decide +kernel
theorem dX9_change_35 : decode cX9_change 35 = .ok (.aload_n 0, 1) := by decide +kernel
theorem dX9_change_36 : decode cX9_change 36 = .ok (.iload_n 2, 1) := by decide +kernel
theorem dX9_change_37 : decode cX9_change 37 = .ok (.invokevirtual 105, 3) := by decide +kernel
theorem dX9_change_40 : decode cX9_change 40 = .ok (.ifCond .eq 27, 3) := by decide +kernel
theorem dX9_change_43 : decode cX9_change 43 = .ok (.iload_n 3, 1) := by decide +kernel
theorem dX9_change_44 : decode cX9_change 44 = .ok (.invokestatic 95, 3) := by decide +kernel
theorem dX9_change_47 : decode cX9_change 47 = .ok (.ifCond .ne 22, 3) := by decide +kernel
theorem dX9_change_50 : decode cX9_change 50 = .ok (.goto 17, 3) := by decide +kernel
theorem dX9_change_53 : decode cX9_change 53 = .ok (.iload_n 2, 1) := by decide +kernel
theorem dX9_change_54 : decode cX9_change 54 = .ok (.iconst 0, 1) := by decide +kernel
theorem dX9_change_55 : decode cX9_change 55 = .ok (.aload_n 0, 1) := by decide +kernel
theorem dX9_change_56 : decode cX9_change 56 = .ok (.getfield 108, 3) := by decide +kernel
theorem dX9_change_59 : decode cX9_change 59 = .ok (.iconst 1, 1) := by decide +kernel
theorem dX9_change_60 : decode cX9_change 60 = .ok (.isub, 1) := by decide +kernel
theorem dX9_change_61 : decode cX9_change 61 = .ok (.invokestatic 91, 3) := by decide +kernel
theorem dX9_change_64 : decode cX9_change 64 = .ok (.ifCond .ne 5, 3) := by decide +kernel
theorem dX9_change_67 : decode cX9_change 67 = .ok (.iconst (-1), 1) := by decide +kernel
theorem dX9_change_68 : decode cX9_change 68 = .ok (.ireturn, 1) := by decide +kernel
theorem dX9_change_69 : decode cX9_change 69 = .ok (.aload_n 0, 1) := by decide +kernel
theorem dX9_change_70 : decode cX9_change 70 = .ok (.getfield 45, 3) := by decide +kernel
theorem dX9_change_73 : decode cX9_change 73 = .ok (.aload_n 0, 1) := by decide +kernel
theorem dX9_change_74 : decode cX9_change 74 = .ok (.getfield 121, 3) := by decide +kernel
theorem dX9_change_77 : decode cX9_change 77 = .ok (.iload_n 1, 1) := by decide +kernel
theorem dX9_change_78 : decode cX9_change 78 = .ok (.iastore, 1) := by decide +kernel
theorem dX9_change_79 : decode cX9_change 79 = .ok (.aload_n 0, 1) := by decide +kernel
theorem dX9_change_80 : decode cX9_change 80 = .ok (.getfield 48, 3) := by decide +kernel
theorem dX9_change_83 : decode cX9_change 83 = .ok (.aload_n 0, 1) := by decide +kernel
theorem dX9_change_84 : decode cX9_change 84 = .ok (.getfield 121, 3) := by decide +kernel
theorem dX9_change_87 : decode cX9_change 87 = .ok (.iload_n 2, 1) := by decide +kernel
theorem dX9_change_88 : decode cX9_change 88 = .ok (.iastore, 1) := by decide +kernel
theorem dX9_change_89 : decode cX9_change 89 = .ok (.aload_n 0, 1) := by decide +kernel
theorem dX9_change_90 : decode cX9_change 90 = .ok (.getfield 51, 3) := by decide +kernel
theorem dX9_change_93 : decode cX9_change 93 = .ok (.aload_n 0, 1) := by decide +kernel
theorem dX9_change_94 : decode cX9_change 94 = .ok (.getfield 121, 3) := by decide +kernel
theorem dX9_change_97 : decode cX9_change 97 = .ok (.iload_n 3, 1) := by decide +kernel
theorem dX9_change_98 : decode cX9_change 98 = .ok (.iastore, 1) := by decide +kernel
theorem dX9_change_99 : decode cX9_change 99 = .ok (.aload_n 0, 1) := by decide +kernel
theorem dX9_change_100 : decode cX9_change 100 = .ok (.getfield 54, 3) := by decide +kernel
theorem dX9_change_103 : decode cX9_change 103 = .ok (.aload_n 0, 1) := by decide +kernel
theorem dX9_change_104 : decode cX9_change 104 = .ok (.getfield 121, 3) := by decide +kernel
theorem dX9_change_107 : decode cX9_change 107 = .ok (.iload 4, 2) := by decide +kernel
theorem dX9_change_109 : decode cX9_change 109 = .ok (.iastore, 1) := by decide +kernel
theorem dX9_change_110 : decode cX9_change 110 = .ok (.aload_n 0, 1) := by decide +kernel
theorem dX9_change_111 : decode cX9_change 111 = .ok (.dup, 1) := by decide +kernel
theorem dX9_change_112 : decode cX9_change 112 = .ok (.getfield 121, 3) := by decide +kernel
theorem dX9_change_115 : decode cX9_change 115 = .ok (.iconst 1, 1) := by decide +kernel
theorem dX9_change_116 : decode cX9_change 116 = .ok (.iadd, 1) := by decide +kernel
theorem dX9_change_117 : decode cX9_change 117 = .ok (.putfield 121, 3) := by decide +kernel
theorem dX9_change_120 : decode cX9_change 120 = .ok (.aload_n 0, 1) := by decide +kernel
theorem dX9_change_121 : decode cX9_change 121 = .ok (.getfield 121, 3) := by decide +kernel
theorem dX9_change_124 : decode cX9_change 124 = .ok (.iconst 1, 1) := by decide +kernel
theorem dX9_change_125 : decode cX9_change 125 = .ok (.isub, 1) := by decide +kernel
theorem dX9_change_126 : decode cX9_change 126 = .ok (.ireturn, 1) := by decide +kernel
theorem dX9_orders_0 : decode cX9_orders 0 = .ok (.iconst 0, 1) := by decide +kernel
theorem dX9_orders_1 : decode cX9_orders 1 = .ok (.istore_n 1, 1) := by decide +kernel
theorem dX9_orders_2 : decode cX9_orders 2 = .ok (.iload_n 1, 1) := by decide +kernel
theorem dX9_orders_3 : decode cX9_orders 3 = .ok (.bipush 24, 2) := by decide +kernel
theorem dX9_orders_5 : decode cX9_orders 5 = .ok (.if_icmp .ge 16, 3) := by decide +kernel
theorem dX9_orders_8 : decode cX9_orders 8 = .ok (.aload_n 0, 1) := by decide +kernel
theorem dX9_orders_9 : decode cX9_orders 9 = .ok (.getfield 72, 3) := by decide +kernel
theorem dX9_orders_12 : decode cX9_orders 12 = .ok (.iload_n 1, 1) := by decide +kernel
theorem dX9_orders_13 : decode cX9_orders 13 = .ok (.iconst 0, 1) := by decide +kernel
theorem dX9_orders_14 : decode cX9_orders 14 = .ok (.iastore, 1) := by decide +kernel
theorem dX9_orders_15 : decode cX9_orders 15 = .ok (.iinc 1 1, 3) := by decide +kernel
theorem dX9_orders_18 : decode cX9_orders 18 = .ok (.goto (-16), 3) := by decide +kernel
theorem dX9_orders_21 : decode cX9_orders 21 = .ok (.iconst 0, 1) := by decide +kernel
theorem dX9_orders_22 : decode cX9_orders 22 = .ok (.istore_n 1, 1) := by decide +kernel
theorem dX9_orders_23 : decode cX9_orders 23 = .ok (.iload_n 1, 1) := by decide +kernel
theorem dX9_orders_24 : decode cX9_orders 24 = .ok (.aload_n 0, 1) := by decide +kernel
theorem dX9_orders_25 : decode cX9_orders 25 = .ok (.getfield 87, 3) := by decide +kernel
theorem dX9_orders_28 : decode cX9_orders 28 = .ok (.if_icmp .ge 85, 3) := by decide +kernel
theorem dX9_orders_31 : decode cX9_orders 31 = .ok (.iconst 0, 1) := by decide +kernel
theorem dX9_orders_32 : decode cX9_orders 32 = .ok (.istore_n 2, 1) := by decide +kernel
theorem dX9_orders_33 : decode cX9_orders 33 = .ok (.iload_n 2, 1) := by decide +kernel
theorem dX9_orders_34 : decode cX9_orders 34 = .ok (.aload_n 0, 1) := by decide +kernel
theorem dX9_orders_35 : decode cX9_orders 35 = .ok (.getfield 108, 3) := by decide +kernel
theorem dX9_orders_38 : decode cX9_orders 38 = .ok (.if_icmp .ge 69, 3) := by decide +kernel
theorem dX9_orders_41 : decode cX9_orders 41 = .ok (.aload_n 0, 1) := by decide +kernel
theorem dX9_orders_42 : decode cX9_orders 42 = .ok (.getfield 60, 3) := by decide +kernel
theorem dX9_orders_45 : decode cX9_orders 45 = .ok (.iload_n 2, 1) := by decide +kernel
theorem dX9_orders_46 : decode cX9_orders 46 = .ok (.baload, 1) := by decide +kernel
theorem dX9_orders_47 : decode cX9_orders 47 = .ok (.ifCond .ne 54, 3) := by decide +kernel
theorem dX9_orders_50 : decode cX9_orders 50 = .ok (.aload_n 0, 1) := by decide +kernel
theorem dX9_orders_51 : decode cX9_orders 51 = .ok (.getfield 72, 3) := by decide +kernel
theorem dX9_orders_54 : decode cX9_orders 54 = .ok (.aload_n 0, 1) := by decide +kernel
theorem dX9_orders_55 : decode cX9_orders 55 = .ok (.getfield 35, 3) := by decide +kernel
theorem dX9_orders_58 : decode cX9_orders 58 = .ok (.iload_n 2, 1) := by decide +kernel
theorem dX9_orders_59 : decode cX9_orders 59 = .ok (.iaload, 1) := by decide +kernel
theorem dX9_orders_60 : decode cX9_orders 60 = .ok (.iaload, 1) := by decide +kernel
theorem dX9_orders_61 : decode cX9_orders 61 = .ok (.aload_n 0, 1) := by decide +kernel
theorem dX9_orders_62 : decode cX9_orders 62 = .ok (.getfield 72, 3) := by decide +kernel
theorem dX9_orders_65 : decode cX9_orders 65 = .ok (.aload_n 0, 1) := by decide +kernel
theorem dX9_orders_66 : decode cX9_orders 66 = .ok (.getfield 32, 3) := by decide +kernel
theorem dX9_orders_69 : decode cX9_orders 69 = .ok (.iload_n 2, 1) := by decide +kernel
theorem dX9_orders_70 : decode cX9_orders 70 = .ok (.iaload, 1) := by decide +kernel
theorem dX9_orders_71 : decode cX9_orders 71 = .ok (.iaload, 1) := by decide +kernel
theorem dX9_orders_72 : decode cX9_orders 72 = .ok (.iconst 1, 1) := by decide +kernel
theorem dX9_orders_73 : decode cX9_orders 73 = .ok (.iadd, 1) := by decide +kernel
theorem dX9_orders_74 : decode cX9_orders 74 = .ok (.if_icmp .ge 27, 3) := by decide +kernel
theorem dX9_orders_77 : decode cX9_orders 77 = .ok (.aload_n 0, 1) := by decide +kernel
theorem dX9_orders_78 : decode cX9_orders 78 = .ok (.getfield 72, 3) := by decide +kernel
theorem dX9_orders_81 : decode cX9_orders 81 = .ok (.aload_n 0, 1) := by decide +kernel
theorem dX9_orders_82 : decode cX9_orders 82 = .ok (.getfield 35, 3) := by decide +kernel
theorem dX9_orders_85 : decode cX9_orders 85 = .ok (.iload_n 2, 1) := by decide +kernel
theorem dX9_orders_86 : decode cX9_orders 86 = .ok (.iaload, 1) := by decide +kernel
theorem dX9_orders_87 : decode cX9_orders 87 = .ok (.aload_n 0, 1) := by decide +kernel
theorem dX9_orders_88 : decode cX9_orders 88 = .ok (.getfield 72, 3) := by decide +kernel
theorem dX9_orders_91 : decode cX9_orders 91 = .ok (.aload_n 0, 1) := by decide +kernel
theorem dX9_orders_92 : decode cX9_orders 92 = .ok (.getfield 32, 3) := by decide +kernel
theorem dX9_orders_95 : decode cX9_orders 95 = .ok (.iload_n 2, 1) := by decide +kernel
theorem dX9_orders_96 : decode cX9_orders 96 = .ok (.iaload, 1) := by decide +kernel
theorem dX9_orders_97 : decode cX9_orders 97 = .ok (.iaload, 1) := by decide +kernel
theorem dX9_orders_98 : decode cX9_orders 98 = .ok (.iconst 1, 1) := by decide +kernel
theorem dX9_orders_99 : decode cX9_orders 99 = .ok (.iadd, 1) := by decide +kernel
theorem dX9_orders_100 : decode cX9_orders 100 = .ok (.iastore, 1) := by decide +kernel
theorem dX9_orders_101 : decode cX9_orders 101 = .ok (.iinc 2 1, 3) := by decide +kernel
theorem dX9_orders_104 : decode cX9_orders 104 = .ok (.goto (-71), 3) := by decide +kernel
theorem dX9_orders_107 : decode cX9_orders 107 = .ok (.iinc 1 1, 3) := by decide +kernel
theorem dX9_orders_110 : decode cX9_orders 110 = .ok (.goto (-87), 3) := by decide +kernel
theorem dX9_orders_113 : decode cX9_orders 113 = .ok (.aload_n 0, 1) := by decide +kernel
theorem dX9_orders_114 : decode cX9_orders 114 = .ok (.iconst 0, 1) := by decide +kernel
theorem dX9_orders_115 : decode cX9_orders 115 = .ok (.putfield 125, 3) := by decide +kernel
theorem dX9_orders_118 : decode cX9_orders 118 = .ok (.iconst 0, 1) := by decide +kernel
theorem dX9_orders_119 : decode cX9_orders 119 = .ok (.istore_n 1, 1) := by decide +kernel
theorem dX9_orders_120 : decode cX9_orders 120 = .ok (.iload_n 1, 1) := by decide +kernel
theorem dX9_orders_121 : decode cX9_orders 121 = .ok (.bipush 24, 2) := by decide +kernel
theorem dX9_orders_123 : decode cX9_orders 123 = .ok (.if_icmp .ge 72, 3) := by decide +kernel
theorem dX9_orders_126 : decode cX9_orders 126 = .ok (.iconst 0, 1) := by decide +kernel
theorem dX9_orders_127 : decode cX9_orders 127 = .ok (.istore_n 2, 1) := by decide +kernel
theorem dX9_orders_128 : decode cX9_orders 128 = .ok (.iload_n 2, 1) := by decide +kernel
theorem dX9_orders_129 : decode cX9_orders 129 = .ok (.aload_n 0, 1) := by decide +kernel
theorem dX9_orders_130 : decode cX9_orders 130 = .ok (.getfield 108, 3) := by decide +kernel
theorem dX9_orders_133 : decode cX9_orders 133 = .ok (.if_icmp .ge 56, 3) := by decide +kernel
theorem dX9_orders_136 : decode cX9_orders 136 = .ok (.aload_n 0, 1) := by decide +kernel
theorem dX9_orders_137 : decode cX9_orders 137 = .ok (.getfield 60, 3) := by decide +kernel
theorem dX9_orders_140 : decode cX9_orders 140 = .ok (.iload_n 2, 1) := by decide +kernel
theorem dX9_orders_141 : decode cX9_orders 141 = .ok (.baload, 1) := by decide +kernel
theorem dX9_orders_142 : decode cX9_orders 142 = .ok (.ifCond .ne 41, 3) := by decide +kernel
theorem dX9_orders_145 : decode cX9_orders 145 = .ok (.aload_n 0, 1) := by decide +kernel
theorem dX9_orders_146 : decode cX9_orders 146 = .ok (.getfield 72, 3) := by decide +kernel
theorem dX9_orders_149 : decode cX9_orders 149 = .ok (.aload_n 0, 1) := by decide +kernel
theorem dX9_orders_150 : decode cX9_orders 150 = .ok (.getfield 32, 3) := by decide +kernel
theorem dX9_orders_153 : decode cX9_orders 153 = .ok (.iload_n 2, 1) := by decide +kernel
theorem dX9_orders_154 : decode cX9_orders 154 = .ok (.iaload, 1) := by decide +kernel
theorem dX9_orders_155 : decode cX9_orders 155 = .ok (.iaload, 1) := by decide +kernel
theorem dX9_orders_156 : decode cX9_orders 156 = .ok (.iload_n 1, 1) := by decide +kernel
theorem dX9_orders_157 : decode cX9_orders 157 = .ok (.if_icmp .eq 6, 3) := by decide +kernel
theorem dX9_orders_160 : decode cX9_orders 160 = .ok (.goto 23, 3) := by decide +kernel
theorem dX9_orders_163 : decode cX9_orders 163 = .ok (.aload_n 0, 1) := by decide +kernel
theorem dX9_orders_164 : decode cX9_orders 164 = .ok (.getfield 69, 3) := by decide +kernel
theorem dX9_orders_167 : decode cX9_orders 167 = .ok (.aload_n 0, 1) := by decide +kernel
theorem dX9_orders_168 : decode cX9_orders 168 = .ok (.getfield 125, 3) := by decide +kernel
theorem dX9_orders_171 : decode cX9_orders 171 = .ok (.iload_n 2, 1) := by decide +kernel
theorem dX9_orders_172 : decode cX9_orders 172 = .ok (.iastore, 1) := by decide +kernel
theorem dX9_orders_173 : decode cX9_orders 173 = .ok (.aload_n 0, 1) := by decide +kernel
theorem dX9_orders_174 : decode cX9_orders 174 = .ok (.dup, 1) := by decide +kernel
theorem dX9_orders_175 : decode cX9_orders 175 = .ok (.getfield 125, 3) := by decide +kernel
theorem dX9_orders_178 : decode cX9_orders 178 = .ok (.iconst 1, 1) := by decide +kernel
theorem dX9_orders_179 : decode cX9_orders 179 = .ok (.iadd, 1) := by decide +kernel
theorem dX9_orders_180 : decode cX9_orders 180 = .ok (.putfield 125, 3) := by decide +kernel
theorem dX9_orders_183 : decode cX9_orders 183 = .ok (.iinc 2 1, 3) := by decide +kernel
theorem dX9_orders_186 : decode cX9_orders 186 = .ok (.goto (-58), 3) := by decide +kernel
theorem dX9_orders_189 : decode cX9_orders 189 = .ok (.iinc 1 1, 3) := by decide +kernel
theorem dX9_orders_192 : decode cX9_orders 192 = .ok (.goto (-72), 3) := by decide +kernel
theorem dX9_orders_195 : decode cX9_orders 195 = .ok (.return_, 1) := by decide +kernel
theorem dX9_brings_0 : decode cX9_brings 0 = .ok (.aload_n 0, 1) := by decide +kernel
theorem dX9_brings_1 : decode cX9_brings 1 = .ok (.getfield 7, 3) := by decide +kernel
theorem dX9_brings_4 : decode cX9_brings 4 = .ok (.iconst 4, 1) := by decide +kernel
theorem dX9_brings_5 : decode cX9_brings 5 = .ok (.aload_n 0, 1) := by decide +kernel
theorem dX9_brings_6 : decode cX9_brings 6 = .ok (.getfield 63, 3) := by decide +kernel
theorem dX9_brings_9 : decode cX9_brings 9 = .ok (.iload_n 2, 1) := by decide +kernel
theorem dX9_brings_10 : decode cX9_brings 10 = .ok (.iaload, 1) := by decide +kernel
theorem dX9_brings_11 : decode cX9_brings 11 = .ok (.imul, 1) := by decide +kernel
theorem dX9_brings_12 : decode cX9_brings 12 = .ok (.iload_n 1, 1) := by decide +kernel
theorem dX9_brings_13 : decode cX9_brings 13 = .ok (.iadd, 1) := by decide +kernel
theorem dX9_brings_14 : decode cX9_brings 14 = .ok (.iaload, 1) := by decide +kernel
theorem dX9_brings_15 : decode cX9_brings 15 = .ok (.i2l, 1) := by decide +kernel
theorem dX9_brings_16 : decode cX9_brings 16 = .ok (.bipush 8, 2) := by decide +kernel
theorem dX9_brings_18 : decode cX9_brings 18 = .ok (.aload_n 0, 1) := by decide +kernel
theorem dX9_brings_19 : decode cX9_brings 19 = .ok (.getfield 63, 3) := by decide +kernel
theorem dX9_brings_22 : decode cX9_brings 22 = .ok (.iload_n 2, 1) := by decide +kernel
theorem dX9_brings_23 : decode cX9_brings 23 = .ok (.iaload, 1) := by decide +kernel
theorem dX9_brings_24 : decode cX9_brings 24 = .ok (.imul, 1) := by decide +kernel
theorem dX9_brings_25 : decode cX9_brings 25 = .ok (.lshl, 1) := by decide +kernel
theorem dX9_brings_26 : decode cX9_brings 26 = .ok (.aload_n 0, 1) := by decide +kernel
theorem dX9_brings_27 : decode cX9_brings 27 = .ok (.getfield 29, 3) := by decide +kernel
theorem dX9_brings_30 : decode cX9_brings 30 = .ok (.iload_n 2, 1) := by decide +kernel
theorem dX9_brings_31 : decode cX9_brings 31 = .ok (.laload, 1) := by decide +kernel
theorem dX9_brings_32 : decode cX9_brings 32 = .ok (.ldc2_w 103, 3) := by decide +kernel
theorem dX9_brings_35 : decode cX9_brings 35 = .ok (.lxor, 1) := by decide +kernel
theorem dX9_brings_36 : decode cX9_brings 36 = .ok (.land, 1) := by decide +kernel
theorem dX9_brings_37 : decode cX9_brings 37 = .ok (.lreturn, 1) := by decide +kernel
set_option maxRecDepth 20000 in
theorem ggX9_comes_X9_brings : GoodIn wsX9_comes wsX9_brings := goodIn_r _ [13, 14, 15, 16, 17, 18, 19, 20, 21, 22, 23, 24, 25, 26, 27, 28, 29, 30, 31, 32, 33, 34, 35, 36, 37, 38, 39, 40, 41, 42, 43, 44, 45, 46, 47] (by decide +kernel) (by decide +kernel)
set_option maxRecDepth 20000 in
theorem gX9_comes_X9_brings : GoodIn wsX9_comes (wsV RX9 128 RX9 yX9_brings wsX9_brings) := goodIn_app (goodIn_of _ (by decide +kernel)) ggX9_comes_X9_brings
theorem dX9_comes_0 : decode cX9_comes 0 = .ok (.iconst 0, 1) := by decide +kernel
theorem dX9_comes_1 : decode cX9_comes 1 = .ok (.istore_n 2, 1) := by decide +kernel
theorem dX9_comes_2 : decode cX9_comes 2 = .ok (.iload_n 2, 1) := by decide +kernel
theorem dX9_comes_3 : decode cX9_comes 3 = .ok (.aload_n 0, 1) := by decide +kernel
theorem dX9_comes_4 : decode cX9_comes 4 = .ok (.getfield 87, 3) := by decide +kernel
theorem dX9_comes_7 : decode cX9_comes 7 = .ok (.if_icmp .ge 21, 3) := by decide +kernel
theorem dX9_comes_10 : decode cX9_comes 10 = .ok (.aload_n 0, 1) := by decide +kernel
theorem dX9_comes_11 : decode cX9_comes 11 = .ok (.getfield 66, 3) := by decide +kernel
theorem dX9_comes_14 : decode cX9_comes 14 = .ok (.iload_n 2, 1) := by decide +kernel
theorem dX9_comes_15 : decode cX9_comes 15 = .ok (.aload_n 0, 1) := by decide +kernel
theorem dX9_comes_16 : decode cX9_comes 16 = .ok (.iload_n 1, 1) := by decide +kernel
theorem dX9_comes_17 : decode cX9_comes 17 = .ok (.iload_n 2, 1) := by decide +kernel
theorem dX9_comes_18 : decode cX9_comes 18 = .ok (.invokevirtual 128, 3) := by decide +kernel
theorem dX9_comes_21 : decode cX9_comes 21 = .ok (.lastore, 1) := by decide +kernel
theorem dX9_comes_22 : decode cX9_comes 22 = .ok (.iinc 2 1, 3) := by decide +kernel
theorem dX9_comes_25 : decode cX9_comes 25 = .ok (.goto (-23), 3) := by decide +kernel
theorem dX9_comes_28 : decode cX9_comes 28 = .ok (.iconst 0, 1) := by decide +kernel
theorem dX9_comes_29 : decode cX9_comes 29 = .ok (.istore_n 2, 1) := by decide +kernel
theorem dX9_comes_30 : decode cX9_comes 30 = .ok (.iload_n 2, 1) := by decide +kernel
theorem dX9_comes_31 : decode cX9_comes 31 = .ok (.aload_n 0, 1) := by decide +kernel
theorem dX9_comes_32 : decode cX9_comes 32 = .ok (.getfield 125, 3) := by decide +kernel
theorem dX9_comes_35 : decode cX9_comes 35 = .ok (.if_icmp .ge 53, 3) := by decide +kernel
theorem dX9_comes_38 : decode cX9_comes 38 = .ok (.aload_n 0, 1) := by decide +kernel
theorem dX9_comes_39 : decode cX9_comes 39 = .ok (.getfield 69, 3) := by decide +kernel
theorem dX9_comes_42 : decode cX9_comes 42 = .ok (.iload_n 2, 1) := by decide +kernel
theorem dX9_comes_43 : decode cX9_comes 43 = .ok (.iaload, 1) := by decide +kernel
theorem dX9_comes_44 : decode cX9_comes 44 = .ok (.istore_n 3, 1) := by decide +kernel
theorem dX9_comes_45 : decode cX9_comes 45 = .ok (.aload_n 0, 1) := by decide +kernel
theorem dX9_comes_46 : decode cX9_comes 46 = .ok (.getfield 66, 3) := by decide +kernel
theorem dX9_comes_49 : decode cX9_comes 49 = .ok (.aload_n 0, 1) := by decide +kernel
theorem dX9_comes_50 : decode cX9_comes 50 = .ok (.getfield 35, 3) := by decide +kernel
theorem dX9_comes_53 : decode cX9_comes 53 = .ok (.iload_n 3, 1) := by decide +kernel
theorem dX9_comes_54 : decode cX9_comes 54 = .ok (.iaload, 1) := by decide +kernel
theorem dX9_comes_55 : decode cX9_comes 55 = .ok (.dup2, 1) := by decide +kernel
theorem dX9_comes_56 : decode cX9_comes 56 = .ok (.laload, 1) := by decide +kernel
theorem dX9_comes_57 : decode cX9_comes 57 = .ok (.aload_n 0, 1) := by decide +kernel
theorem dX9_comes_58 : decode cX9_comes 58 = .ok (.getfield 66, 3) := by decide +kernel
theorem dX9_comes_61 : decode cX9_comes 61 = .ok (.aload_n 0, 1) := by decide +kernel
theorem dX9_comes_62 : decode cX9_comes 62 = .ok (.getfield 32, 3) := by decide +kernel
theorem dX9_comes_65 : decode cX9_comes 65 = .ok (.iload_n 3, 1) := by decide +kernel
theorem dX9_comes_66 : decode cX9_comes 66 = .ok (.iaload, 1) := by decide +kernel
theorem dX9_comes_67 : decode cX9_comes 67 = .ok (.laload, 1) := by decide +kernel
theorem dX9_comes_68 : decode cX9_comes 68 = .ok (.aload_n 0, 1) := by decide +kernel
theorem dX9_comes_69 : decode cX9_comes 69 = .ok (.getfield 13, 3) := by decide +kernel
theorem dX9_comes_72 : decode cX9_comes 72 = .ok (.aload_n 0, 1) := by decide +kernel
theorem dX9_comes_73 : decode cX9_comes 73 = .ok (.getfield 38, 3) := by decide +kernel
theorem dX9_comes_76 : decode cX9_comes 76 = .ok (.iload_n 3, 1) := by decide +kernel
theorem dX9_comes_77 : decode cX9_comes 77 = .ok (.iaload, 1) := by decide +kernel
theorem dX9_comes_78 : decode cX9_comes 78 = .ok (.laload, 1) := by decide +kernel
theorem dX9_comes_79 : decode cX9_comes 79 = .ok (.land, 1) := by decide +kernel
theorem dX9_comes_80 : decode cX9_comes 80 = .ok (.lor, 1) := by decide +kernel
theorem dX9_comes_81 : decode cX9_comes 81 = .ok (.lastore, 1) := by decide +kernel
theorem dX9_comes_82 : decode cX9_comes 82 = .ok (.iinc 2 1, 3) := by decide +kernel
theorem dX9_comes_85 : decode cX9_comes 85 = .ok (.goto (-55), 3) := by decide +kernel
theorem dX9_comes_88 : decode cX9_comes 88 = .ok (.return_, 1) := by decide +kernel
theorem dX9_bits_0 : decode cX9_bits 0 = .ok (.iconst 0, 1) := by decide +kernel
theorem dX9_bits_1 : decode cX9_bits 1 = .ok (.istore_n 2, 1) := by decide +kernel
theorem dX9_bits_2 : decode cX9_bits 2 = .ok (.lload_n 0, 1) := by decide +kernel
theorem dX9_bits_3 : decode cX9_bits 3 = .ok (.lstore_n 3, 1) := by decide +kernel
theorem dX9_bits_4 : decode cX9_bits 4 = .ok (.lload_n 3, 1) := by decide +kernel
theorem dX9_bits_5 : decode cX9_bits 5 = .ok (.lconst 0, 1) := by decide +kernel
theorem dX9_bits_6 : decode cX9_bits 6 = .ok (.lcmp, 1) := by decide +kernel
theorem dX9_bits_7 : decode cX9_bits 7 = .ok (.ifCond .eq 15, 3) := by decide +kernel
theorem dX9_bits_10 : decode cX9_bits 10 = .ok (.iinc 2 1, 3) := by decide +kernel
theorem dX9_bits_13 : decode cX9_bits 13 = .ok (.lload_n 3, 1) := by decide +kernel
theorem dX9_bits_14 : decode cX9_bits 14 = .ok (.lload_n 3, 1) := by decide +kernel
theorem dX9_bits_15 : decode cX9_bits 15 = .ok (.lconst 1, 1) := by decide +kernel
theorem dX9_bits_16 : decode cX9_bits 16 = .ok (.lsub, 1) := by decide +kernel
theorem dX9_bits_17 : decode cX9_bits 17 = .ok (.land, 1) := by decide +kernel
theorem dX9_bits_18 : decode cX9_bits 18 = .ok (.lstore_n 3, 1) := by decide +kernel
theorem dX9_bits_19 : decode cX9_bits 19 = .ok (.goto (-15), 3) := by decide +kernel
theorem dX9_bits_22 : decode cX9_bits 22 = .ok (.iload_n 2, 1) := by decide +kernel
theorem dX9_bits_23 : decode cX9_bits 23 = .ok (.ireturn, 1) := by decide +kernel
theorem dX9_bars__0 : decode cX9_bars_ 0 = .ok (.lconst 0, 1) := by decide +kernel
theorem dX9_bars__1 : decode cX9_bars_ 1 = .ok (.lstore_n 2, 1) := by decide +kernel
theorem dX9_bars__2 : decode cX9_bars_ 2 = .ok (.iconst 0, 1) := by decide +kernel
theorem dX9_bars__3 : decode cX9_bars_ 3 = .ok (.istore 4, 2) := by decide +kernel
theorem dX9_bars__5 : decode cX9_bars_ 5 = .ok (.iload 4, 2) := by decide +kernel
theorem dX9_bars__7 : decode cX9_bars_ 7 = .ok (.bipush 8, 2) := by decide +kernel
theorem dX9_bars__9 : decode cX9_bars_ 9 = .ok (.if_icmp .ge 31, 3) := by decide +kernel
theorem dX9_bars__12 : decode cX9_bars_ 12 = .ok (.iload 4, 2) := by decide +kernel
theorem dX9_bars__14 : decode cX9_bars_ 14 = .ok (.iload_n 1, 1) := by decide +kernel
theorem dX9_bars__15 : decode cX9_bars_ 15 = .ok (.if_icmp .eq 19, 3) := by decide +kernel
theorem dX9_bars__18 : decode cX9_bars_ 18 = .ok (.lload_n 2, 1) := by decide +kernel
theorem dX9_bars__19 : decode cX9_bars_ 19 = .ok (.aload_n 0, 1) := by decide +kernel
theorem dX9_bars__20 : decode cX9_bars_ 20 = .ok (.getfield 17, 3) := by decide +kernel
theorem dX9_bars__23 : decode cX9_bars_ 23 = .ok (.iload_n 1, 1) := by decide +kernel
theorem dX9_bars__24 : decode cX9_bars_ 24 = .ok (.iaload, 1) := by decide +kernel
theorem dX9_bars__25 : decode cX9_bars_ 25 = .ok (.i2l, 1) := by decide +kernel
theorem dX9_bars__26 : decode cX9_bars_ 26 = .ok (.bipush 8, 2) := by decide +kernel
theorem dX9_bars__28 : decode cX9_bars_ 28 = .ok (.iload 4, 2) := by decide +kernel
theorem dX9_bars__30 : decode cX9_bars_ 30 = .ok (.imul, 1) := by decide +kernel
theorem dX9_bars__31 : decode cX9_bars_ 31 = .ok (.lshl, 1) := by decide +kernel
theorem dX9_bars__32 : decode cX9_bars_ 32 = .ok (.lor, 1) := by decide +kernel
theorem dX9_bars__33 : decode cX9_bars_ 33 = .ok (.lstore_n 2, 1) := by decide +kernel
theorem dX9_bars__34 : decode cX9_bars_ 34 = .ok (.iinc 4 1, 3) := by decide +kernel
theorem dX9_bars__37 : decode cX9_bars_ 37 = .ok (.goto (-32), 3) := by decide +kernel
theorem dX9_bars__40 : decode cX9_bars_ 40 = .ok (.lload_n 2, 1) := by decide +kernel
theorem dX9_bars__41 : decode cX9_bars_ 41 = .ok (.lreturn, 1) := by decide +kernel
set_option maxRecDepth 20000 in
theorem ggX9_quarrelsNow_X9_bars_ : GoodIn wsX9_quarrelsNow wsX9_bars_ := goodIn_r _ [9, 10, 14, 15, 16, 17, 18, 19, 20, 21, 22, 23, 24, 25, 26, 27, 28, 29, 30, 31, 32, 33, 34, 35, 36, 37, 38, 39, 40, 41, 42, 43] (by decide +kernel) (by decide +kernel)
set_option maxRecDepth 20000 in
theorem gX9_quarrelsNow_X9_bars_ : GoodIn wsX9_quarrelsNow (wsV RX9 131 RX9 yX9_bars_ wsX9_bars_) := goodIn_app (goodIn_of _ (by decide +kernel)) ggX9_quarrelsNow_X9_bars_
set_option maxRecDepth 20000 in
theorem ggX9_quarrelsNow_X9_bits : GoodIn wsX9_quarrelsNow wsX9_bits := goodIn_r _ [13] (by decide +kernel) (by decide +kernel)
set_option maxRecDepth 20000 in
theorem gX9_quarrelsNow_X9_bits : GoodIn wsX9_quarrelsNow (va_wsS RX9 135 yX9_bits wsX9_bits) := goodIn_app (goodIn_of _ (by decide +kernel)) ggX9_quarrelsNow_X9_bits
theorem dX9_quarrelsNow_0 : decode cX9_quarrelsNow 0 = .ok (.iconst 0, 1) := by decide +kernel
theorem dX9_quarrelsNow_1 : decode cX9_quarrelsNow 1 = .ok (.istore_n 1, 1) := by decide +kernel
theorem dX9_quarrelsNow_2 : decode cX9_quarrelsNow 2 = .ok (.iconst 0, 1) := by decide +kernel
theorem dX9_quarrelsNow_3 : decode cX9_quarrelsNow 3 = .ok (.istore_n 2, 1) := by decide +kernel
theorem dX9_quarrelsNow_4 : decode cX9_quarrelsNow 4 = .ok (.iload_n 2, 1) := by decide +kernel
theorem dX9_quarrelsNow_5 : decode cX9_quarrelsNow 5 = .ok (.aload_n 0, 1) := by decide +kernel
theorem dX9_quarrelsNow_6 : decode cX9_quarrelsNow 6 = .ok (.getfield 87, 3) := by decide +kernel
theorem dX9_quarrelsNow_9 : decode cX9_quarrelsNow 9 = .ok (.if_icmp .ge 41, 3) := by decide +kernel
theorem dX9_quarrelsNow_12 : decode cX9_quarrelsNow 12 = .ok (.aload_n 0, 1) := by decide +kernel
theorem dX9_quarrelsNow_13 : decode cX9_quarrelsNow 13 = .ok (.getfield 57, 3) := by decide +kernel
theorem dX9_quarrelsNow_16 : decode cX9_quarrelsNow 16 = .ok (.iload_n 2, 1) := by decide +kernel
theorem dX9_quarrelsNow_17 : decode cX9_quarrelsNow 17 = .ok (.baload, 1) := by decide +kernel
theorem dX9_quarrelsNow_18 : decode cX9_quarrelsNow 18 = .ok (.ifCond .eq 26, 3) := by decide +kernel
theorem dX9_quarrelsNow_21 : decode cX9_quarrelsNow 21 = .ok (.iload_n 1, 1) := by decide +kernel
theorem dX9_quarrelsNow_22 : decode cX9_quarrelsNow 22 = .ok (.aload_n 0, 1) := by decide +kernel
theorem dX9_quarrelsNow_23 : decode cX9_quarrelsNow 23 = .ok (.getfield 66, 3) := by decide +kernel
theorem dX9_quarrelsNow_26 : decode cX9_quarrelsNow 26 = .ok (.iload_n 2, 1) := by decide +kernel
theorem dX9_quarrelsNow_27 : decode cX9_quarrelsNow 27 = .ok (.laload, 1) := by decide +kernel
theorem dX9_quarrelsNow_28 : decode cX9_quarrelsNow 28 = .ok (.aload_n 0, 1) := by decide +kernel
theorem dX9_quarrelsNow_29 : decode cX9_quarrelsNow 29 = .ok (.aload_n 0, 1) := by decide +kernel
theorem dX9_quarrelsNow_30 : decode cX9_quarrelsNow 30 = .ok (.getfield 63, 3) := by decide +kernel
theorem dX9_quarrelsNow_33 : decode cX9_quarrelsNow 33 = .ok (.iload_n 2, 1) := by decide +kernel
theorem dX9_quarrelsNow_34 : decode cX9_quarrelsNow 34 = .ok (.iaload, 1) := by decide +kernel
theorem dX9_quarrelsNow_35 : decode cX9_quarrelsNow 35 = .ok (.invokevirtual 131, 3) := by decide +kernel
theorem dX9_quarrelsNow_38 : decode cX9_quarrelsNow 38 = .ok (.land, 1) := by decide +kernel
theorem dX9_quarrelsNow_39 : decode cX9_quarrelsNow 39 = .ok (.invokestatic 135, 3) := by decide +kernel
theorem dX9_quarrelsNow_42 : decode cX9_quarrelsNow 42 = .ok (.iadd, 1) := by decide +kernel
theorem dX9_quarrelsNow_43 : decode cX9_quarrelsNow 43 = .ok (.istore_n 1, 1) := by decide +kernel
theorem dX9_quarrelsNow_44 : decode cX9_quarrelsNow 44 = .ok (.iinc 2 1, 3) := by decide +kernel
theorem dX9_quarrelsNow_47 : decode cX9_quarrelsNow 47 = .ok (.goto (-43), 3) := by decide +kernel
theorem dX9_quarrelsNow_50 : decode cX9_quarrelsNow 50 = .ok (.iload_n 1, 1) := by decide +kernel
theorem dX9_quarrelsNow_51 : decode cX9_quarrelsNow 51 = .ok (.ireturn, 1) := by decide +kernel
set_option maxRecDepth 20000 in
theorem ggX9_works_X9_asItIs : GoodIn wsX9_works wsX9_asItIs := goodIn_r _ [6, 7, 8, 9, 10, 11, 12, 13, 42, 43, 44, 45, 46, 47, 48, 49, 50, 51, 52, 53, 54, 55, 56, 57, 58, 59, 60, 61, 62, 63, 64, 65, 66, 67, 68, 69, 70, 71] (by decide +kernel) (by decide +kernel)
set_option maxRecDepth 20000 in
theorem gX9_works_X9_asItIs : GoodIn wsX9_works (wsV RX9 111 RX9 yX9_asItIs wsX9_asItIs) := goodIn_app (goodIn_of _ (by decide +kernel)) ggX9_works_X9_asItIs
set_option maxRecDepth 20000 in
theorem ggX9_works_X9_orders : GoodIn wsX9_works wsX9_orders := goodIn_r _ [17, 18, 10, 7, 8, 19, 20, 21, 22, 42, 43, 44, 45, 46, 47, 48, 49, 50, 51, 52, 53, 54, 55, 56, 57, 58, 59, 60, 61, 62, 63, 64, 65, 66, 67, 68, 69, 70, 71] (by decide +kernel) (by decide +kernel)
set_option maxRecDepth 20000 in
theorem gX9_works_X9_orders : GoodIn wsX9_works (wsV RX9 139 RX9 yX9_orders wsX9_orders) := goodIn_app (goodIn_of _ (by decide +kernel)) ggX9_works_X9_orders
set_option maxRecDepth 20000 in
theorem ggX9_works_X9_reaches : GoodIn wsX9_works wsX9_reaches := goodIn_r _ [26, 27, 7, 8, 19, 20, 42, 43, 44, 45, 46, 47, 48, 49, 50, 51, 52, 53, 54, 55, 56, 57, 58, 59, 60, 61, 62, 63, 64, 65, 66, 67, 68, 69, 70, 71] (by decide +kernel) (by decide +kernel)
set_option maxRecDepth 20000 in
theorem gX9_works_X9_reaches : GoodIn wsX9_works (wsV RX9 114 RX9 yX9_reaches wsX9_reaches) := goodIn_app (goodIn_of _ (by decide +kernel)) ggX9_works_X9_reaches
set_option maxRecDepth 20000 in
theorem ggX9_works_X9_comes : GoodIn wsX9_works wsX9_comes := goodIn_r _ [31, 10, 32, 21, 22, 19, 20, 33, 34, 35, 36, 37, 5, 38, 39, 11, 40, 41, 42, 43, 44, 45, 46, 47, 48, 49, 50, 51, 52, 53, 54, 55, 56, 57, 58, 59, 60, 61, 62, 63, 64, 65, 66, 67, 68, 69, 70, 71] (by decide +kernel) (by decide +kernel)
set_option maxRecDepth 20000 in
theorem gX9_works_X9_comes : GoodIn wsX9_works (wsV RX9 142 RX9 yX9_comes wsX9_comes) := goodIn_app (goodIn_of _ (by decide +kernel)) ggX9_works_X9_comes
theorem dX9_works_0 : decode cX9_works 0 = .ok (.aload_n 0, 1) := by decide +kernel
theorem dX9_works_1 : decode cX9_works 1 = .ok (.invokevirtual 111, 3) := by decide +kernel
theorem dX9_works_4 : decode cX9_works 4 = .ok (.aload_n 0, 1) := by decide +kernel
theorem dX9_works_5 : decode cX9_works 5 = .ok (.invokevirtual 139, 3) := by decide +kernel
theorem dX9_works_8 : decode cX9_works 8 = .ok (.aload_n 0, 1) := by decide +kernel
theorem dX9_works_9 : decode cX9_works 9 = .ok (.aload_n 0, 1) := by decide +kernel
theorem dX9_works_10 : decode cX9_works 10 = .ok (.getfield 118, 3) := by decide +kernel
theorem dX9_works_13 : decode cX9_works 13 = .ok (.invokevirtual 114, 3) := by decide +kernel
theorem dX9_works_16 : decode cX9_works 16 = .ok (.aload_n 0, 1) := by decide +kernel
theorem dX9_works_17 : decode cX9_works 17 = .ok (.iload_n 1, 1) := by decide +kernel
theorem dX9_works_18 : decode cX9_works 18 = .ok (.invokevirtual 142, 3) := by decide +kernel
theorem dX9_works_21 : decode cX9_works 21 = .ok (.return_, 1) := by decide +kernel
set_option maxRecDepth 20000 in
theorem ggX9_come_X9_isShipping : GoodIn wsX9_come wsX9_isShipping := goodIn_r _ [6, 7, 8, 5, 9] (by decide +kernel) (by decide +kernel)
set_option maxRecDepth 20000 in
theorem gX9_come_X9_isShipping : GoodIn wsX9_come (va_wsS RX9 145 yX9_isShipping wsX9_isShipping) := goodIn_app (goodIn_of _ (by decide +kernel)) ggX9_come_X9_isShipping
set_option maxRecDepth 20000 in
theorem ggX9_come_X9_isPart : GoodIn wsX9_come wsX9_isPart := goodIn_r _ [13, 14, 7, 8, 5, 9, 60, 61, 62, 63, 64, 65, 66, 67, 68, 69, 70, 71, 72, 73, 74, 75, 76, 77, 78, 79, 80, 81, 82, 83, 84, 85, 86, 87, 88, 89] (by decide +kernel) (by decide +kernel)
set_option maxRecDepth 20000 in
theorem gX9_come_X9_isPart : GoodIn wsX9_come (wsV RX9 105 RX9 yX9_isPart wsX9_isPart) := goodIn_app (goodIn_of _ (by decide +kernel)) ggX9_come_X9_isPart
set_option maxRecDepth 20000 in
theorem ggX9_come_X9_isLicence : GoodIn wsX9_come wsX9_isLicence := goodIn_r _ [17, 7, 8, 5, 9] (by decide +kernel) (by decide +kernel)
set_option maxRecDepth 20000 in
theorem gX9_come_X9_isLicence : GoodIn wsX9_come (va_wsS RX9 95 yX9_isLicence wsX9_isLicence) := goodIn_app (goodIn_of _ (by decide +kernel)) ggX9_come_X9_isLicence
set_option maxRecDepth 20000 in
theorem ggX9_come_X9_works : GoodIn wsX9_come wsX9_works := goodIn_r _ [21, 22, 23, 24, 25, 5, 26, 27, 28, 29, 14, 30, 31, 32, 33, 34, 35, 36, 37, 38, 39, 40, 41, 42, 43, 44, 45, 46, 47, 48, 49, 50, 1, 51, 52, 53, 54, 55, 56, 57, 58, 59, 60, 61, 62, 63, 64, 65, 66, 67, 68, 69, 70, 71, 72, 73, 74, 75, 76, 77, 78, 79, 80, 81, 82, 83, 84, 85, 86, 87, 88, 89] (by decide +kernel) (by decide +kernel)
set_option maxRecDepth 20000 in
theorem gX9_come_X9_works : GoodIn wsX9_come (wsV RX9 148 RX9 yX9_works wsX9_works) := goodIn_app (goodIn_of _ (by decide +kernel)) ggX9_come_X9_works
theorem dX9_come_0 : decode cX9_come 0 = .ok (.iload_n 1, 1) := by decide +kernel
theorem dX9_come_1 : decode cX9_come 1 = .ok (.invokestatic 145, 3) := by decide +kernel
theorem dX9_come_4 : decode cX9_come 4 = .ok (.ifCond .eq 18, 3) := by decide +kernel
theorem dX9_come_7 : decode cX9_come 7 = .ok (.aload_n 0, 1) := by decide +kernel
theorem dX9_come_8 : decode cX9_come 8 = .ok (.iload_n 2, 1) := by decide +kernel
theorem dX9_come_9 : decode cX9_come 9 = .ok (.invokevirtual 105, 3) := by decide +kernel
theorem dX9_come_12 : decode cX9_come 12 = .ok (.ifCond .eq 10, 3) := by decide +kernel
theorem dX9_come_15 : decode cX9_come 15 = .ok (.iload_n 3, 1) := by decide +kernel
theorem dX9_come_16 : decode cX9_come 16 = .ok (.invokestatic 95, 3) := by decide +kernel
theorem dX9_come_19 : decode cX9_come 19 = .ok (.ifCond .ne 5, 3) := by decide +kernel
theorem dX9_come_22 : decode cX9_come 22 = .ok (.iconst (-1), 1) := by decide +kernel
theorem dX9_come_23 : decode cX9_come 23 = .ok (.ireturn, 1) := by decide +kernel
theorem dX9_come_24 : decode cX9_come 24 = .ok (.aload_n 0, 1) := by decide +kernel
theorem dX9_come_25 : decode cX9_come 25 = .ok (.iload_n 1, 1) := by decide +kernel
theorem dX9_come_26 : decode cX9_come 26 = .ok (.invokevirtual 148, 3) := by decide +kernel
theorem dX9_come_29 : decode cX9_come 29 = .ok (.aload_n 0, 1) := by decide +kernel
theorem dX9_come_30 : decode cX9_come 30 = .ok (.getfield 66, 3) := by decide +kernel
theorem dX9_come_33 : decode cX9_come 33 = .ok (.iload_n 2, 1) := by decide +kernel
theorem dX9_come_34 : decode cX9_come 34 = .ok (.laload, 1) := by decide +kernel
theorem dX9_come_35 : decode cX9_come 35 = .ok (.bipush 8, 2) := by decide +kernel
theorem dX9_come_37 : decode cX9_come 37 = .ok (.iload_n 3, 1) := by decide +kernel
theorem dX9_come_38 : decode cX9_come 38 = .ok (.imul, 1) := by decide +kernel
theorem dX9_come_39 : decode cX9_come 39 = .ok (.lshr, 1) := by decide +kernel
theorem dX9_come_40 : decode cX9_come 40 = .ok (.ldc2_w 151, 3) := by decide +kernel
theorem dX9_come_43 : decode cX9_come 43 = .ok (.land, 1) := by decide +kernel
theorem dX9_come_44 : decode cX9_come 44 = .ok (.l2i, 1) := by decide +kernel
theorem dX9_come_45 : decode cX9_come 45 = .ok (.ireturn, 1) := by decide +kernel
set_option maxRecDepth 20000 in
theorem ggX9_quarrels_X9_isShipping : GoodIn wsX9_quarrels wsX9_isShipping := goodIn_r _ [4, 5, 6, 3, 7] (by decide +kernel) (by decide +kernel)
set_option maxRecDepth 20000 in
theorem gX9_quarrels_X9_isShipping : GoodIn wsX9_quarrels (va_wsS RX9 145 yX9_isShipping wsX9_isShipping) := goodIn_app (goodIn_of _ (by decide +kernel)) ggX9_quarrels_X9_isShipping
set_option maxRecDepth 20000 in
theorem ggX9_quarrels_X9_works : GoodIn wsX9_quarrels wsX9_works := goodIn_r _ [11, 12, 13, 14, 15, 3, 16, 17, 18, 19, 20, 21, 22, 23, 24, 25, 26, 27, 28, 29, 30, 31, 32, 33, 34, 35, 36, 37, 38, 39, 40, 41, 42, 43, 44, 45, 46, 47, 48, 49, 50, 51, 64, 65, 66, 67, 68, 69, 70, 71, 72, 73, 74, 75, 76, 77, 78, 79, 80, 81, 82, 83, 84, 85, 86, 87, 88, 89, 90, 91, 92, 93] (by decide +kernel) (by decide +kernel)
set_option maxRecDepth 20000 in
theorem gX9_quarrels_X9_works : GoodIn wsX9_quarrels (wsV RX9 148 RX9 yX9_works wsX9_works) := goodIn_app (goodIn_of _ (by decide +kernel)) ggX9_quarrels_X9_works
set_option maxRecDepth 20000 in
theorem ggX9_quarrels_X9_quarrelsNow : GoodIn wsX9_quarrels wsX9_quarrelsNow := goodIn_r _ [55, 20, 37, 42, 21, 56, 57, 58, 3, 59, 60, 61, 62, 63, 64, 65, 66, 67, 68, 69, 70, 71, 72, 73, 74, 75, 76, 77, 78, 79, 80, 81, 82, 83, 84, 85, 86, 87, 88, 89, 90, 91, 92, 93] (by decide +kernel) (by decide +kernel)
set_option maxRecDepth 20000 in
theorem gX9_quarrels_X9_quarrelsNow : GoodIn wsX9_quarrels (wsV RX9 153 RX9 yX9_quarrelsNow wsX9_quarrelsNow) := goodIn_app (goodIn_of _ (by decide +kernel)) ggX9_quarrels_X9_quarrelsNow
theorem dX9_quarrels_0 : decode cX9_quarrels 0 = .ok (.iload_n 1, 1) := by decide +kernel
theorem dX9_quarrels_1 : decode cX9_quarrels 1 = .ok (.invokestatic 145, 3) := by decide +kernel
theorem dX9_quarrels_4 : decode cX9_quarrels 4 = .ok (.ifCond .ne 5, 3) := by decide +kernel
theorem dX9_quarrels_7 : decode cX9_quarrels 7 = .ok (.iconst (-1), 1) := by decide +kernel
theorem dX9_quarrels_8 : decode cX9_quarrels 8 = .ok (.ireturn, 1) := by decide +kernel
theorem dX9_quarrels_9 : decode cX9_quarrels 9 = .ok (.aload_n 0, 1) := by decide +kernel
theorem dX9_quarrels_10 : decode cX9_quarrels 10 = .ok (.iload_n 1, 1) := by decide +kernel
theorem dX9_quarrels_11 : decode cX9_quarrels 11 = .ok (.invokevirtual 148, 3) := by decide +kernel
theorem dX9_quarrels_14 : decode cX9_quarrels 14 = .ok (.aload_n 0, 1) := by decide +kernel
theorem dX9_quarrels_15 : decode cX9_quarrels 15 = .ok (.invokevirtual 153, 3) := by decide +kernel
theorem dX9_quarrels_18 : decode cX9_quarrels 18 = .ok (.ireturn, 1) := by decide +kernel
set_option maxRecDepth 20000 in
theorem ggX9_quarrel_X9_isShipping : GoodIn wsX9_quarrel wsX9_isShipping := goodIn_r _ [8, 9, 10, 7, 11] (by decide +kernel) (by decide +kernel)
set_option maxRecDepth 20000 in
theorem gX9_quarrel_X9_isShipping : GoodIn wsX9_quarrel (va_wsS RX9 145 yX9_isShipping wsX9_isShipping) := goodIn_app (goodIn_of _ (by decide +kernel)) ggX9_quarrel_X9_isShipping
set_option maxRecDepth 20000 in
theorem ggX9_quarrel_X9_works : GoodIn wsX9_quarrel wsX9_works := goodIn_r _ [15, 16, 17, 18, 19, 7, 20, 21, 22, 23, 1, 4, 24, 25, 26, 27, 28, 29, 30, 31, 32, 33, 34, 35, 36, 37, 38, 2, 39, 40, 41, 42, 3, 43, 44, 45, 46, 47, 48, 49, 50, 51, 57, 58, 59, 60, 61, 62, 63, 64, 65, 66, 67, 68, 69, 70, 71, 72, 73, 74, 75, 76, 77, 78, 79, 80, 81, 82, 83, 84, 85, 86] (by decide +kernel) (by decide +kernel)
set_option maxRecDepth 20000 in
theorem gX9_quarrel_X9_works : GoodIn wsX9_quarrel (wsV RX9 148 RX9 yX9_works wsX9_works) := goodIn_app (goodIn_of _ (by decide +kernel)) ggX9_quarrel_X9_works
set_option maxRecDepth 20000 in
theorem ggX9_quarrel_X9_bars_ : GoodIn wsX9_quarrel wsX9_bars_ := goodIn_r _ [55, 56, 57, 58, 59, 60, 61, 62, 63, 64, 65, 66, 67, 68, 69, 70, 71, 72, 73, 74, 75, 76, 77, 78, 79, 80, 81, 82, 83, 84, 85, 86] (by decide +kernel) (by decide +kernel)
set_option maxRecDepth 20000 in
theorem gX9_quarrel_X9_bars_ : GoodIn wsX9_quarrel (wsV RX9 131 RX9 yX9_bars_ wsX9_bars_) := goodIn_app (goodIn_of _ (by decide +kernel)) ggX9_quarrel_X9_bars_
theorem dX9_quarrel_0 : decode cX9_quarrel 0 = .ok (.iload_n 1, 1) := by decide +kernel
theorem dX9_quarrel_1 : decode cX9_quarrel 1 = .ok (.invokestatic 145, 3) := by decide +kernel
theorem dX9_quarrel_4 : decode cX9_quarrel 4 = .ok (.ifCond .eq 7, 3) := by decide +kernel
theorem dX9_quarrel_7 : decode cX9_quarrel 7 = .ok (.iload_n 2, 1) := by decide +kernel
theorem dX9_quarrel_8 : decode cX9_quarrel 8 = .ok (.ifCond .ge 5, 3) := by decide +kernel
theorem dX9_quarrel_11 : decode cX9_quarrel 11 = .ok (.iconst (-1), 1) := by decide +kernel
theorem dX9_quarrel_12 : decode cX9_quarrel 12 = .ok (.ireturn, 1) := by decide +kernel
theorem dX9_quarrel_13 : decode cX9_quarrel 13 = .ok (.aload_n 0, 1) := by decide +kernel
theorem dX9_quarrel_14 : decode cX9_quarrel 14 = .ok (.iload_n 1, 1) := by decide +kernel
theorem dX9_quarrel_15 : decode cX9_quarrel 15 = .ok (.invokevirtual 148, 3) := by decide +kernel
theorem dX9_quarrel_18 : decode cX9_quarrel 18 = .ok (.iconst 0, 1) := by decide +kernel
theorem dX9_quarrel_19 : decode cX9_quarrel 19 = .ok (.istore_n 3, 1) := by decide +kernel
theorem dX9_quarrel_20 : decode cX9_quarrel 20 = .ok (.iconst 0, 1) := by decide +kernel
theorem dX9_quarrel_21 : decode cX9_quarrel 21 = .ok (.istore 4, 2) := by decide +kernel
theorem dX9_quarrel_23 : decode cX9_quarrel 23 = .ok (.iload 4, 2) := by decide +kernel
theorem dX9_quarrel_25 : decode cX9_quarrel 25 = .ok (.aload_n 0, 1) := by decide +kernel
theorem dX9_quarrel_26 : decode cX9_quarrel 26 = .ok (.getfield 87, 3) := by decide +kernel
theorem dX9_quarrel_29 : decode cX9_quarrel 29 = .ok (.if_icmp .ge 92, 3) := by decide +kernel
theorem dX9_quarrel_32 : decode cX9_quarrel 32 = .ok (.aload_n 0, 1) := by decide +kernel
theorem dX9_quarrel_33 : decode cX9_quarrel 33 = .ok (.getfield 57, 3) := by decide +kernel
theorem dX9_quarrel_36 : decode cX9_quarrel 36 = .ok (.iload 4, 2) := by decide +kernel
theorem dX9_quarrel_38 : decode cX9_quarrel 38 = .ok (.baload, 1) := by decide +kernel
theorem dX9_quarrel_39 : decode cX9_quarrel 39 = .ok (.ifCond .eq 25, 3) := by decide +kernel
theorem dX9_quarrel_42 : decode cX9_quarrel 42 = .ok (.aload_n 0, 1) := by decide +kernel
theorem dX9_quarrel_43 : decode cX9_quarrel 43 = .ok (.getfield 66, 3) := by decide +kernel
theorem dX9_quarrel_46 : decode cX9_quarrel 46 = .ok (.iload 4, 2) := by decide +kernel
theorem dX9_quarrel_48 : decode cX9_quarrel 48 = .ok (.laload, 1) := by decide +kernel
theorem dX9_quarrel_49 : decode cX9_quarrel 49 = .ok (.aload_n 0, 1) := by decide +kernel
theorem dX9_quarrel_50 : decode cX9_quarrel 50 = .ok (.aload_n 0, 1) := by decide +kernel
theorem dX9_quarrel_51 : decode cX9_quarrel 51 = .ok (.getfield 63, 3) := by decide +kernel
theorem dX9_quarrel_54 : decode cX9_quarrel 54 = .ok (.iload 4, 2) := by decide +kernel
theorem dX9_quarrel_56 : decode cX9_quarrel 56 = .ok (.iaload, 1) := by decide +kernel
theorem dX9_quarrel_57 : decode cX9_quarrel 57 = .ok (.invokevirtual 131, 3) := by decide +kernel
theorem dX9_quarrel_60 : decode cX9_quarrel 60 = .ok (.land, 1) := by decide +kernel
theorem dX9_quarrel_61 : decode cX9_quarrel 61 = .ok (.goto 4, 3) := by decide +kernel
theorem dX9_quarrel_64 : decode cX9_quarrel 64 = .ok (.lconst 0, 1) := by decide +kernel
theorem dX9_quarrel_65 : decode cX9_quarrel 65 = .ok (.lstore 5, 2) := by decide +kernel
theorem dX9_quarrel_67 : decode cX9_quarrel 67 = .ok (.iconst 0, 1) := by decide +kernel
theorem dX9_quarrel_68 : decode cX9_quarrel 68 = .ok (.istore 7, 2) := by decide +kernel
theorem dX9_quarrel_70 : decode cX9_quarrel 70 = .ok (.iload 7, 2) := by decide +kernel
theorem dX9_quarrel_72 : decode cX9_quarrel 72 = .ok (.bipush 64, 2) := by decide +kernel
theorem dX9_quarrel_74 : decode cX9_quarrel 74 = .ok (.if_icmp .ge 41, 3) := by decide +kernel
theorem dX9_quarrel_77 : decode cX9_quarrel 77 = .ok (.lload 5, 2) := by decide +kernel
theorem dX9_quarrel_79 : decode cX9_quarrel 79 = .ok (.iload 7, 2) := by decide +kernel
theorem dX9_quarrel_81 : decode cX9_quarrel 81 = .ok (.lshr, 1) := by decide +kernel
theorem dX9_quarrel_82 : decode cX9_quarrel 82 = .ok (.lconst 1, 1) := by decide +kernel
theorem dX9_quarrel_83 : decode cX9_quarrel 83 = .ok (.land, 1) := by decide +kernel
theorem dX9_quarrel_84 : decode cX9_quarrel 84 = .ok (.lconst 0, 1) := by decide +kernel
theorem dX9_quarrel_85 : decode cX9_quarrel 85 = .ok (.lcmp, 1) := by decide +kernel
theorem dX9_quarrel_86 : decode cX9_quarrel 86 = .ok (.ifCond .ne 6, 3) := by decide +kernel
theorem dX9_quarrel_89 : decode cX9_quarrel 89 = .ok (.goto 20, 3) := by decide +kernel
theorem dX9_quarrel_92 : decode cX9_quarrel 92 = .ok (.iload_n 3, 1) := by decide +kernel
theorem dX9_quarrel_93 : decode cX9_quarrel 93 = .ok (.iload_n 2, 1) := by decide +kernel
theorem dX9_quarrel_94 : decode cX9_quarrel 94 = .ok (.if_icmp .ne 12, 3) := by decide +kernel
theorem dX9_quarrel_97 : decode cX9_quarrel 97 = .ok (.bipush 64, 2) := by decide +kernel
theorem dX9_quarrel_99 : decode cX9_quarrel 99 = .ok (.iload 4, 2) := by decide +kernel
theorem dX9_quarrel_101 : decode cX9_quarrel 101 = .ok (.imul, 1) := by decide +kernel
theorem dX9_quarrel_102 : decode cX9_quarrel 102 = .ok (.iload 7, 2) := by decide +kernel
theorem dX9_quarrel_104 : decode cX9_quarrel 104 = .ok (.iadd, 1) := by decide +kernel
theorem dX9_quarrel_105 : decode cX9_quarrel 105 = .ok (.ireturn, 1) := by decide +kernel
theorem dX9_quarrel_106 : decode cX9_quarrel 106 = .ok (.iinc 3 1, 3) := by decide +kernel
theorem dX9_quarrel_109 : decode cX9_quarrel 109 = .ok (.iinc 7 1, 3) := by decide +kernel
theorem dX9_quarrel_112 : decode cX9_quarrel 112 = .ok (.goto (-42), 3) := by decide +kernel
theorem dX9_quarrel_115 : decode cX9_quarrel 115 = .ok (.iinc 4 1, 3) := by decide +kernel
theorem dX9_quarrel_118 : decode cX9_quarrel 118 = .ok (.goto (-95), 3) := by decide +kernel
theorem dX9_quarrel_121 : decode cX9_quarrel 121 = .ok (.iconst (-1), 1) := by decide +kernel
theorem dX9_quarrel_122 : decode cX9_quarrel 122 = .ok (.ireturn, 1) := by decide +kernel
set_option maxRecDepth 20000 in
theorem ggX9_ways_X9_asItIs : GoodIn wsX9_ways wsX9_asItIs := goodIn_r _ [10, 11, 12, 13, 2, 14, 15, 16, 23, 24, 25, 26, 27, 28, 29, 30, 31, 32, 33, 34, 35, 36, 37, 38, 39, 40, 41, 42, 43, 44, 45, 46, 47, 48, 49, 50, 51, 52] (by decide +kernel) (by decide +kernel)
set_option maxRecDepth 20000 in
theorem gX9_ways_X9_asItIs : GoodIn wsX9_ways (wsV RX9 111 RX9 yX9_asItIs wsX9_asItIs) := goodIn_app (goodIn_of _ (by decide +kernel)) ggX9_ways_X9_asItIs
set_option maxRecDepth 20000 in
theorem ggX9_ways_X9_reaches : GoodIn wsX9_ways wsX9_reaches := goodIn_r _ [20, 3, 11, 12, 21, 22, 23, 24, 25, 26, 27, 28, 29, 30, 31, 32, 33, 34, 35, 36, 37, 38, 39, 40, 41, 42, 43, 44, 45, 46, 47, 48, 49, 50, 51, 52] (by decide +kernel) (by decide +kernel)
set_option maxRecDepth 20000 in
theorem gX9_ways_X9_reaches : GoodIn wsX9_ways (wsV RX9 114 RX9 yX9_reaches wsX9_reaches) := goodIn_app (goodIn_of _ (by decide +kernel)) ggX9_ways_X9_reaches
theorem dX9_ways_0 : decode cX9_ways 0 = .ok (.aload_n 0, 1) := by decide +kernel
theorem dX9_ways_1 : decode cX9_ways 1 = .ok (.invokevirtual 111, 3) := by decide +kernel
theorem dX9_ways_4 : decode cX9_ways 4 = .ok (.aload_n 0, 1) := by decide +kernel
theorem dX9_ways_5 : decode cX9_ways 5 = .ok (.aload_n 0, 1) := by decide +kernel
theorem dX9_ways_6 : decode cX9_ways 6 = .ok (.getfield 118, 3) := by decide +kernel
theorem dX9_ways_9 : decode cX9_ways 9 = .ok (.invokevirtual 114, 3) := by decide +kernel
theorem dX9_ways_12 : decode cX9_ways 12 = .ok (.lconst 1, 1) := by decide +kernel
theorem dX9_ways_13 : decode cX9_ways 13 = .ok (.lstore_n 1, 1) := by decide +kernel
theorem dX9_ways_14 : decode cX9_ways 14 = .ok (.iconst 0, 1) := by decide +kernel
theorem dX9_ways_15 : decode cX9_ways 15 = .ok (.istore_n 3, 1) := by decide +kernel
theorem dX9_ways_16 : decode cX9_ways 16 = .ok (.iload_n 3, 1) := by decide +kernel
theorem dX9_ways_17 : decode cX9_ways 17 = .ok (.aload_n 0, 1) := by decide +kernel
theorem dX9_ways_18 : decode cX9_ways 18 = .ok (.getfield 87, 3) := by decide +kernel
theorem dX9_ways_21 : decode cX9_ways 21 = .ok (.if_icmp .ge 40, 3) := by decide +kernel
theorem dX9_ways_24 : decode cX9_ways 24 = .ok (.aload_n 0, 1) := by decide +kernel
theorem dX9_ways_25 : decode cX9_ways 25 = .ok (.getfield 57, 3) := by decide +kernel
theorem dX9_ways_28 : decode cX9_ways 28 = .ok (.iload_n 3, 1) := by decide +kernel
theorem dX9_ways_29 : decode cX9_ways 29 = .ok (.baload, 1) := by decide +kernel
theorem dX9_ways_30 : decode cX9_ways 30 = .ok (.ifCond .eq 23, 3) := by decide +kernel
theorem dX9_ways_33 : decode cX9_ways 33 = .ok (.lload_n 1, 1) := by decide +kernel
theorem dX9_ways_34 : decode cX9_ways 34 = .ok (.ldc2_w 157, 3) := by decide +kernel
theorem dX9_ways_37 : decode cX9_ways 37 = .ok (.lcmp, 1) := by decide +kernel
theorem dX9_ways_38 : decode cX9_ways 38 = .ok (.ifCond .gt 15, 3) := by decide +kernel
theorem dX9_ways_41 : decode cX9_ways 41 = .ok (.lload_n 1, 1) := by decide +kernel
theorem dX9_ways_42 : decode cX9_ways 42 = .ok (.aload_n 0, 1) := by decide +kernel
theorem dX9_ways_43 : decode cX9_ways 43 = .ok (.getfield 23, 3) := by decide +kernel
theorem dX9_ways_46 : decode cX9_ways 46 = .ok (.iload_n 3, 1) := by decide +kernel
theorem dX9_ways_47 : decode cX9_ways 47 = .ok (.iaload, 1) := by decide +kernel
theorem dX9_ways_48 : decode cX9_ways 48 = .ok (.i2l, 1) := by decide +kernel
theorem dX9_ways_49 : decode cX9_ways 49 = .ok (.lmul, 1) := by decide +kernel
theorem dX9_ways_50 : decode cX9_ways 50 = .ok (.goto 4, 3) := by decide +kernel
theorem dX9_ways_53 : decode cX9_ways 53 = .ok (.lload_n 1, 1) := by decide +kernel
theorem dX9_ways_54 : decode cX9_ways 54 = .ok (.lstore_n 1, 1) := by decide +kernel
theorem dX9_ways_55 : decode cX9_ways 55 = .ok (.iinc 3 1, 3) := by decide +kernel
theorem dX9_ways_58 : decode cX9_ways 58 = .ok (.goto (-42), 3) := by decide +kernel
theorem dX9_ways_61 : decode cX9_ways 61 = .ok (.lload_n 1, 1) := by decide +kernel
theorem dX9_ways_62 : decode cX9_ways 62 = .ok (.ldc2_w 157, 3) := by decide +kernel
theorem dX9_ways_65 : decode cX9_ways 65 = .ok (.lcmp, 1) := by decide +kernel
theorem dX9_ways_66 : decode cX9_ways 66 = .ok (.ifCond .le 7, 3) := by decide +kernel
theorem dX9_ways_69 : decode cX9_ways 69 = .ok (.iconst (-1), 1) := by decide +kernel
theorem dX9_ways_70 : decode cX9_ways 70 = .ok (.goto 5, 3) := by decide +kernel
theorem dX9_ways_73 : decode cX9_ways 73 = .ok (.lload_n 1, 1) := by decide +kernel
theorem dX9_ways_74 : decode cX9_ways 74 = .ok (.l2i, 1) := by decide +kernel
theorem dX9_ways_75 : decode cX9_ways 75 = .ok (.ireturn, 1) := by decide +kernel
set_option maxRecDepth 20000 in
theorem ggX9_judge_X9_isShipping : GoodIn wsX9_judge wsX9_isShipping := goodIn_r _ [14, 15, 16, 13, 17] (by decide +kernel) (by decide +kernel)
set_option maxRecDepth 20000 in
theorem gX9_judge_X9_isShipping : GoodIn wsX9_judge (va_wsS RX9 145 yX9_isShipping wsX9_isShipping) := goodIn_app (goodIn_of _ (by decide +kernel)) ggX9_judge_X9_isShipping
set_option maxRecDepth 20000 in
theorem ggX9_judge_X9_ways : GoodIn wsX9_judge wsX9_ways := goodIn_r _ [21, 9, 1, 4, 22, 5, 23, 24, 25, 13, 26, 27, 28, 29, 6, 7, 3, 30, 31, 32, 33, 34, 35, 72, 73, 74, 75, 76, 77, 78, 79, 80, 81, 82, 83, 84, 85, 86, 87, 88, 89, 90, 91, 92, 93, 94, 95, 96, 97, 98, 99, 100, 101] (by decide +kernel) (by decide +kernel)
set_option maxRecDepth 20000 in
theorem gX9_judge_X9_ways : GoodIn wsX9_judge (wsV RX9 159 RX9 yX9_ways wsX9_ways) := goodIn_app (goodIn_of _ (by decide +kernel)) ggX9_judge_X9_ways
set_option maxRecDepth 20000 in
theorem ggX9_judge_X9_works : GoodIn wsX9_judge wsX9_works := goodIn_r _ [39, 9, 23, 24, 25, 13, 26, 27, 28, 29, 1, 6, 7, 3, 40, 41, 42, 43, 44, 34, 35, 45, 46, 30, 31, 32, 33, 4, 47, 48, 49, 50, 8, 51, 52, 53, 54, 55, 56, 57, 58, 59, 72, 73, 74, 75, 76, 77, 78, 79, 80, 81, 82, 83, 84, 85, 86, 87, 88, 89, 90, 91, 92, 93, 94, 95, 96, 97, 98, 99, 100, 101] (by decide +kernel) (by decide +kernel)
set_option maxRecDepth 20000 in
theorem gX9_judge_X9_works : GoodIn wsX9_judge (wsV RX9 148 RX9 yX9_works wsX9_works) := goodIn_app (goodIn_of _ (by decide +kernel)) ggX9_judge_X9_works
set_option maxRecDepth 20000 in
theorem ggX9_judge_X9_comes : GoodIn wsX9_judge wsX9_comes := goodIn_r _ [50, 1, 8, 45, 46, 34, 35, 51, 52, 53, 54, 55, 13, 56, 57, 6, 58, 59, 72, 73, 74, 75, 76, 77, 78, 79, 80, 81, 82, 83, 84, 85, 86, 87, 88, 89, 90, 91, 92, 93, 94, 95, 96, 97, 98, 99, 100, 101] (by decide +kernel) (by decide +kernel)
set_option maxRecDepth 20000 in
theorem gX9_judge_X9_comes : GoodIn wsX9_judge (wsV RX9 142 RX9 yX9_comes wsX9_comes) := goodIn_app (goodIn_of _ (by decide +kernel)) ggX9_judge_X9_comes
set_option maxRecDepth 20000 in
theorem ggX9_judge_X9_quarrelsNow : GoodIn wsX9_judge wsX9_quarrelsNow := goodIn_r _ [63, 1, 4, 8, 6, 64, 65, 66, 13, 67, 68, 69, 70, 71, 72, 73, 74, 75, 76, 77, 78, 79, 80, 81, 82, 83, 84, 85, 86, 87, 88, 89, 90, 91, 92, 93, 94, 95, 96, 97, 98, 99, 100, 101] (by decide +kernel) (by decide +kernel)
set_option maxRecDepth 20000 in
theorem gX9_judge_X9_quarrelsNow : GoodIn wsX9_judge (wsV RX9 153 RX9 yX9_quarrelsNow wsX9_quarrelsNow) := goodIn_app (goodIn_of _ (by decide +kernel)) ggX9_judge_X9_quarrelsNow
set_option maxRecDepth 20000 in
theorem ggX9_judge_X9_bits : GoodIn wsX9_judge wsX9_bits := goodIn_r _ [71] (by decide +kernel) (by decide +kernel)
set_option maxRecDepth 20000 in
theorem gX9_judge_X9_bits : GoodIn wsX9_judge (va_wsS RX9 135 yX9_bits wsX9_bits) := goodIn_app (goodIn_of _ (by decide +kernel)) ggX9_judge_X9_bits
theorem dX9_judge_0 : decode cX9_judge 0 = .ok (.iload_n 1, 1) := by decide +kernel
theorem dX9_judge_1 : decode cX9_judge 1 = .ok (.invokestatic 145, 3) := by decide +kernel
theorem dX9_judge_4 : decode cX9_judge 4 = .ok (.ifCond .eq 10, 3) := by decide +kernel
theorem dX9_judge_7 : decode cX9_judge 7 = .ok (.aload_n 0, 1) := by decide +kernel
theorem dX9_judge_8 : decode cX9_judge 8 = .ok (.getfield 87, 3) := by decide +kernel
theorem dX9_judge_11 : decode cX9_judge 11 = .ok (.ifCond .ne 5, 3) := by decide +kernel
theorem dX9_judge_14 : decode cX9_judge 14 = .ok (.iconst (-1), 1) := by decide +kernel
theorem dX9_judge_15 : decode cX9_judge 15 = .ok (.ireturn, 1) := by decide +kernel
theorem dX9_judge_16 : decode cX9_judge 16 = .ok (.aload_n 0, 1) := by decide +kernel
theorem dX9_judge_17 : decode cX9_judge 17 = .ok (.invokevirtual 159, 3) := by decide +kernel
theorem dX9_judge_20 : decode cX9_judge 20 = .ok (.istore_n 2, 1) := by decide +kernel
theorem dX9_judge_21 : decode cX9_judge 21 = .ok (.iload_n 2, 1) := by decide +kernel
theorem dX9_judge_22 : decode cX9_judge 22 = .ok (.iconst (-1), 1) := by decide +kernel
theorem dX9_judge_23 : decode cX9_judge 23 = .ok (.if_icmp .ne 5, 3) := by decide +kernel
theorem dX9_judge_26 : decode cX9_judge 26 = .ok (.iconst (-1), 1) := by decide +kernel
theorem dX9_judge_27 : decode cX9_judge 27 = .ok (.ireturn, 1) := by decide +kernel
theorem dX9_judge_28 : decode cX9_judge 28 = .ok (.aload_n 0, 1) := by decide +kernel
theorem dX9_judge_29 : decode cX9_judge 29 = .ok (.iload_n 1, 1) := by decide +kernel
theorem dX9_judge_30 : decode cX9_judge 30 = .ok (.invokevirtual 148, 3) := by decide +kernel
theorem dX9_judge_33 : decode cX9_judge 33 = .ok (.iconst (-1), 1) := by decide +kernel
theorem dX9_judge_34 : decode cX9_judge 34 = .ok (.istore_n 3, 1) := by decide +kernel
theorem dX9_judge_35 : decode cX9_judge 35 = .ok (.iconst 0, 1) := by decide +kernel
theorem dX9_judge_36 : decode cX9_judge 36 = .ok (.istore 4, 2) := by decide +kernel
theorem dX9_judge_38 : decode cX9_judge 38 = .ok (.iconst 0, 1) := by decide +kernel
theorem dX9_judge_39 : decode cX9_judge 39 = .ok (.istore 5, 2) := by decide +kernel
theorem dX9_judge_41 : decode cX9_judge 41 = .ok (.iload 5, 2) := by decide +kernel
theorem dX9_judge_43 : decode cX9_judge 43 = .ok (.iload_n 2, 1) := by decide +kernel
theorem dX9_judge_44 : decode cX9_judge 44 = .ok (.if_icmp .ge 203, 3) := by decide +kernel
theorem dX9_judge_47 : decode cX9_judge 47 = .ok (.iload 5, 2) := by decide +kernel
theorem dX9_judge_49 : decode cX9_judge 49 = .ok (.istore 6, 2) := by decide +kernel
theorem dX9_judge_51 : decode cX9_judge 51 = .ok (.aload_n 0, 1) := by decide +kernel
theorem dX9_judge_52 : decode cX9_judge 52 = .ok (.getfield 87, 3) := by decide +kernel
theorem dX9_judge_55 : decode cX9_judge 55 = .ok (.iconst 1, 1) := by decide +kernel
theorem dX9_judge_56 : decode cX9_judge 56 = .ok (.isub, 1) := by decide +kernel
theorem dX9_judge_57 : decode cX9_judge 57 = .ok (.istore 7, 2) := by decide +kernel
theorem dX9_judge_59 : decode cX9_judge 59 = .ok (.iload 7, 2) := by decide +kernel
theorem dX9_judge_61 : decode cX9_judge 61 = .ok (.ifCond .lt 89, 3) := by decide +kernel
theorem dX9_judge_64 : decode cX9_judge 64 = .ok (.aload_n 0, 1) := by decide +kernel
theorem dX9_judge_65 : decode cX9_judge 65 = .ok (.getfield 75, 3) := by decide +kernel
theorem dX9_judge_68 : decode cX9_judge 68 = .ok (.iload 7, 2) := by decide +kernel
theorem dX9_judge_70 : decode cX9_judge 70 = .ok (.aload_n 0, 1) := by decide +kernel
theorem dX9_judge_71 : decode cX9_judge 71 = .ok (.getfield 26, 3) := by decide +kernel
theorem dX9_judge_74 : decode cX9_judge 74 = .ok (.iload 7, 2) := by decide +kernel
theorem dX9_judge_76 : decode cX9_judge 76 = .ok (.iaload, 1) := by decide +kernel
theorem dX9_judge_77 : decode cX9_judge 77 = .ok (.iastore, 1) := by decide +kernel
theorem dX9_judge_78 : decode cX9_judge 78 = .ok (.aload_n 0, 1) := by decide +kernel
theorem dX9_judge_79 : decode cX9_judge 79 = .ok (.getfield 57, 3) := by decide +kernel
theorem dX9_judge_82 : decode cX9_judge 82 = .ok (.iload 7, 2) := by decide +kernel
theorem dX9_judge_84 : decode cX9_judge 84 = .ok (.baload, 1) := by decide +kernel
theorem dX9_judge_85 : decode cX9_judge 85 = .ok (.ifCond .ne 6, 3) := by decide +kernel
theorem dX9_judge_88 : decode cX9_judge 88 = .ok (.goto 56, 3) := by decide +kernel
theorem dX9_judge_91 : decode cX9_judge 91 = .ok (.aload_n 0, 1) := by decide +kernel
theorem dX9_judge_92 : decode cX9_judge 92 = .ok (.getfield 75, 3) := by decide +kernel
theorem dX9_judge_95 : decode cX9_judge 95 = .ok (.iload 7, 2) := by decide +kernel
theorem dX9_judge_97 : decode cX9_judge 97 = .ok (.iload 6, 2) := by decide +kernel
theorem dX9_judge_99 : decode cX9_judge 99 = .ok (.aload_n 0, 1) := by decide +kernel
theorem dX9_judge_100 : decode cX9_judge 100 = .ok (.getfield 23, 3) := by decide +kernel
theorem dX9_judge_103 : decode cX9_judge 103 = .ok (.iload 7, 2) := by decide +kernel
theorem dX9_judge_105 : decode cX9_judge 105 = .ok (.iaload, 1) := by decide +kernel
theorem dX9_judge_106 : decode cX9_judge 106 = .ok (.irem, 1) := by decide +kernel
theorem dX9_judge_107 : decode cX9_judge 107 = .ok (.iastore, 1) := by decide +kernel
theorem dX9_judge_108 : decode cX9_judge 108 = .ok (.iload 6, 2) := by decide +kernel
theorem dX9_judge_110 : decode cX9_judge 110 = .ok (.aload_n 0, 1) := by decide +kernel
theorem dX9_judge_111 : decode cX9_judge 111 = .ok (.getfield 23, 3) := by decide +kernel
theorem dX9_judge_114 : decode cX9_judge 114 = .ok (.iload 7, 2) := by decide +kernel
theorem dX9_judge_116 : decode cX9_judge 116 = .ok (.iaload, 1) := by decide +kernel
theorem dX9_judge_117 : decode cX9_judge 117 = .ok (.idiv, 1) := by decide +kernel
theorem dX9_judge_118 : decode cX9_judge 118 = .ok (.istore 6, 2) := by decide +kernel
theorem dX9_judge_120 : decode cX9_judge 120 = .ok (.aload_n 0, 1) := by decide +kernel
theorem dX9_judge_121 : decode cX9_judge 121 = .ok (.getfield 63, 3) := by decide +kernel
theorem dX9_judge_124 : decode cX9_judge 124 = .ok (.iload 7, 2) := by decide +kernel
theorem dX9_judge_126 : decode cX9_judge 126 = .ok (.aload_n 0, 1) := by decide +kernel
theorem dX9_judge_127 : decode cX9_judge 127 = .ok (.getfield 20, 3) := by decide +kernel
theorem dX9_judge_130 : decode cX9_judge 130 = .ok (.iconst 3, 1) := by decide +kernel
theorem dX9_judge_131 : decode cX9_judge 131 = .ok (.iload 7, 2) := by decide +kernel
theorem dX9_judge_133 : decode cX9_judge 133 = .ok (.imul, 1) := by decide +kernel
theorem dX9_judge_134 : decode cX9_judge 134 = .ok (.aload_n 0, 1) := by decide +kernel
theorem dX9_judge_135 : decode cX9_judge 135 = .ok (.getfield 75, 3) := by decide +kernel
theorem dX9_judge_138 : decode cX9_judge 138 = .ok (.iload 7, 2) := by decide +kernel
theorem dX9_judge_140 : decode cX9_judge 140 = .ok (.iaload, 1) := by decide +kernel
theorem dX9_judge_141 : decode cX9_judge 141 = .ok (.iadd, 1) := by decide +kernel
theorem dX9_judge_142 : decode cX9_judge 142 = .ok (.iaload, 1) := by decide +kernel
theorem dX9_judge_143 : decode cX9_judge 143 = .ok (.iastore, 1) := by decide +kernel
theorem dX9_judge_144 : decode cX9_judge 144 = .ok (.iinc 7 (-1), 3) := by decide +kernel
theorem dX9_judge_147 : decode cX9_judge 147 = .ok (.goto (-88), 3) := by decide +kernel
theorem dX9_judge_150 : decode cX9_judge 150 = .ok (.aload_n 0, 1) := by decide +kernel
theorem dX9_judge_151 : decode cX9_judge 151 = .ok (.iload_n 1, 1) := by decide +kernel
theorem dX9_judge_152 : decode cX9_judge 152 = .ok (.invokevirtual 142, 3) := by decide +kernel
theorem dX9_judge_155 : decode cX9_judge 155 = .ok (.aload_n 0, 1) := by decide +kernel
theorem dX9_judge_156 : decode cX9_judge 156 = .ok (.invokevirtual 153, 3) := by decide +kernel
theorem dX9_judge_159 : decode cX9_judge 159 = .ok (.istore 7, 2) := by decide +kernel
theorem dX9_judge_161 : decode cX9_judge 161 = .ok (.aload_n 0, 1) := by decide +kernel
theorem dX9_judge_162 : decode cX9_judge 162 = .ok (.getfield 66, 3) := by decide +kernel
theorem dX9_judge_165 : decode cX9_judge 165 = .ok (.aload_n 0, 1) := by decide +kernel
theorem dX9_judge_166 : decode cX9_judge 166 = .ok (.getfield 118, 3) := by decide +kernel
theorem dX9_judge_169 : decode cX9_judge 169 = .ok (.laload, 1) := by decide +kernel
theorem dX9_judge_170 : decode cX9_judge 170 = .ok (.invokestatic 135, 3) := by decide +kernel
theorem dX9_judge_173 : decode cX9_judge 173 = .ok (.istore 8, 2) := by decide +kernel
theorem dX9_judge_175 : decode cX9_judge 175 = .ok (.iload_n 3, 1) := by decide +kernel
theorem dX9_judge_176 : decode cX9_judge 176 = .ok (.iconst (-1), 1) := by decide +kernel
theorem dX9_judge_177 : decode cX9_judge 177 = .ok (.if_icmp .eq 25, 3) := by decide +kernel
theorem dX9_judge_180 : decode cX9_judge 180 = .ok (.iload 7, 2) := by decide +kernel
theorem dX9_judge_182 : decode cX9_judge 182 = .ok (.iload_n 3, 1) := by decide +kernel
theorem dX9_judge_183 : decode cX9_judge 183 = .ok (.if_icmp .gt 58, 3) := by decide +kernel
theorem dX9_judge_186 : decode cX9_judge 186 = .ok (.iload 7, 2) := by decide +kernel
theorem dX9_judge_188 : decode cX9_judge 188 = .ok (.iload_n 3, 1) := by decide +kernel
theorem dX9_judge_189 : decode cX9_judge 189 = .ok (.if_icmp .ne 13, 3) := by decide +kernel
theorem dX9_judge_192 : decode cX9_judge 192 = .ok (.iload 8, 2) := by decide +kernel
theorem dX9_judge_194 : decode cX9_judge 194 = .ok (.iload 4, 2) := by decide +kernel
theorem dX9_judge_196 : decode cX9_judge 196 = .ok (.if_icmp .lt 6, 3) := by decide +kernel
theorem dX9_judge_199 : decode cX9_judge 199 = .ok (.goto 42, 3) := by decide +kernel
theorem dX9_judge_202 : decode cX9_judge 202 = .ok (.iload 7, 2) := by decide +kernel
theorem dX9_judge_204 : decode cX9_judge 204 = .ok (.istore_n 3, 1) := by decide +kernel
theorem dX9_judge_205 : decode cX9_judge 205 = .ok (.iload 8, 2) := by decide +kernel
theorem dX9_judge_207 : decode cX9_judge 207 = .ok (.istore 4, 2) := by decide +kernel
theorem dX9_judge_209 : decode cX9_judge 209 = .ok (.iconst 0, 1) := by decide +kernel
theorem dX9_judge_210 : decode cX9_judge 210 = .ok (.istore 9, 2) := by decide +kernel
theorem dX9_judge_212 : decode cX9_judge 212 = .ok (.iload 9, 2) := by decide +kernel
theorem dX9_judge_214 : decode cX9_judge 214 = .ok (.aload_n 0, 1) := by decide +kernel
theorem dX9_judge_215 : decode cX9_judge 215 = .ok (.getfield 87, 3) := by decide +kernel
theorem dX9_judge_218 : decode cX9_judge 218 = .ok (.if_icmp .ge 23, 3) := by decide +kernel
theorem dX9_judge_221 : decode cX9_judge 221 = .ok (.aload_n 0, 1) := by decide +kernel
theorem dX9_judge_222 : decode cX9_judge 222 = .ok (.getfield 78, 3) := by decide +kernel
theorem dX9_judge_225 : decode cX9_judge 225 = .ok (.iload 9, 2) := by decide +kernel
theorem dX9_judge_227 : decode cX9_judge 227 = .ok (.aload_n 0, 1) := by decide +kernel
theorem dX9_judge_228 : decode cX9_judge 228 = .ok (.getfield 75, 3) := by decide +kernel
theorem dX9_judge_231 : decode cX9_judge 231 = .ok (.iload 9, 2) := by decide +kernel
theorem dX9_judge_233 : decode cX9_judge 233 = .ok (.iaload, 1) := by decide +kernel
theorem dX9_judge_234 : decode cX9_judge 234 = .ok (.iastore, 1) := by decide +kernel
theorem dX9_judge_235 : decode cX9_judge 235 = .ok (.iinc 9 1, 3) := by decide +kernel
theorem dX9_judge_238 : decode cX9_judge 238 = .ok (.goto (-26), 3) := by decide +kernel
theorem dX9_judge_241 : decode cX9_judge 241 = .ok (.iinc 5 1, 3) := by decide +kernel
theorem dX9_judge_244 : decode cX9_judge 244 = .ok (.goto (-203), 3) := by decide +kernel
theorem dX9_judge_247 : decode cX9_judge 247 = .ok (.iconst 0, 1) := by decide +kernel
theorem dX9_judge_248 : decode cX9_judge 248 = .ok (.istore 5, 2) := by decide +kernel
theorem dX9_judge_250 : decode cX9_judge 250 = .ok (.iload 5, 2) := by decide +kernel
theorem dX9_judge_252 : decode cX9_judge 252 = .ok (.aload_n 0, 1) := by decide +kernel
theorem dX9_judge_253 : decode cX9_judge 253 = .ok (.getfield 87, 3) := by decide +kernel
theorem dX9_judge_256 : decode cX9_judge 256 = .ok (.if_icmp .ge 23, 3) := by decide +kernel
theorem dX9_judge_259 : decode cX9_judge 259 = .ok (.aload_n 0, 1) := by decide +kernel
theorem dX9_judge_260 : decode cX9_judge 260 = .ok (.getfield 26, 3) := by decide +kernel
theorem dX9_judge_263 : decode cX9_judge 263 = .ok (.iload 5, 2) := by decide +kernel
theorem dX9_judge_265 : decode cX9_judge 265 = .ok (.aload_n 0, 1) := by decide +kernel
theorem dX9_judge_266 : decode cX9_judge 266 = .ok (.getfield 78, 3) := by decide +kernel
theorem dX9_judge_269 : decode cX9_judge 269 = .ok (.iload 5, 2) := by decide +kernel
theorem dX9_judge_271 : decode cX9_judge 271 = .ok (.iaload, 1) := by decide +kernel
theorem dX9_judge_272 : decode cX9_judge 272 = .ok (.iastore, 1) := by decide +kernel
theorem dX9_judge_273 : decode cX9_judge 273 = .ok (.iinc 5 1, 3) := by decide +kernel
theorem dX9_judge_276 : decode cX9_judge 276 = .ok (.goto (-26), 3) := by decide +kernel
theorem dX9_judge_279 : decode cX9_judge 279 = .ok (.iload_n 3, 1) := by decide +kernel
theorem dX9_judge_280 : decode cX9_judge 280 = .ok (.ireturn, 1) := by decide +kernel
theorem dX9_priceOf_0 : decode cX9_priceOf 0 = .ok (.iconst 0, 1) := by decide +kernel
theorem dX9_priceOf_1 : decode cX9_priceOf 1 = .ok (.istore_n 2, 1) := by decide +kernel
theorem dX9_priceOf_2 : decode cX9_priceOf 2 = .ok (.iconst 0, 1) := by decide +kernel
theorem dX9_priceOf_3 : decode cX9_priceOf 3 = .ok (.istore_n 3, 1) := by decide +kernel
theorem dX9_priceOf_4 : decode cX9_priceOf 4 = .ok (.iload_n 3, 1) := by decide +kernel
theorem dX9_priceOf_5 : decode cX9_priceOf 5 = .ok (.aload_n 0, 1) := by decide +kernel
theorem dX9_priceOf_6 : decode cX9_priceOf 6 = .ok (.getfield 121, 3) := by decide +kernel
theorem dX9_priceOf_9 : decode cX9_priceOf 9 = .ok (.if_icmp .ge 31, 3) := by decide +kernel
theorem dX9_priceOf_12 : decode cX9_priceOf 12 = .ok (.iload_n 2, 1) := by decide +kernel
theorem dX9_priceOf_13 : decode cX9_priceOf 13 = .ok (.iload_n 1, 1) := by decide +kernel
theorem dX9_priceOf_14 : decode cX9_priceOf 14 = .ok (.iload_n 3, 1) := by decide +kernel
theorem dX9_priceOf_15 : decode cX9_priceOf 15 = .ok (.ishr, 1) := by decide +kernel
theorem dX9_priceOf_16 : decode cX9_priceOf 16 = .ok (.iconst 1, 1) := by decide +kernel
theorem dX9_priceOf_17 : decode cX9_priceOf 17 = .ok (.iand, 1) := by decide +kernel
theorem dX9_priceOf_18 : decode cX9_priceOf 18 = .ok (.iconst 1, 1) := by decide +kernel
theorem dX9_priceOf_19 : decode cX9_priceOf 19 = .ok (.if_icmp .ne 12, 3) := by decide +kernel
theorem dX9_priceOf_22 : decode cX9_priceOf 22 = .ok (.aload_n 0, 1) := by decide +kernel
end
section
theorem dX9_priceOf_23 : decode cX9_priceOf 23 = .ok (.getfield 54, 3) := by decide +kernel
theorem dX9_priceOf_26 : decode cX9_priceOf 26 = .ok (.iload_n 3, 1) := by decide +kernel
theorem dX9_priceOf_27 : decode cX9_priceOf 27 = .ok (.iaload, 1) := by decide +kernel
theorem dX9_priceOf_28 : decode cX9_priceOf 28 = .ok (.goto 4, 3) := by decide +kernel
theorem dX9_priceOf_31 : decode cX9_priceOf 31 = .ok (.iconst 0, 1) := by decide +kernel
theorem dX9_priceOf_32 : decode cX9_priceOf 32 = .ok (.iadd, 1) := by decide +kernel
theorem dX9_priceOf_33 : decode cX9_priceOf 33 = .ok (.istore_n 2, 1) := by decide +kernel
theorem dX9_priceOf_34 : decode cX9_priceOf 34 = .ok (.iinc 3 1, 3) := by decide +kernel
theorem dX9_priceOf_37 : decode cX9_priceOf 37 = .ok (.goto (-33), 3) := by decide +kernel
theorem dX9_priceOf_40 : decode cX9_priceOf 40 = .ok (.iload_n 2, 1) := by decide +kernel
theorem dX9_priceOf_41 : decode cX9_priceOf 41 = .ok (.ireturn, 1) := by decide +kernel
set_option maxRecDepth 20000 in
theorem ggX9_price_X9_lies : GoodIn wsX9_price wsX9_lies := goodIn_r _ [5] (by decide +kernel) (by decide +kernel)
set_option maxRecDepth 20000 in
theorem gX9_price_X9_lies : GoodIn wsX9_price (va_wsS RX9 91 yX9_lies wsX9_lies) := goodIn_app (goodIn_of _ (by decide +kernel)) ggX9_price_X9_lies
set_option maxRecDepth 20000 in
theorem ggX9_price_X9_priceOf : GoodIn wsX9_price wsX9_priceOf := goodIn_r _ [9, 1, 10, 11, 12, 13, 14, 15, 16, 17, 18, 19, 20, 21, 22, 23, 24, 25, 26, 27, 28, 29, 30, 31, 32, 33, 34, 35, 36, 37, 38, 39, 40] (by decide +kernel) (by decide +kernel)
set_option maxRecDepth 20000 in
theorem gX9_price_X9_priceOf : GoodIn wsX9_price (wsV RX9 162 RX9 yX9_priceOf wsX9_priceOf) := goodIn_app (goodIn_of _ (by decide +kernel)) ggX9_price_X9_priceOf
theorem dX9_price_0 : decode cX9_price 0 = .ok (.iload_n 1, 1) := by decide +kernel
theorem dX9_price_1 : decode cX9_price 1 = .ok (.iconst 0, 1) := by decide +kernel
theorem dX9_price_2 : decode cX9_price 2 = .ok (.iconst 1, 1) := by decide +kernel
theorem dX9_price_3 : decode cX9_price 3 = .ok (.aload_n 0, 1) := by decide +kernel
theorem dX9_price_4 : decode cX9_price 4 = .ok (.getfield 121, 3) := by decide +kernel
theorem dX9_price_7 : decode cX9_price 7 = .ok (.ishl, 1) := by decide +kernel
theorem dX9_price_8 : decode cX9_price 8 = .ok (.iconst 1, 1) := by decide +kernel
theorem dX9_price_9 : decode cX9_price 9 = .ok (.isub, 1) := by decide +kernel
theorem dX9_price_10 : decode cX9_price 10 = .ok (.invokestatic 91, 3) := by decide +kernel
theorem dX9_price_13 : decode cX9_price 13 = .ok (.ifCond .eq 11, 3) := by decide +kernel
theorem dX9_price_16 : decode cX9_price 16 = .ok (.aload_n 0, 1) := by decide +kernel
theorem dX9_price_17 : decode cX9_price 17 = .ok (.iload_n 1, 1) := by decide +kernel
theorem dX9_price_18 : decode cX9_price 18 = .ok (.invokevirtual 162, 3) := by decide +kernel
theorem dX9_price_21 : decode cX9_price 21 = .ok (.goto 4, 3) := by decide +kernel
theorem dX9_price_24 : decode cX9_price 24 = .ok (.iconst (-1), 1) := by decide +kernel
theorem dX9_price_25 : decode cX9_price 25 = .ok (.ireturn, 1) := by decide +kernel
set_option maxRecDepth 20000 in
theorem ggX9_quarrelsWith_X9_asItIs : GoodIn wsX9_quarrelsWith wsX9_asItIs := goodIn_r _ [12, 13, 6, 14, 15, 3, 16, 17, 58, 59, 60, 61, 62, 63, 64, 65, 66, 67, 68, 69, 70, 71, 72, 73, 74, 75, 76, 77, 78, 79, 80, 81, 82, 83, 84, 85, 86, 87] (by decide +kernel) (by decide +kernel)
set_option maxRecDepth 20000 in
theorem gX9_quarrelsWith_X9_asItIs : GoodIn wsX9_quarrelsWith (wsV RX9 111 RX9 yX9_asItIs wsX9_asItIs) := goodIn_app (goodIn_of _ (by decide +kernel)) ggX9_quarrelsWith_X9_asItIs
set_option maxRecDepth 20000 in
theorem ggX9_quarrelsWith_X9_orders : GoodIn wsX9_quarrelsWith wsX9_orders := goodIn_r _ [21, 22, 15, 13, 6, 23, 24, 25, 26, 58, 59, 60, 61, 62, 63, 64, 65, 66, 67, 68, 69, 70, 71, 72, 73, 74, 75, 76, 77, 78, 79, 80, 81, 82, 83, 84, 85, 86, 87] (by decide +kernel) (by decide +kernel)
set_option maxRecDepth 20000 in
theorem gX9_quarrelsWith_X9_orders : GoodIn wsX9_quarrelsWith (wsV RX9 139 RX9 yX9_orders wsX9_orders) := goodIn_app (goodIn_of _ (by decide +kernel)) ggX9_quarrelsWith_X9_orders
set_option maxRecDepth 20000 in
theorem ggX9_quarrelsWith_X9_reaches : GoodIn wsX9_quarrelsWith wsX9_reaches := goodIn_r _ [30, 31, 13, 6, 23, 24, 58, 59, 60, 61, 62, 63, 64, 65, 66, 67, 68, 69, 70, 71, 72, 73, 74, 75, 76, 77, 78, 79, 80, 81, 82, 83, 84, 85, 86, 87] (by decide +kernel) (by decide +kernel)
set_option maxRecDepth 20000 in
theorem gX9_quarrelsWith_X9_reaches : GoodIn wsX9_quarrelsWith (wsV RX9 114 RX9 yX9_reaches wsX9_reaches) := goodIn_app (goodIn_of _ (by decide +kernel)) ggX9_quarrelsWith_X9_reaches
set_option maxRecDepth 20000 in
theorem ggX9_quarrelsWith_X9_comes : GoodIn wsX9_quarrelsWith wsX9_comes := goodIn_r _ [35, 15, 36, 25, 26, 23, 24, 37, 38, 39, 40, 41, 11, 42, 43, 3, 44, 45, 58, 59, 60, 61, 62, 63, 64, 65, 66, 67, 68, 69, 70, 71, 72, 73, 74, 75, 76, 77, 78, 79, 80, 81, 82, 83, 84, 85, 86, 87] (by decide +kernel) (by decide +kernel)
set_option maxRecDepth 20000 in
theorem gX9_quarrelsWith_X9_comes : GoodIn wsX9_quarrelsWith (wsV RX9 142 RX9 yX9_comes wsX9_comes) := goodIn_app (goodIn_of _ (by decide +kernel)) ggX9_quarrelsWith_X9_comes
set_option maxRecDepth 20000 in
theorem ggX9_quarrelsWith_X9_quarrelsNow : GoodIn wsX9_quarrelsWith wsX9_quarrelsNow := goodIn_r _ [49, 15, 31, 36, 3, 50, 51, 52, 11, 53, 54, 55, 56, 57, 58, 59, 60, 61, 62, 63, 64, 65, 66, 67, 68, 69, 70, 71, 72, 73, 74, 75, 76, 77, 78, 79, 80, 81, 82, 83, 84, 85, 86, 87] (by decide +kernel) (by decide +kernel)
set_option maxRecDepth 20000 in
theorem gX9_quarrelsWith_X9_quarrelsNow : GoodIn wsX9_quarrelsWith (wsV RX9 153 RX9 yX9_quarrelsNow wsX9_quarrelsNow) := goodIn_app (goodIn_of _ (by decide +kernel)) ggX9_quarrelsWith_X9_quarrelsNow
theorem dX9_quarrelsWith_0 : decode cX9_quarrelsWith 0 = .ok (.aload_n 0, 1) := by decide +kernel
theorem dX9_quarrelsWith_1 : decode cX9_quarrelsWith 1 = .ok (.invokevirtual 111, 3) := by decide +kernel
theorem dX9_quarrelsWith_4 : decode cX9_quarrelsWith 4 = .ok (.iconst 0, 1) := by decide +kernel
theorem dX9_quarrelsWith_5 : decode cX9_quarrelsWith 5 = .ok (.istore_n 3, 1) := by decide +kernel
theorem dX9_quarrelsWith_6 : decode cX9_quarrelsWith 6 = .ok (.iload_n 3, 1) := by decide +kernel
theorem dX9_quarrelsWith_7 : decode cX9_quarrelsWith 7 = .ok (.aload_n 0, 1) := by decide +kernel
theorem dX9_quarrelsWith_8 : decode cX9_quarrelsWith 8 = .ok (.getfield 121, 3) := by decide +kernel
theorem dX9_quarrelsWith_11 : decode cX9_quarrelsWith 11 = .ok (.if_icmp .ge 61, 3) := by decide +kernel
theorem dX9_quarrelsWith_14 : decode cX9_quarrelsWith 14 = .ok (.iload_n 2, 1) := by decide +kernel
theorem dX9_quarrelsWith_15 : decode cX9_quarrelsWith 15 = .ok (.iload_n 3, 1) := by decide +kernel
theorem dX9_quarrelsWith_16 : decode cX9_quarrelsWith 16 = .ok (.ishr, 1) := by decide +kernel
theorem dX9_quarrelsWith_17 : decode cX9_quarrelsWith 17 = .ok (.iconst 1, 1) := by decide +kernel
theorem dX9_quarrelsWith_18 : decode cX9_quarrelsWith 18 = .ok (.iand, 1) := by decide +kernel
theorem dX9_quarrelsWith_19 : decode cX9_quarrelsWith 19 = .ok (.ifCond .ne 6, 3) := by decide +kernel
theorem dX9_quarrelsWith_22 : decode cX9_quarrelsWith 22 = .ok (.goto 44, 3) := by decide +kernel
theorem dX9_quarrelsWith_25 : decode cX9_quarrelsWith 25 = .ok (.aload_n 0, 1) := by decide +kernel
theorem dX9_quarrelsWith_26 : decode cX9_quarrelsWith 26 = .ok (.getfield 45, 3) := by decide +kernel
theorem dX9_quarrelsWith_29 : decode cX9_quarrelsWith 29 = .ok (.iload_n 3, 1) := by decide +kernel
theorem dX9_quarrelsWith_30 : decode cX9_quarrelsWith 30 = .ok (.iaload, 1) := by decide +kernel
theorem dX9_quarrelsWith_31 : decode cX9_quarrelsWith 31 = .ok (.ifCond .ne 23, 3) := by decide +kernel
theorem dX9_quarrelsWith_34 : decode cX9_quarrelsWith 34 = .ok (.aload_n 0, 1) := by decide +kernel
theorem dX9_quarrelsWith_35 : decode cX9_quarrelsWith 35 = .ok (.getfield 63, 3) := by decide +kernel
theorem dX9_quarrelsWith_38 : decode cX9_quarrelsWith 38 = .ok (.aload_n 0, 1) := by decide +kernel
theorem dX9_quarrelsWith_39 : decode cX9_quarrelsWith 39 = .ok (.getfield 48, 3) := by decide +kernel
theorem dX9_quarrelsWith_42 : decode cX9_quarrelsWith 42 = .ok (.iload_n 3, 1) := by decide +kernel
theorem dX9_quarrelsWith_43 : decode cX9_quarrelsWith 43 = .ok (.iaload, 1) := by decide +kernel
theorem dX9_quarrelsWith_44 : decode cX9_quarrelsWith 44 = .ok (.aload_n 0, 1) := by decide +kernel
theorem dX9_quarrelsWith_45 : decode cX9_quarrelsWith 45 = .ok (.getfield 51, 3) := by decide +kernel
theorem dX9_quarrelsWith_48 : decode cX9_quarrelsWith 48 = .ok (.iload_n 3, 1) := by decide +kernel
theorem dX9_quarrelsWith_49 : decode cX9_quarrelsWith 49 = .ok (.iaload, 1) := by decide +kernel
theorem dX9_quarrelsWith_50 : decode cX9_quarrelsWith 50 = .ok (.iastore, 1) := by decide +kernel
theorem dX9_quarrelsWith_51 : decode cX9_quarrelsWith 51 = .ok (.goto 15, 3) := by decide +kernel
theorem dX9_quarrelsWith_54 : decode cX9_quarrelsWith 54 = .ok (.aload_n 0, 1) := by decide +kernel
theorem dX9_quarrelsWith_55 : decode cX9_quarrelsWith 55 = .ok (.getfield 60, 3) := by decide +kernel
theorem dX9_quarrelsWith_58 : decode cX9_quarrelsWith 58 = .ok (.aload_n 0, 1) := by decide +kernel
theorem dX9_quarrelsWith_59 : decode cX9_quarrelsWith 59 = .ok (.getfield 48, 3) := by decide +kernel
theorem dX9_quarrelsWith_62 : decode cX9_quarrelsWith 62 = .ok (.iload_n 3, 1) := by decide +kernel
theorem dX9_quarrelsWith_63 : decode cX9_quarrelsWith 63 = .ok (.iaload, 1) := by decide +kernel
theorem dX9_quarrelsWith_64 : decode cX9_quarrelsWith 64 = .ok (.iconst 1, 1) := by decide +kernel
theorem dX9_quarrelsWith_65 : decode cX9_quarrelsWith 65 = .ok (.bastore, 1) := by decide +kernel
theorem dX9_quarrelsWith_66 : decode cX9_quarrelsWith 66 = .ok (.iinc 3 1, 3) := by decide +kernel
theorem dX9_quarrelsWith_69 : decode cX9_quarrelsWith 69 = .ok (.goto (-63), 3) := by decide +kernel
theorem dX9_quarrelsWith_72 : decode cX9_quarrelsWith 72 = .ok (.aload_n 0, 1) := by decide +kernel
theorem dX9_quarrelsWith_73 : decode cX9_quarrelsWith 73 = .ok (.invokevirtual 139, 3) := by decide +kernel
theorem dX9_quarrelsWith_76 : decode cX9_quarrelsWith 76 = .ok (.aload_n 0, 1) := by decide +kernel
theorem dX9_quarrelsWith_77 : decode cX9_quarrelsWith 77 = .ok (.aload_n 0, 1) := by decide +kernel
theorem dX9_quarrelsWith_78 : decode cX9_quarrelsWith 78 = .ok (.getfield 118, 3) := by decide +kernel
theorem dX9_quarrelsWith_81 : decode cX9_quarrelsWith 81 = .ok (.invokevirtual 114, 3) := by decide +kernel
theorem dX9_quarrelsWith_84 : decode cX9_quarrelsWith 84 = .ok (.aload_n 0, 1) := by decide +kernel
theorem dX9_quarrelsWith_85 : decode cX9_quarrelsWith 85 = .ok (.iload_n 1, 1) := by decide +kernel
theorem dX9_quarrelsWith_86 : decode cX9_quarrelsWith 86 = .ok (.invokevirtual 142, 3) := by decide +kernel
theorem dX9_quarrelsWith_89 : decode cX9_quarrelsWith 89 = .ok (.aload_n 0, 1) := by decide +kernel
theorem dX9_quarrelsWith_90 : decode cX9_quarrelsWith 90 = .ok (.invokevirtual 153, 3) := by decide +kernel
theorem dX9_quarrelsWith_93 : decode cX9_quarrelsWith 93 = .ok (.ireturn, 1) := by decide +kernel
set_option maxRecDepth 20000 in
theorem ggX9_isAhead_X9_bits : GoodIn wsX9_isAhead wsX9_bits := goodIn_r _ [4] (by decide +kernel) (by decide +kernel)
set_option maxRecDepth 20000 in
theorem gX9_isAhead_X9_bits : GoodIn wsX9_isAhead (va_wsS RX9 135 yX9_bits wsX9_bits) := goodIn_app (goodIn_of _ (by decide +kernel)) ggX9_isAhead_X9_bits
theorem dX9_isAhead_0 : decode cX9_isAhead 0 = .ok (.iload_n 0, 1) := by decide +kernel
theorem dX9_isAhead_1 : decode cX9_isAhead 1 = .ok (.i2l, 1) := by decide +kernel
theorem dX9_isAhead_2 : decode cX9_isAhead 2 = .ok (.invokestatic 135, 3) := by decide +kernel
theorem dX9_isAhead_5 : decode cX9_isAhead 5 = .ok (.iload_n 1, 1) := by decide +kernel
theorem dX9_isAhead_6 : decode cX9_isAhead 6 = .ok (.i2l, 1) := by decide +kernel
theorem dX9_isAhead_7 : decode cX9_isAhead 7 = .ok (.invokestatic 135, 3) := by decide +kernel
theorem dX9_isAhead_10 : decode cX9_isAhead 10 = .ok (.if_icmp .eq 22, 3) := by decide +kernel
theorem dX9_isAhead_13 : decode cX9_isAhead 13 = .ok (.iload_n 0, 1) := by decide +kernel
theorem dX9_isAhead_14 : decode cX9_isAhead 14 = .ok (.i2l, 1) := by decide +kernel
theorem dX9_isAhead_15 : decode cX9_isAhead 15 = .ok (.invokestatic 135, 3) := by decide +kernel
theorem dX9_isAhead_18 : decode cX9_isAhead 18 = .ok (.iload_n 1, 1) := by decide +kernel
theorem dX9_isAhead_19 : decode cX9_isAhead 19 = .ok (.i2l, 1) := by decide +kernel
theorem dX9_isAhead_20 : decode cX9_isAhead 20 = .ok (.invokestatic 135, 3) := by decide +kernel
theorem dX9_isAhead_23 : decode cX9_isAhead 23 = .ok (.if_icmp .ge 7, 3) := by decide +kernel
theorem dX9_isAhead_26 : decode cX9_isAhead 26 = .ok (.iconst 1, 1) := by decide +kernel
theorem dX9_isAhead_27 : decode cX9_isAhead 27 = .ok (.goto 4, 3) := by decide +kernel
theorem dX9_isAhead_30 : decode cX9_isAhead 30 = .ok (.iconst 0, 1) := by decide +kernel
theorem dX9_isAhead_31 : decode cX9_isAhead 31 = .ok (.ireturn, 1) := by decide +kernel
theorem dX9_isAhead_32 : decode cX9_isAhead 32 = .ok (.iload_n 0, 1) := by decide +kernel
theorem dX9_isAhead_33 : decode cX9_isAhead 33 = .ok (.iload_n 1, 1) := by decide +kernel
theorem dX9_isAhead_34 : decode cX9_isAhead 34 = .ok (.ixor, 1) := by decide +kernel
theorem dX9_isAhead_35 : decode cX9_isAhead 35 = .ok (.iload_n 0, 1) := by decide +kernel
theorem dX9_isAhead_36 : decode cX9_isAhead 36 = .ok (.iload_n 1, 1) := by decide +kernel
theorem dX9_isAhead_37 : decode cX9_isAhead 37 = .ok (.ixor, 1) := by decide +kernel
theorem dX9_isAhead_38 : decode cX9_isAhead 38 = .ok (.ineg, 1) := by decide +kernel
theorem dX9_isAhead_39 : decode cX9_isAhead 39 = .ok (.iand, 1) := by decide +kernel
theorem dX9_isAhead_40 : decode cX9_isAhead 40 = .ok (.istore_n 2, 1) := by decide +kernel
theorem dX9_isAhead_41 : decode cX9_isAhead 41 = .ok (.iload_n 0, 1) := by decide +kernel
theorem dX9_isAhead_42 : decode cX9_isAhead 42 = .ok (.iload_n 2, 1) := by decide +kernel
theorem dX9_isAhead_43 : decode cX9_isAhead 43 = .ok (.iand, 1) := by decide +kernel
theorem dX9_isAhead_44 : decode cX9_isAhead 44 = .ok (.ifCond .eq 7, 3) := by decide +kernel
theorem dX9_isAhead_47 : decode cX9_isAhead 47 = .ok (.iconst 1, 1) := by decide +kernel
theorem dX9_isAhead_48 : decode cX9_isAhead 48 = .ok (.goto 4, 3) := by decide +kernel
theorem dX9_isAhead_51 : decode cX9_isAhead 51 = .ok (.iconst 0, 1) := by decide +kernel
theorem dX9_isAhead_52 : decode cX9_isAhead 52 = .ok (.ireturn, 1) := by decide +kernel
set_option maxRecDepth 20000 in
theorem ggX9_cheapest_X9_isShipping : GoodIn wsX9_cheapest wsX9_isShipping := goodIn_r _ [5, 6, 7, 4, 8] (by decide +kernel) (by decide +kernel)
set_option maxRecDepth 20000 in
theorem gX9_cheapest_X9_isShipping : GoodIn wsX9_cheapest (va_wsS RX9 145 yX9_isShipping wsX9_isShipping) := goodIn_app (goodIn_of _ (by decide +kernel)) ggX9_cheapest_X9_isShipping
set_option maxRecDepth 20000 in
theorem ggX9_cheapest_X9_priceOf : GoodIn wsX9_cheapest wsX9_priceOf := goodIn_r _ [12, 1, 13, 76, 77, 78, 79, 80, 81, 82, 83, 84, 85, 86, 87, 88, 89, 90, 91, 92, 93, 94, 95, 96, 97, 98, 99, 100, 101, 102, 103, 104, 105] (by decide +kernel) (by decide +kernel)
set_option maxRecDepth 20000 in
theorem gX9_cheapest_X9_priceOf : GoodIn wsX9_cheapest (wsV RX9 162 RX9 yX9_priceOf wsX9_priceOf) := goodIn_app (goodIn_of _ (by decide +kernel)) ggX9_cheapest_X9_priceOf
set_option maxRecDepth 20000 in
theorem ggX9_cheapest_X9_isAhead : GoodIn wsX9_cheapest wsX9_isAhead := goodIn_r _ [16, 17, 18, 4, 19] (by decide +kernel) (by decide +kernel)
set_option maxRecDepth 20000 in
theorem gX9_cheapest_X9_isAhead : GoodIn wsX9_cheapest (va_wsS RX9 166 yX9_isAhead wsX9_isAhead) := goodIn_app (goodIn_of _ (by decide +kernel)) ggX9_cheapest_X9_isAhead
set_option maxRecDepth 20000 in
theorem ggX9_cheapest_X9_quarrelsWith : GoodIn wsX9_cheapest wsX9_quarrelsWith := goodIn_r _ [23, 1, 24, 25, 26, 27, 28, 29, 30, 31, 32, 4, 33, 34, 35, 36, 37, 38, 39, 40, 41, 42, 43, 44, 45, 46, 47, 48, 49, 50, 51, 52, 53, 54, 55, 56, 57, 58, 59, 60, 61, 62, 63, 64, 65, 66, 67, 68, 69, 70, 71, 72, 73, 74, 75, 17, 18, 19, 76, 77, 78, 79, 80, 81, 82, 83, 84, 85, 86, 87, 88, 89, 90, 91, 92, 93, 94, 95, 96, 97, 98, 99, 100, 101, 102, 103, 104, 105] (by decide +kernel) (by decide +kernel)
set_option maxRecDepth 20000 in
theorem gX9_cheapest_X9_quarrelsWith : GoodIn wsX9_cheapest (wsV RX9 170 RX9 yX9_quarrelsWith wsX9_quarrelsWith) := goodIn_app (goodIn_of _ (by decide +kernel)) ggX9_cheapest_X9_quarrelsWith
theorem dX9_cheapest_0 : decode cX9_cheapest 0 = .ok (.iload_n 1, 1) := by decide +kernel
theorem dX9_cheapest_1 : decode cX9_cheapest 1 = .ok (.invokestatic 145, 3) := by decide +kernel
theorem dX9_cheapest_4 : decode cX9_cheapest 4 = .ok (.ifCond .ne 5, 3) := by decide +kernel
theorem dX9_cheapest_7 : decode cX9_cheapest 7 = .ok (.iconst (-1), 1) := by decide +kernel
theorem dX9_cheapest_8 : decode cX9_cheapest 8 = .ok (.ireturn, 1) := by decide +kernel
theorem dX9_cheapest_9 : decode cX9_cheapest 9 = .ok (.iconst (-1), 1) := by decide +kernel
theorem dX9_cheapest_10 : decode cX9_cheapest 10 = .ok (.istore_n 2, 1) := by decide +kernel
theorem dX9_cheapest_11 : decode cX9_cheapest 11 = .ok (.iconst 0, 1) := by decide +kernel
theorem dX9_cheapest_12 : decode cX9_cheapest 12 = .ok (.istore_n 3, 1) := by decide +kernel
theorem dX9_cheapest_13 : decode cX9_cheapest 13 = .ok (.iload_n 3, 1) := by decide +kernel
theorem dX9_cheapest_14 : decode cX9_cheapest 14 = .ok (.iconst 1, 1) := by decide +kernel
theorem dX9_cheapest_15 : decode cX9_cheapest 15 = .ok (.aload_n 0, 1) := by decide +kernel
theorem dX9_cheapest_16 : decode cX9_cheapest 16 = .ok (.getfield 121, 3) := by decide +kernel
theorem dX9_cheapest_19 : decode cX9_cheapest 19 = .ok (.ishl, 1) := by decide +kernel
theorem dX9_cheapest_20 : decode cX9_cheapest 20 = .ok (.if_icmp .ge 63, 3) := by decide +kernel
theorem dX9_cheapest_23 : decode cX9_cheapest 23 = .ok (.aload_n 0, 1) := by decide +kernel
theorem dX9_cheapest_24 : decode cX9_cheapest 24 = .ok (.iload_n 3, 1) := by decide +kernel
theorem dX9_cheapest_25 : decode cX9_cheapest 25 = .ok (.invokevirtual 162, 3) := by decide +kernel
theorem dX9_cheapest_28 : decode cX9_cheapest 28 = .ok (.istore 4, 2) := by decide +kernel
theorem dX9_cheapest_30 : decode cX9_cheapest 30 = .ok (.iload_n 2, 1) := by decide +kernel
theorem dX9_cheapest_31 : decode cX9_cheapest 31 = .ok (.iconst (-1), 1) := by decide +kernel
theorem dX9_cheapest_32 : decode cX9_cheapest 32 = .ok (.if_icmp .eq 31, 3) := by decide +kernel
theorem dX9_cheapest_35 : decode cX9_cheapest 35 = .ok (.iload 4, 2) := by decide +kernel
theorem dX9_cheapest_37 : decode cX9_cheapest 37 = .ok (.aload_n 0, 1) := by decide +kernel
theorem dX9_cheapest_38 : decode cX9_cheapest 38 = .ok (.iload_n 2, 1) := by decide +kernel
theorem dX9_cheapest_39 : decode cX9_cheapest 39 = .ok (.invokevirtual 162, 3) := by decide +kernel
theorem dX9_cheapest_42 : decode cX9_cheapest 42 = .ok (.if_icmp .gt 35, 3) := by decide +kernel
theorem dX9_cheapest_45 : decode cX9_cheapest 45 = .ok (.iload 4, 2) := by decide +kernel
theorem dX9_cheapest_47 : decode cX9_cheapest 47 = .ok (.aload_n 0, 1) := by decide +kernel
theorem dX9_cheapest_48 : decode cX9_cheapest 48 = .ok (.iload_n 2, 1) := by decide +kernel
theorem dX9_cheapest_49 : decode cX9_cheapest 49 = .ok (.invokevirtual 162, 3) := by decide +kernel
theorem dX9_cheapest_52 : decode cX9_cheapest 52 = .ok (.if_icmp .ne 11, 3) := by decide +kernel
theorem dX9_cheapest_55 : decode cX9_cheapest 55 = .ok (.iload_n 3, 1) := by decide +kernel
theorem dX9_cheapest_56 : decode cX9_cheapest 56 = .ok (.iload_n 2, 1) := by decide +kernel
theorem dX9_cheapest_57 : decode cX9_cheapest 57 = .ok (.invokestatic 166, 3) := by decide +kernel
theorem dX9_cheapest_60 : decode cX9_cheapest 60 = .ok (.ifCond .eq 17, 3) := by decide +kernel
theorem dX9_cheapest_63 : decode cX9_cheapest 63 = .ok (.aload_n 0, 1) := by decide +kernel
theorem dX9_cheapest_64 : decode cX9_cheapest 64 = .ok (.iload_n 1, 1) := by decide +kernel
theorem dX9_cheapest_65 : decode cX9_cheapest 65 = .ok (.iload_n 3, 1) := by decide +kernel
theorem dX9_cheapest_66 : decode cX9_cheapest 66 = .ok (.invokevirtual 170, 3) := by decide +kernel
theorem dX9_cheapest_69 : decode cX9_cheapest 69 = .ok (.ifCond .le 6, 3) := by decide +kernel
theorem dX9_cheapest_72 : decode cX9_cheapest 72 = .ok (.goto 5, 3) := by decide +kernel
theorem dX9_cheapest_75 : decode cX9_cheapest 75 = .ok (.iload_n 3, 1) := by decide +kernel
theorem dX9_cheapest_76 : decode cX9_cheapest 76 = .ok (.istore_n 2, 1) := by decide +kernel
theorem dX9_cheapest_77 : decode cX9_cheapest 77 = .ok (.iinc 3 1, 3) := by decide +kernel
theorem dX9_cheapest_80 : decode cX9_cheapest 80 = .ok (.goto (-67), 3) := by decide +kernel
theorem dX9_cheapest_83 : decode cX9_cheapest 83 = .ok (.iload_n 2, 1) := by decide +kernel
theorem dX9_cheapest_84 : decode cX9_cheapest 84 = .ok (.ireturn, 1) := by decide +kernel
set_option maxRecDepth 20000 in
theorem ggX9_measures_X9_bit : GoodIn wsX9_measures wsX9_bit := goodIn_r _ [12] (by decide +kernel) (by decide +kernel)
set_option maxRecDepth 20000 in
theorem gX9_measures_X9_bit : GoodIn wsX9_measures (va_wsS RX9 99 yX9_bit wsX9_bit) := goodIn_app (goodIn_of _ (by decide +kernel)) ggX9_measures_X9_bit
theorem dX9_measures_0 : decode cX9_measures 0 = .ok (.iconst 0, 1) := by decide +kernel
theorem dX9_measures_1 : decode cX9_measures 1 = .ok (.istore 4, 2) := by decide +kernel
theorem dX9_measures_3 : decode cX9_measures 3 = .ok (.iload 4, 2) := by decide +kernel
theorem dX9_measures_5 : decode cX9_measures 5 = .ok (.bipush 24, 2) := by decide +kernel
theorem dX9_measures_7 : decode cX9_measures 7 = .ok (.if_icmp .ge 28, 3) := by decide +kernel
theorem dX9_measures_10 : decode cX9_measures 10 = .ok (.aload_n 0, 1) := by decide +kernel
theorem dX9_measures_11 : decode cX9_measures 11 = .ok (.getfield 81, 3) := by decide +kernel
theorem dX9_measures_14 : decode cX9_measures 14 = .ok (.iload 4, 2) := by decide +kernel
theorem dX9_measures_16 : decode cX9_measures 16 = .ok (.iload 4, 2) := by decide +kernel
theorem dX9_measures_18 : decode cX9_measures 18 = .ok (.iload_n 3, 1) := by decide +kernel
theorem dX9_measures_19 : decode cX9_measures 19 = .ok (.if_icmp .ne 7, 3) := by decide +kernel
theorem dX9_measures_22 : decode cX9_measures 22 = .ok (.iconst 0, 1) := by decide +kernel
theorem dX9_measures_23 : decode cX9_measures 23 = .ok (.goto 5, 3) := by decide +kernel
theorem dX9_measures_26 : decode cX9_measures 26 = .ok (.bipush 100, 2) := by decide +kernel
theorem dX9_measures_28 : decode cX9_measures 28 = .ok (.iastore, 1) := by decide +kernel
theorem dX9_measures_29 : decode cX9_measures 29 = .ok (.iinc 4 1, 3) := by decide +kernel
theorem dX9_measures_32 : decode cX9_measures 32 = .ok (.goto (-29), 3) := by decide +kernel
theorem dX9_measures_35 : decode cX9_measures 35 = .ok (.iconst 1, 1) := by decide +kernel
theorem dX9_measures_36 : decode cX9_measures 36 = .ok (.istore 4, 2) := by decide +kernel
theorem dX9_measures_38 : decode cX9_measures 38 = .ok (.iload 4, 2) := by decide +kernel
theorem dX9_measures_40 : decode cX9_measures 40 = .ok (.aload_n 0, 1) := by decide +kernel
theorem dX9_measures_41 : decode cX9_measures 41 = .ok (.getfield 87, 3) := by decide +kernel
theorem dX9_measures_44 : decode cX9_measures 44 = .ok (.if_icmp .gt 110, 3) := by decide +kernel
theorem dX9_measures_47 : decode cX9_measures 47 = .ok (.iconst 0, 1) := by decide +kernel
theorem dX9_measures_48 : decode cX9_measures 48 = .ok (.istore 5, 2) := by decide +kernel
theorem dX9_measures_50 : decode cX9_measures 50 = .ok (.iload 5, 2) := by decide +kernel
theorem dX9_measures_52 : decode cX9_measures 52 = .ok (.aload_n 0, 1) := by decide +kernel
theorem dX9_measures_53 : decode cX9_measures 53 = .ok (.getfield 108, 3) := by decide +kernel
theorem dX9_measures_56 : decode cX9_measures 56 = .ok (.if_icmp .ge 92, 3) := by decide +kernel
theorem dX9_measures_59 : decode cX9_measures 59 = .ok (.aload_n 0, 1) := by decide +kernel
theorem dX9_measures_60 : decode cX9_measures 60 = .ok (.getfield 60, 3) := by decide +kernel
theorem dX9_measures_63 : decode cX9_measures 63 = .ok (.iload 5, 2) := by decide +kernel
theorem dX9_measures_65 : decode cX9_measures 65 = .ok (.baload, 1) := by decide +kernel
theorem dX9_measures_66 : decode cX9_measures 66 = .ok (.ifCond .ne 76, 3) := by decide +kernel
theorem dX9_measures_69 : decode cX9_measures 69 = .ok (.aload_n 0, 1) := by decide +kernel
theorem dX9_measures_70 : decode cX9_measures 70 = .ok (.getfield 13, 3) := by decide +kernel
theorem dX9_measures_73 : decode cX9_measures 73 = .ok (.aload_n 0, 1) := by decide +kernel
theorem dX9_measures_74 : decode cX9_measures 74 = .ok (.getfield 38, 3) := by decide +kernel
theorem dX9_measures_77 : decode cX9_measures 77 = .ok (.iload 5, 2) := by decide +kernel
theorem dX9_measures_79 : decode cX9_measures 79 = .ok (.iaload, 1) := by decide +kernel
theorem dX9_measures_80 : decode cX9_measures 80 = .ok (.laload, 1) := by decide +kernel
theorem dX9_measures_81 : decode cX9_measures 81 = .ok (.iload_n 1, 1) := by decide +kernel
theorem dX9_measures_82 : decode cX9_measures 82 = .ok (.iload_n 2, 1) := by decide +kernel
theorem dX9_measures_83 : decode cX9_measures 83 = .ok (.invokestatic 99, 3) := by decide +kernel
theorem dX9_measures_86 : decode cX9_measures 86 = .ok (.land, 1) := by decide +kernel
theorem dX9_measures_87 : decode cX9_measures 87 = .ok (.lconst 0, 1) := by decide +kernel
theorem dX9_measures_88 : decode cX9_measures 88 = .ok (.lcmp, 1) := by decide +kernel
theorem dX9_measures_89 : decode cX9_measures 89 = .ok (.ifCond .eq 53, 3) := by decide +kernel
theorem dX9_measures_92 : decode cX9_measures 92 = .ok (.aload_n 0, 1) := by decide +kernel
theorem dX9_measures_93 : decode cX9_measures 93 = .ok (.getfield 81, 3) := by decide +kernel
theorem dX9_measures_96 : decode cX9_measures 96 = .ok (.aload_n 0, 1) := by decide +kernel
theorem dX9_measures_97 : decode cX9_measures 97 = .ok (.getfield 35, 3) := by decide +kernel
theorem dX9_measures_100 : decode cX9_measures 100 = .ok (.iload 5, 2) := by decide +kernel
theorem dX9_measures_102 : decode cX9_measures 102 = .ok (.iaload, 1) := by decide +kernel
theorem dX9_measures_103 : decode cX9_measures 103 = .ok (.iaload, 1) := by decide +kernel
theorem dX9_measures_104 : decode cX9_measures 104 = .ok (.iload 4, 2) := by decide +kernel
theorem dX9_measures_106 : decode cX9_measures 106 = .ok (.iconst 1, 1) := by decide +kernel
theorem dX9_measures_107 : decode cX9_measures 107 = .ok (.isub, 1) := by decide +kernel
theorem dX9_measures_108 : decode cX9_measures 108 = .ok (.if_icmp .ne 34, 3) := by decide +kernel
theorem dX9_measures_111 : decode cX9_measures 111 = .ok (.aload_n 0, 1) := by decide +kernel
theorem dX9_measures_112 : decode cX9_measures 112 = .ok (.getfield 81, 3) := by decide +kernel
theorem dX9_measures_115 : decode cX9_measures 115 = .ok (.aload_n 0, 1) := by decide +kernel
theorem dX9_measures_116 : decode cX9_measures 116 = .ok (.getfield 32, 3) := by decide +kernel
theorem dX9_measures_119 : decode cX9_measures 119 = .ok (.iload 5, 2) := by decide +kernel
theorem dX9_measures_121 : decode cX9_measures 121 = .ok (.iaload, 1) := by decide +kernel
theorem dX9_measures_122 : decode cX9_measures 122 = .ok (.iaload, 1) := by decide +kernel
theorem dX9_measures_123 : decode cX9_measures 123 = .ok (.iload 4, 2) := by decide +kernel
theorem dX9_measures_125 : decode cX9_measures 125 = .ok (.if_icmp .le 17, 3) := by decide +kernel
theorem dX9_measures_128 : decode cX9_measures 128 = .ok (.aload_n 0, 1) := by decide +kernel
theorem dX9_measures_129 : decode cX9_measures 129 = .ok (.getfield 81, 3) := by decide +kernel
theorem dX9_measures_132 : decode cX9_measures 132 = .ok (.aload_n 0, 1) := by decide +kernel
theorem dX9_measures_133 : decode cX9_measures 133 = .ok (.getfield 32, 3) := by decide +kernel
theorem dX9_measures_136 : decode cX9_measures 136 = .ok (.iload 5, 2) := by decide +kernel
theorem dX9_measures_138 : decode cX9_measures 138 = .ok (.iaload, 1) := by decide +kernel
theorem dX9_measures_139 : decode cX9_measures 139 = .ok (.iload 4, 2) := by decide +kernel
theorem dX9_measures_141 : decode cX9_measures 141 = .ok (.iastore, 1) := by decide +kernel
theorem dX9_measures_142 : decode cX9_measures 142 = .ok (.iinc 5 1, 3) := by decide +kernel
theorem dX9_measures_145 : decode cX9_measures 145 = .ok (.goto (-95), 3) := by decide +kernel
theorem dX9_measures_148 : decode cX9_measures 148 = .ok (.iinc 4 1, 3) := by decide +kernel
theorem dX9_measures_151 : decode cX9_measures 151 = .ok (.goto (-113), 3) := by decide +kernel
theorem dX9_measures_154 : decode cX9_measures 154 = .ok (.return_, 1) := by decide +kernel
set_option maxRecDepth 20000 in
theorem ggX9_hasBrought_X9_brings : GoodIn wsX9_hasBrought wsX9_brings := goodIn_r _ [5, 6, 7, 8, 9, 13, 14, 15, 16, 17, 18, 19, 20, 21, 22, 23, 24, 25, 26, 27, 28, 29, 30, 31, 32, 33, 34, 35, 36, 37, 38, 39, 40, 41, 42] (by decide +kernel) (by decide +kernel)
set_option maxRecDepth 20000 in
theorem gX9_hasBrought_X9_brings : GoodIn wsX9_hasBrought (wsV RX9 128 RX9 yX9_brings wsX9_brings) := goodIn_app (goodIn_of _ (by decide +kernel)) ggX9_hasBrought_X9_brings
set_option maxRecDepth 20000 in
theorem ggX9_hasBrought_X9_bit : GoodIn wsX9_hasBrought wsX9_bit := goodIn_r _ [12] (by decide +kernel) (by decide +kernel)
set_option maxRecDepth 20000 in
theorem gX9_hasBrought_X9_bit : GoodIn wsX9_hasBrought (va_wsS RX9 99 yX9_bit wsX9_bit) := goodIn_app (goodIn_of _ (by decide +kernel)) ggX9_hasBrought_X9_bit
theorem dX9_hasBrought_0 : decode cX9_hasBrought 0 = .ok (.aload_n 0, 1) := by decide +kernel
theorem dX9_hasBrought_1 : decode cX9_hasBrought 1 = .ok (.iload_n 1, 1) := by decide +kernel
theorem dX9_hasBrought_2 : decode cX9_hasBrought 2 = .ok (.iload_n 2, 1) := by decide +kernel
theorem dX9_hasBrought_3 : decode cX9_hasBrought 3 = .ok (.invokevirtual 128, 3) := by decide +kernel
theorem dX9_hasBrought_6 : decode cX9_hasBrought 6 = .ok (.iload_n 3, 1) := by decide +kernel
theorem dX9_hasBrought_7 : decode cX9_hasBrought 7 = .ok (.iload 4, 2) := by decide +kernel
theorem dX9_hasBrought_9 : decode cX9_hasBrought 9 = .ok (.invokestatic 99, 3) := by decide +kernel
theorem dX9_hasBrought_12 : decode cX9_hasBrought 12 = .ok (.land, 1) := by decide +kernel
theorem dX9_hasBrought_13 : decode cX9_hasBrought 13 = .ok (.lconst 0, 1) := by decide +kernel
theorem dX9_hasBrought_14 : decode cX9_hasBrought 14 = .ok (.lcmp, 1) := by decide +kernel
theorem dX9_hasBrought_15 : decode cX9_hasBrought 15 = .ok (.ifCond .eq 7, 3) := by decide +kernel
theorem dX9_hasBrought_18 : decode cX9_hasBrought 18 = .ok (.iconst 1, 1) := by decide +kernel
theorem dX9_hasBrought_19 : decode cX9_hasBrought 19 = .ok (.goto 4, 3) := by decide +kernel
theorem dX9_hasBrought_22 : decode cX9_hasBrought 22 = .ok (.iconst 0, 1) := by decide +kernel
theorem dX9_hasBrought_23 : decode cX9_hasBrought 23 = .ok (.ireturn, 1) := by decide +kernel
set_option maxRecDepth 20000 in
theorem ggX9_way_X9_isShipping : GoodIn wsX9_way wsX9_isShipping := goodIn_r _ [12, 13, 14, 11, 15] (by decide +kernel) (by decide +kernel)
set_option maxRecDepth 20000 in
theorem gX9_way_X9_isShipping : GoodIn wsX9_way (va_wsS RX9 145 yX9_isShipping wsX9_isShipping) := goodIn_app (goodIn_of _ (by decide +kernel)) ggX9_way_X9_isShipping
set_option maxRecDepth 20000 in
theorem ggX9_way_X9_isLicence : GoodIn wsX9_way wsX9_isLicence := goodIn_r _ [18, 13, 14, 11, 15] (by decide +kernel) (by decide +kernel)
set_option maxRecDepth 20000 in
theorem gX9_way_X9_isLicence : GoodIn wsX9_way (va_wsS RX9 95 yX9_isLicence wsX9_isLicence) := goodIn_app (goodIn_of _ (by decide +kernel)) ggX9_way_X9_isLicence
set_option maxRecDepth 20000 in
theorem ggX9_way_X9_lies : GoodIn wsX9_way wsX9_lies := goodIn_r _ [15] (by decide +kernel) (by decide +kernel)
set_option maxRecDepth 20000 in
theorem gX9_way_X9_lies : GoodIn wsX9_way (va_wsS RX9 91 yX9_lies wsX9_lies) := goodIn_app (goodIn_of _ (by decide +kernel)) ggX9_way_X9_lies
set_option maxRecDepth 20000 in
theorem ggX9_way_X9_isPart : GoodIn wsX9_way wsX9_isPart := goodIn_r _ [22, 1, 13, 14, 11, 15, 49, 50, 51, 52, 53, 54, 55, 56, 57, 58, 59, 60, 61, 62, 63, 64, 65, 66, 67, 68, 69, 70, 71, 72, 73, 74, 75, 76, 77, 78] (by decide +kernel) (by decide +kernel)
set_option maxRecDepth 20000 in
theorem gX9_way_X9_isPart : GoodIn wsX9_way (wsV RX9 105 RX9 yX9_isPart wsX9_isPart) := goodIn_app (goodIn_of _ (by decide +kernel)) ggX9_way_X9_isPart
set_option maxRecDepth 20000 in
theorem ggX9_way_X9_asItIs : GoodIn wsX9_way wsX9_asItIs := goodIn_r _ [26, 3, 4, 27, 1, 28, 29, 30, 49, 50, 51, 52, 53, 54, 55, 56, 57, 58, 59, 60, 61, 62, 63, 64, 65, 66, 67, 68, 69, 70, 71, 72, 73, 74, 75, 76, 77, 78] (by decide +kernel) (by decide +kernel)
set_option maxRecDepth 20000 in
theorem gX9_way_X9_asItIs : GoodIn wsX9_way (wsV RX9 111 RX9 yX9_asItIs wsX9_asItIs) := goodIn_app (goodIn_of _ (by decide +kernel)) ggX9_way_X9_asItIs
set_option maxRecDepth 20000 in
theorem ggX9_way_X9_measures : GoodIn wsX9_way wsX9_measures := goodIn_r _ [34, 2, 1, 3, 4, 6, 7, 8, 5, 35, 36, 11, 37, 49, 50, 51, 52, 53, 54, 55, 56, 57, 58, 59, 60, 61, 62, 63, 64, 65, 66, 67, 68, 69, 70, 71, 72, 73, 74, 75, 76, 77, 78] (by decide +kernel) (by decide +kernel)
set_option maxRecDepth 20000 in
theorem gX9_way_X9_measures : GoodIn wsX9_way (wsV RX9 174 RX9 yX9_measures wsX9_measures) := goodIn_app (goodIn_of _ (by decide +kernel)) ggX9_way_X9_measures
set_option maxRecDepth 20000 in
theorem ggX9_way_X9_hasBrought : GoodIn wsX9_way wsX9_hasBrought := goodIn_r _ [41, 42, 43, 44, 11, 45, 46, 28, 47, 48, 35, 36, 37, 49, 50, 51, 52, 53, 54, 55, 56, 57, 58, 59, 60, 61, 62, 63, 64, 65, 66, 67, 68, 69, 70, 71, 72, 73, 74, 75, 76, 77, 78] (by decide +kernel) (by decide +kernel)
set_option maxRecDepth 20000 in
theorem gX9_way_X9_hasBrought : GoodIn wsX9_way (wsV RX9 178 RX9 yX9_hasBrought wsX9_hasBrought) := goodIn_app (goodIn_of _ (by decide +kernel)) ggX9_way_X9_hasBrought
set_option maxRecDepth 20000 in
theorem ggX9_way_X9_bit : GoodIn wsX9_way wsX9_bit := goodIn_r _ [37] (by decide +kernel) (by decide +kernel)
set_option maxRecDepth 20000 in
theorem gX9_way_X9_bit : GoodIn wsX9_way (va_wsS RX9 99 yX9_bit wsX9_bit) := goodIn_app (goodIn_of _ (by decide +kernel)) ggX9_way_X9_bit
theorem dX9_way_0 : decode cX9_way 0 = .ok (.iload_n 1, 1) := by decide +kernel
theorem dX9_way_1 : decode cX9_way 1 = .ok (.invokestatic 145, 3) := by decide +kernel
theorem dX9_way_4 : decode cX9_way 4 = .ok (.ifCond .eq 34, 3) := by decide +kernel
theorem dX9_way_7 : decode cX9_way 7 = .ok (.iload_n 2, 1) := by decide +kernel
theorem dX9_way_8 : decode cX9_way 8 = .ok (.invokestatic 95, 3) := by decide +kernel
theorem dX9_way_11 : decode cX9_way 11 = .ok (.ifCond .eq 27, 3) := by decide +kernel
theorem dX9_way_14 : decode cX9_way 14 = .ok (.iload_n 3, 1) := by decide +kernel
theorem dX9_way_15 : decode cX9_way 15 = .ok (.iconst 0, 1) := by decide +kernel
theorem dX9_way_16 : decode cX9_way 16 = .ok (.bipush 7, 2) := by decide +kernel
theorem dX9_way_18 : decode cX9_way 18 = .ok (.invokestatic 91, 3) := by decide +kernel
theorem dX9_way_21 : decode cX9_way 21 = .ok (.ifCond .eq 17, 3) := by decide +kernel
theorem dX9_way_24 : decode cX9_way 24 = .ok (.aload_n 0, 1) := by decide +kernel
theorem dX9_way_25 : decode cX9_way 25 = .ok (.iload 4, 2) := by decide +kernel
theorem dX9_way_27 : decode cX9_way 27 = .ok (.invokevirtual 105, 3) := by decide +kernel
theorem dX9_way_30 : decode cX9_way 30 = .ok (.ifCond .eq 8, 3) := by decide +kernel
theorem dX9_way_33 : decode cX9_way 33 = .ok (.iload 5, 2) := by decide +kernel
theorem dX9_way_35 : decode cX9_way 35 = .ok (.ifCond .ge 5, 3) := by decide +kernel
theorem dX9_way_38 : decode cX9_way 38 = .ok (.iconst (-1), 1) := by decide +kernel
theorem dX9_way_39 : decode cX9_way 39 = .ok (.ireturn, 1) := by decide +kernel
theorem dX9_way_40 : decode cX9_way 40 = .ok (.aload_n 0, 1) := by decide +kernel
theorem dX9_way_41 : decode cX9_way 41 = .ok (.invokevirtual 111, 3) := by decide +kernel
theorem dX9_way_44 : decode cX9_way 44 = .ok (.aload_n 0, 1) := by decide +kernel
theorem dX9_way_45 : decode cX9_way 45 = .ok (.iload_n 2, 1) := by decide +kernel
theorem dX9_way_46 : decode cX9_way 46 = .ok (.iload_n 3, 1) := by decide +kernel
theorem dX9_way_47 : decode cX9_way 47 = .ok (.iload 4, 2) := by decide +kernel
theorem dX9_way_49 : decode cX9_way 49 = .ok (.invokevirtual 174, 3) := by decide +kernel
theorem dX9_way_52 : decode cX9_way 52 = .ok (.iconst (-1), 1) := by decide +kernel
theorem dX9_way_53 : decode cX9_way 53 = .ok (.istore 6, 2) := by decide +kernel
theorem dX9_way_55 : decode cX9_way 55 = .ok (.iconst 0, 1) := by decide +kernel
theorem dX9_way_56 : decode cX9_way 56 = .ok (.istore 7, 2) := by decide +kernel
theorem dX9_way_58 : decode cX9_way 58 = .ok (.iload 7, 2) := by decide +kernel
theorem dX9_way_60 : decode cX9_way 60 = .ok (.aload_n 0, 1) := by decide +kernel
theorem dX9_way_61 : decode cX9_way 61 = .ok (.getfield 87, 3) := by decide +kernel
theorem dX9_way_64 : decode cX9_way 64 = .ok (.if_icmp .ge 60, 3) := by decide +kernel
theorem dX9_way_67 : decode cX9_way 67 = .ok (.aload_n 0, 1) := by decide +kernel
theorem dX9_way_68 : decode cX9_way 68 = .ok (.iload_n 1, 1) := by decide +kernel
theorem dX9_way_69 : decode cX9_way 69 = .ok (.iload 7, 2) := by decide +kernel
theorem dX9_way_71 : decode cX9_way 71 = .ok (.iload_n 2, 1) := by decide +kernel
theorem dX9_way_72 : decode cX9_way 72 = .ok (.iload_n 3, 1) := by decide +kernel
theorem dX9_way_73 : decode cX9_way 73 = .ok (.invokevirtual 178, 3) := by decide +kernel
theorem dX9_way_76 : decode cX9_way 76 = .ok (.ifCond .eq 42, 3) := by decide +kernel
theorem dX9_way_79 : decode cX9_way 79 = .ok (.aload_n 0, 1) := by decide +kernel
theorem dX9_way_80 : decode cX9_way 80 = .ok (.getfield 81, 3) := by decide +kernel
theorem dX9_way_83 : decode cX9_way 83 = .ok (.iload 7, 2) := by decide +kernel
theorem dX9_way_85 : decode cX9_way 85 = .ok (.iaload, 1) := by decide +kernel
theorem dX9_way_86 : decode cX9_way 86 = .ok (.bipush 100, 2) := by decide +kernel
theorem dX9_way_88 : decode cX9_way 88 = .ok (.if_icmp .ge 30, 3) := by decide +kernel
theorem dX9_way_91 : decode cX9_way 91 = .ok (.iload 6, 2) := by decide +kernel
theorem dX9_way_93 : decode cX9_way 93 = .ok (.iconst (-1), 1) := by decide +kernel
theorem dX9_way_94 : decode cX9_way 94 = .ok (.if_icmp .eq 20, 3) := by decide +kernel
theorem dX9_way_97 : decode cX9_way 97 = .ok (.aload_n 0, 1) := by decide +kernel
theorem dX9_way_98 : decode cX9_way 98 = .ok (.getfield 81, 3) := by decide +kernel
theorem dX9_way_101 : decode cX9_way 101 = .ok (.iload 7, 2) := by decide +kernel
theorem dX9_way_103 : decode cX9_way 103 = .ok (.iaload, 1) := by decide +kernel
theorem dX9_way_104 : decode cX9_way 104 = .ok (.aload_n 0, 1) := by decide +kernel
theorem dX9_way_105 : decode cX9_way 105 = .ok (.getfield 81, 3) := by decide +kernel
theorem dX9_way_108 : decode cX9_way 108 = .ok (.iload 6, 2) := by decide +kernel
theorem dX9_way_110 : decode cX9_way 110 = .ok (.iaload, 1) := by decide +kernel
theorem dX9_way_111 : decode cX9_way 111 = .ok (.if_icmp .ge 7, 3) := by decide +kernel
theorem dX9_way_114 : decode cX9_way 114 = .ok (.iload 7, 2) := by decide +kernel
theorem dX9_way_116 : decode cX9_way 116 = .ok (.istore 6, 2) := by decide +kernel
theorem dX9_way_118 : decode cX9_way 118 = .ok (.iinc 7 1, 3) := by decide +kernel
theorem dX9_way_121 : decode cX9_way 121 = .ok (.goto (-63), 3) := by decide +kernel
theorem dX9_way_124 : decode cX9_way 124 = .ok (.iload 6, 2) := by decide +kernel
theorem dX9_way_126 : decode cX9_way 126 = .ok (.iconst (-1), 1) := by decide +kernel
theorem dX9_way_127 : decode cX9_way 127 = .ok (.if_icmp .eq 15, 3) := by decide +kernel
theorem dX9_way_130 : decode cX9_way 130 = .ok (.iload 5, 2) := by decide +kernel
theorem dX9_way_132 : decode cX9_way 132 = .ok (.aload_n 0, 1) := by decide +kernel
theorem dX9_way_133 : decode cX9_way 133 = .ok (.getfield 81, 3) := by decide +kernel
theorem dX9_way_136 : decode cX9_way 136 = .ok (.iload 6, 2) := by decide +kernel
theorem dX9_way_138 : decode cX9_way 138 = .ok (.iaload, 1) := by decide +kernel
theorem dX9_way_139 : decode cX9_way 139 = .ok (.if_icmp .le 5, 3) := by decide +kernel
theorem dX9_way_142 : decode cX9_way 142 = .ok (.iconst (-1), 1) := by decide +kernel
theorem dX9_way_143 : decode cX9_way 143 = .ok (.ireturn, 1) := by decide +kernel
theorem dX9_way_144 : decode cX9_way 144 = .ok (.iconst 0, 1) := by decide +kernel
theorem dX9_way_145 : decode cX9_way 145 = .ok (.istore 7, 2) := by decide +kernel
theorem dX9_way_147 : decode cX9_way 147 = .ok (.iload 7, 2) := by decide +kernel
theorem dX9_way_149 : decode cX9_way 149 = .ok (.iload 5, 2) := by decide +kernel
theorem dX9_way_151 : decode cX9_way 151 = .ok (.if_icmp .ge 125, 3) := by decide +kernel
theorem dX9_way_154 : decode cX9_way 154 = .ok (.bipush 24, 2) := by decide +kernel
theorem dX9_way_156 : decode cX9_way 156 = .ok (.istore 8, 2) := by decide +kernel
theorem dX9_way_158 : decode cX9_way 158 = .ok (.iconst 0, 1) := by decide +kernel
theorem dX9_way_159 : decode cX9_way 159 = .ok (.istore 9, 2) := by decide +kernel
theorem dX9_way_161 : decode cX9_way 161 = .ok (.iload 9, 2) := by decide +kernel
theorem dX9_way_163 : decode cX9_way 163 = .ok (.aload_n 0, 1) := by decide +kernel
theorem dX9_way_164 : decode cX9_way 164 = .ok (.getfield 108, 3) := by decide +kernel
theorem dX9_way_167 : decode cX9_way 167 = .ok (.if_icmp .ge 99, 3) := by decide +kernel
theorem dX9_way_170 : decode cX9_way 170 = .ok (.aload_n 0, 1) := by decide +kernel
theorem dX9_way_171 : decode cX9_way 171 = .ok (.getfield 60, 3) := by decide +kernel
theorem dX9_way_174 : decode cX9_way 174 = .ok (.iload 9, 2) := by decide +kernel
theorem dX9_way_176 : decode cX9_way 176 = .ok (.baload, 1) := by decide +kernel
theorem dX9_way_177 : decode cX9_way 177 = .ok (.ifCond .ne 83, 3) := by decide +kernel
theorem dX9_way_180 : decode cX9_way 180 = .ok (.aload_n 0, 1) := by decide +kernel
theorem dX9_way_181 : decode cX9_way 181 = .ok (.getfield 32, 3) := by decide +kernel
theorem dX9_way_184 : decode cX9_way 184 = .ok (.iload 9, 2) := by decide +kernel
theorem dX9_way_186 : decode cX9_way 186 = .ok (.iaload, 1) := by decide +kernel
theorem dX9_way_187 : decode cX9_way 187 = .ok (.iload 6, 2) := by decide +kernel
theorem dX9_way_189 : decode cX9_way 189 = .ok (.if_icmp .ne 71, 3) := by decide +kernel
theorem dX9_way_192 : decode cX9_way 192 = .ok (.aload_n 0, 1) := by decide +kernel
theorem dX9_way_193 : decode cX9_way 193 = .ok (.getfield 13, 3) := by decide +kernel
theorem dX9_way_196 : decode cX9_way 196 = .ok (.aload_n 0, 1) := by decide +kernel
theorem dX9_way_197 : decode cX9_way 197 = .ok (.getfield 38, 3) := by decide +kernel
theorem dX9_way_200 : decode cX9_way 200 = .ok (.iload 9, 2) := by decide +kernel
theorem dX9_way_202 : decode cX9_way 202 = .ok (.iaload, 1) := by decide +kernel
theorem dX9_way_203 : decode cX9_way 203 = .ok (.laload, 1) := by decide +kernel
theorem dX9_way_204 : decode cX9_way 204 = .ok (.iload_n 2, 1) := by decide +kernel
theorem dX9_way_205 : decode cX9_way 205 = .ok (.iload_n 3, 1) := by decide +kernel
theorem dX9_way_206 : decode cX9_way 206 = .ok (.invokestatic 99, 3) := by decide +kernel
theorem dX9_way_209 : decode cX9_way 209 = .ok (.land, 1) := by decide +kernel
theorem dX9_way_210 : decode cX9_way 210 = .ok (.lconst 0, 1) := by decide +kernel
theorem dX9_way_211 : decode cX9_way 211 = .ok (.lcmp, 1) := by decide +kernel
theorem dX9_way_212 : decode cX9_way 212 = .ok (.ifCond .eq 48, 3) := by decide +kernel
theorem dX9_way_215 : decode cX9_way 215 = .ok (.aload_n 0, 1) := by decide +kernel
theorem dX9_way_216 : decode cX9_way 216 = .ok (.getfield 81, 3) := by decide +kernel
theorem dX9_way_219 : decode cX9_way 219 = .ok (.aload_n 0, 1) := by decide +kernel
theorem dX9_way_220 : decode cX9_way 220 = .ok (.getfield 35, 3) := by decide +kernel
theorem dX9_way_223 : decode cX9_way 223 = .ok (.iload 9, 2) := by decide +kernel
theorem dX9_way_225 : decode cX9_way 225 = .ok (.iaload, 1) := by decide +kernel
theorem dX9_way_226 : decode cX9_way 226 = .ok (.iaload, 1) := by decide +kernel
theorem dX9_way_227 : decode cX9_way 227 = .ok (.aload_n 0, 1) := by decide +kernel
theorem dX9_way_228 : decode cX9_way 228 = .ok (.getfield 81, 3) := by decide +kernel
theorem dX9_way_231 : decode cX9_way 231 = .ok (.iload 6, 2) := by decide +kernel
theorem dX9_way_233 : decode cX9_way 233 = .ok (.iaload, 1) := by decide +kernel
theorem dX9_way_234 : decode cX9_way 234 = .ok (.iconst 1, 1) := by decide +kernel
theorem dX9_way_235 : decode cX9_way 235 = .ok (.isub, 1) := by decide +kernel
theorem dX9_way_236 : decode cX9_way 236 = .ok (.if_icmp .ne 24, 3) := by decide +kernel
theorem dX9_way_239 : decode cX9_way 239 = .ok (.aload_n 0, 1) := by decide +kernel
theorem dX9_way_240 : decode cX9_way 240 = .ok (.getfield 35, 3) := by decide +kernel
theorem dX9_way_243 : decode cX9_way 243 = .ok (.iload 9, 2) := by decide +kernel
theorem dX9_way_245 : decode cX9_way 245 = .ok (.iaload, 1) := by decide +kernel
theorem dX9_way_246 : decode cX9_way 246 = .ok (.iload 8, 2) := by decide +kernel
theorem dX9_way_248 : decode cX9_way 248 = .ok (.if_icmp .ge 12, 3) := by decide +kernel
theorem dX9_way_251 : decode cX9_way 251 = .ok (.aload_n 0, 1) := by decide +kernel
theorem dX9_way_252 : decode cX9_way 252 = .ok (.getfield 35, 3) := by decide +kernel
theorem dX9_way_255 : decode cX9_way 255 = .ok (.iload 9, 2) := by decide +kernel
theorem dX9_way_257 : decode cX9_way 257 = .ok (.iaload, 1) := by decide +kernel
theorem dX9_way_258 : decode cX9_way 258 = .ok (.istore 8, 2) := by decide +kernel
theorem dX9_way_260 : decode cX9_way 260 = .ok (.iinc 9 1, 3) := by decide +kernel
theorem dX9_way_263 : decode cX9_way 263 = .ok (.goto (-102), 3) := by decide +kernel
theorem dX9_way_266 : decode cX9_way 266 = .ok (.iload 8, 2) := by decide +kernel
theorem dX9_way_268 : decode cX9_way 268 = .ok (.istore 6, 2) := by decide +kernel
theorem dX9_way_270 : decode cX9_way 270 = .ok (.iinc 7 1, 3) := by decide +kernel
theorem dX9_way_273 : decode cX9_way 273 = .ok (.goto (-126), 3) := by decide +kernel
theorem dX9_way_276 : decode cX9_way 276 = .ok (.iload 6, 2) := by decide +kernel
theorem dX9_way_278 : decode cX9_way 278 = .ok (.ireturn, 1) := by decide +kernel
set_option maxRecDepth 20000 in
theorem ggX9_notice_X9_isShipping : GoodIn wsX9_notice wsX9_isShipping := goodIn_r _ [8, 9, 10, 7, 11] (by decide +kernel) (by decide +kernel)
set_option maxRecDepth 20000 in
theorem gX9_notice_X9_isShipping : GoodIn wsX9_notice (va_wsS RX9 145 yX9_isShipping wsX9_isShipping) := goodIn_app (goodIn_of _ (by decide +kernel)) ggX9_notice_X9_isShipping
set_option maxRecDepth 20000 in
theorem ggX9_notice_X9_asItIs : GoodIn wsX9_notice wsX9_asItIs := goodIn_r _ [15, 16, 17, 18, 1, 2, 19, 20, 43, 44, 45, 46, 47, 48, 49, 50, 51, 52, 53, 54, 55, 56, 57, 58, 59, 60, 61, 62, 63, 64, 65, 66, 67, 68, 69, 70, 71, 72] (by decide +kernel) (by decide +kernel)
set_option maxRecDepth 20000 in
theorem gX9_notice_X9_asItIs : GoodIn wsX9_notice (wsV RX9 111 RX9 yX9_asItIs wsX9_asItIs) := goodIn_app (goodIn_of _ (by decide +kernel)) ggX9_notice_X9_asItIs
set_option maxRecDepth 20000 in
theorem ggX9_notice_X9_hasBrought : GoodIn wsX9_notice wsX9_hasBrought := goodIn_r _ [24, 25, 26, 27, 7, 28, 29, 2, 30, 31, 32, 33, 34, 43, 44, 45, 46, 47, 48, 49, 50, 51, 52, 53, 54, 55, 56, 57, 58, 59, 60, 61, 62, 63, 64, 65, 66, 67, 68, 69, 70, 71, 72] (by decide +kernel) (by decide +kernel)
set_option maxRecDepth 20000 in
theorem gX9_notice_X9_hasBrought : GoodIn wsX9_notice (wsV RX9 178 RX9 yX9_hasBrought wsX9_hasBrought) := goodIn_app (goodIn_of _ (by decide +kernel)) ggX9_notice_X9_hasBrought
set_option maxRecDepth 20000 in
theorem ggX9_notice_X9_measures : GoodIn wsX9_notice wsX9_measures := goodIn_r _ [38, 4, 1, 16, 17, 39, 40, 41, 42, 32, 33, 7, 34, 43, 44, 45, 46, 47, 48, 49, 50, 51, 52, 53, 54, 55, 56, 57, 58, 59, 60, 61, 62, 63, 64, 65, 66, 67, 68, 69, 70, 71, 72] (by decide +kernel) (by decide +kernel)
set_option maxRecDepth 20000 in
theorem gX9_notice_X9_measures : GoodIn wsX9_notice (wsV RX9 174 RX9 yX9_measures wsX9_measures) := goodIn_app (goodIn_of _ (by decide +kernel)) ggX9_notice_X9_measures
theorem dX9_notice_0 : decode cX9_notice 0 = .ok (.iload_n 1, 1) := by decide +kernel
theorem dX9_notice_1 : decode cX9_notice 1 = .ok (.invokestatic 145, 3) := by decide +kernel
theorem dX9_notice_4 : decode cX9_notice 4 = .ok (.ifCond .eq 7, 3) := by decide +kernel
theorem dX9_notice_7 : decode cX9_notice 7 = .ok (.iload_n 2, 1) := by decide +kernel
theorem dX9_notice_8 : decode cX9_notice 8 = .ok (.ifCond .ge 5, 3) := by decide +kernel
theorem dX9_notice_11 : decode cX9_notice 11 = .ok (.iconst (-1), 1) := by decide +kernel
theorem dX9_notice_12 : decode cX9_notice 12 = .ok (.ireturn, 1) := by decide +kernel
theorem dX9_notice_13 : decode cX9_notice 13 = .ok (.aload_n 0, 1) := by decide +kernel
theorem dX9_notice_14 : decode cX9_notice 14 = .ok (.invokevirtual 111, 3) := by decide +kernel
theorem dX9_notice_17 : decode cX9_notice 17 = .ok (.iconst 0, 1) := by decide +kernel
theorem dX9_notice_18 : decode cX9_notice 18 = .ok (.istore_n 3, 1) := by decide +kernel
theorem dX9_notice_19 : decode cX9_notice 19 = .ok (.iconst 0, 1) := by decide +kernel
theorem dX9_notice_20 : decode cX9_notice 20 = .ok (.istore 4, 2) := by decide +kernel
theorem dX9_notice_22 : decode cX9_notice 22 = .ok (.iload 4, 2) := by decide +kernel
theorem dX9_notice_24 : decode cX9_notice 24 = .ok (.aload_n 0, 1) := by decide +kernel
theorem dX9_notice_25 : decode cX9_notice 25 = .ok (.getfield 87, 3) := by decide +kernel
theorem dX9_notice_28 : decode cX9_notice 28 = .ok (.if_icmp .ge 72, 3) := by decide +kernel
theorem dX9_notice_31 : decode cX9_notice 31 = .ok (.aload_n 0, 1) := by decide +kernel
theorem dX9_notice_32 : decode cX9_notice 32 = .ok (.iload_n 1, 1) := by decide +kernel
theorem dX9_notice_33 : decode cX9_notice 33 = .ok (.iload 4, 2) := by decide +kernel
theorem dX9_notice_35 : decode cX9_notice 35 = .ok (.aload_n 0, 1) := by decide +kernel
theorem dX9_notice_36 : decode cX9_notice 36 = .ok (.getfield 63, 3) := by decide +kernel
theorem dX9_notice_39 : decode cX9_notice 39 = .ok (.iload 4, 2) := by decide +kernel
theorem dX9_notice_41 : decode cX9_notice 41 = .ok (.iaload, 1) := by decide +kernel
theorem dX9_notice_42 : decode cX9_notice 42 = .ok (.iconst 0, 1) := by decide +kernel
theorem dX9_notice_43 : decode cX9_notice 43 = .ok (.invokevirtual 178, 3) := by decide +kernel
theorem dX9_notice_46 : decode cX9_notice 46 = .ok (.ifCond .ne 6, 3) := by decide +kernel
theorem dX9_notice_49 : decode cX9_notice 49 = .ok (.goto 45, 3) := by decide +kernel
theorem dX9_notice_52 : decode cX9_notice 52 = .ok (.aload_n 0, 1) := by decide +kernel
theorem dX9_notice_53 : decode cX9_notice 53 = .ok (.aload_n 0, 1) := by decide +kernel
theorem dX9_notice_54 : decode cX9_notice 54 = .ok (.getfield 63, 3) := by decide +kernel
theorem dX9_notice_57 : decode cX9_notice 57 = .ok (.iload 4, 2) := by decide +kernel
theorem dX9_notice_59 : decode cX9_notice 59 = .ok (.iaload, 1) := by decide +kernel
theorem dX9_notice_60 : decode cX9_notice 60 = .ok (.iconst 0, 1) := by decide +kernel
theorem dX9_notice_61 : decode cX9_notice 61 = .ok (.aload_n 0, 1) := by decide +kernel
theorem dX9_notice_62 : decode cX9_notice 62 = .ok (.getfield 118, 3) := by decide +kernel
theorem dX9_notice_65 : decode cX9_notice 65 = .ok (.invokevirtual 174, 3) := by decide +kernel
theorem dX9_notice_68 : decode cX9_notice 68 = .ok (.aload_n 0, 1) := by decide +kernel
theorem dX9_notice_69 : decode cX9_notice 69 = .ok (.getfield 81, 3) := by decide +kernel
theorem dX9_notice_72 : decode cX9_notice 72 = .ok (.iload 4, 2) := by decide +kernel
theorem dX9_notice_74 : decode cX9_notice 74 = .ok (.iaload, 1) := by decide +kernel
theorem dX9_notice_75 : decode cX9_notice 75 = .ok (.bipush 100, 2) := by decide +kernel
theorem dX9_notice_77 : decode cX9_notice 77 = .ok (.if_icmp .ne 6, 3) := by decide +kernel
theorem dX9_notice_80 : decode cX9_notice 80 = .ok (.goto 14, 3) := by decide +kernel
theorem dX9_notice_83 : decode cX9_notice 83 = .ok (.iload_n 3, 1) := by decide +kernel
theorem dX9_notice_84 : decode cX9_notice 84 = .ok (.iload_n 2, 1) := by decide +kernel
theorem dX9_notice_85 : decode cX9_notice 85 = .ok (.if_icmp .ne 6, 3) := by decide +kernel
theorem dX9_notice_88 : decode cX9_notice 88 = .ok (.iload 4, 2) := by decide +kernel
theorem dX9_notice_90 : decode cX9_notice 90 = .ok (.ireturn, 1) := by decide +kernel
theorem dX9_notice_91 : decode cX9_notice 91 = .ok (.iinc 3 1, 3) := by decide +kernel
theorem dX9_notice_94 : decode cX9_notice 94 = .ok (.iinc 4 1, 3) := by decide +kernel
theorem dX9_notice_97 : decode cX9_notice 97 = .ok (.goto (-75), 3) := by decide +kernel
theorem dX9_notice_100 : decode cX9_notice 100 = .ok (.iconst (-1), 1) := by decide +kernel
theorem dX9_notice_101 : decode cX9_notice 101 = .ok (.ireturn, 1) := by decide +kernel
set_option maxRecDepth 20000 in
theorem ggX9_differ_X9_isShipping : GoodIn wsX9_differ wsX9_isShipping := goodIn_r _ [8, 9, 10, 7, 11] (by decide +kernel) (by decide +kernel)
set_option maxRecDepth 20000 in
theorem gX9_differ_X9_isShipping : GoodIn wsX9_differ (va_wsS RX9 145 yX9_isShipping wsX9_isShipping) := goodIn_app (goodIn_of _ (by decide +kernel)) ggX9_differ_X9_isShipping
set_option maxRecDepth 20000 in
theorem ggX9_differ_X9_works : GoodIn wsX9_differ wsX9_works := goodIn_r _ [15, 16, 17, 18, 19, 7, 20, 21, 22, 23, 1, 24, 25, 26, 27, 28, 29, 30, 31, 32, 33, 34, 35, 36, 37, 38, 39, 4, 40, 41, 42, 43, 3, 44, 45, 46, 47, 48, 49, 50, 51, 52, 53, 54, 55, 56, 57, 58, 59, 60, 61, 62, 63, 64, 65, 66, 67, 68, 69, 70, 71, 72, 73, 74, 75, 76, 77, 78, 79, 80, 81, 82] (by decide +kernel) (by decide +kernel)
set_option maxRecDepth 20000 in
theorem gX9_differ_X9_works : GoodIn wsX9_differ (wsV RX9 148 RX9 yX9_works wsX9_works) := goodIn_app (goodIn_of _ (by decide +kernel)) ggX9_differ_X9_works
theorem dX9_differ_0 : decode cX9_differ 0 = .ok (.iload_n 1, 1) := by decide +kernel
theorem dX9_differ_1 : decode cX9_differ 1 = .ok (.invokestatic 145, 3) := by decide +kernel
theorem dX9_differ_4 : decode cX9_differ 4 = .ok (.ifCond .eq 14, 3) := by decide +kernel
theorem dX9_differ_7 : decode cX9_differ 7 = .ok (.iload_n 2, 1) := by decide +kernel
theorem dX9_differ_8 : decode cX9_differ 8 = .ok (.invokestatic 145, 3) := by decide +kernel
theorem dX9_differ_11 : decode cX9_differ 11 = .ok (.ifCond .eq 7, 3) := by decide +kernel
theorem dX9_differ_14 : decode cX9_differ 14 = .ok (.iload_n 3, 1) := by decide +kernel
theorem dX9_differ_15 : decode cX9_differ 15 = .ok (.ifCond .ge 5, 3) := by decide +kernel
theorem dX9_differ_18 : decode cX9_differ 18 = .ok (.iconst (-1), 1) := by decide +kernel
theorem dX9_differ_19 : decode cX9_differ 19 = .ok (.ireturn, 1) := by decide +kernel
theorem dX9_differ_20 : decode cX9_differ 20 = .ok (.aload_n 0, 1) := by decide +kernel
theorem dX9_differ_21 : decode cX9_differ 21 = .ok (.iload_n 2, 1) := by decide +kernel
theorem dX9_differ_22 : decode cX9_differ 22 = .ok (.invokevirtual 148, 3) := by decide +kernel
theorem dX9_differ_25 : decode cX9_differ 25 = .ok (.iconst 0, 1) := by decide +kernel
theorem dX9_differ_26 : decode cX9_differ 26 = .ok (.istore 4, 2) := by decide +kernel
theorem dX9_differ_28 : decode cX9_differ 28 = .ok (.iload 4, 2) := by decide +kernel
theorem dX9_differ_30 : decode cX9_differ 30 = .ok (.aload_n 0, 1) := by decide +kernel
theorem dX9_differ_31 : decode cX9_differ 31 = .ok (.getfield 87, 3) := by decide +kernel
theorem dX9_differ_34 : decode cX9_differ 34 = .ok (.if_icmp .ge 23, 3) := by decide +kernel
theorem dX9_differ_37 : decode cX9_differ 37 = .ok (.aload_n 0, 1) := by decide +kernel
theorem dX9_differ_38 : decode cX9_differ 38 = .ok (.getfield 84, 3) := by decide +kernel
theorem dX9_differ_41 : decode cX9_differ 41 = .ok (.iload 4, 2) := by decide +kernel
theorem dX9_differ_43 : decode cX9_differ 43 = .ok (.aload_n 0, 1) := by decide +kernel
theorem dX9_differ_44 : decode cX9_differ 44 = .ok (.getfield 66, 3) := by decide +kernel
theorem dX9_differ_47 : decode cX9_differ 47 = .ok (.iload 4, 2) := by decide +kernel
theorem dX9_differ_49 : decode cX9_differ 49 = .ok (.laload, 1) := by decide +kernel
theorem dX9_differ_50 : decode cX9_differ 50 = .ok (.lastore, 1) := by decide +kernel
theorem dX9_differ_51 : decode cX9_differ 51 = .ok (.iinc 4 1, 3) := by decide +kernel
theorem dX9_differ_54 : decode cX9_differ 54 = .ok (.goto (-26), 3) := by decide +kernel
theorem dX9_differ_57 : decode cX9_differ 57 = .ok (.aload_n 0, 1) := by decide +kernel
theorem dX9_differ_58 : decode cX9_differ 58 = .ok (.iload_n 1, 1) := by decide +kernel
theorem dX9_differ_59 : decode cX9_differ 59 = .ok (.invokevirtual 148, 3) := by decide +kernel
theorem dX9_differ_62 : decode cX9_differ 62 = .ok (.iconst 0, 1) := by decide +kernel
theorem dX9_differ_63 : decode cX9_differ 63 = .ok (.istore 4, 2) := by decide +kernel
theorem dX9_differ_65 : decode cX9_differ 65 = .ok (.iconst 0, 1) := by decide +kernel
theorem dX9_differ_66 : decode cX9_differ 66 = .ok (.istore 5, 2) := by decide +kernel
theorem dX9_differ_68 : decode cX9_differ 68 = .ok (.iload 5, 2) := by decide +kernel
theorem dX9_differ_70 : decode cX9_differ 70 = .ok (.aload_n 0, 1) := by decide +kernel
theorem dX9_differ_71 : decode cX9_differ 71 = .ok (.getfield 87, 3) := by decide +kernel
theorem dX9_differ_74 : decode cX9_differ 74 = .ok (.if_icmp .ge 52, 3) := by decide +kernel
theorem dX9_differ_77 : decode cX9_differ 77 = .ok (.aload_n 0, 1) := by decide +kernel
theorem dX9_differ_78 : decode cX9_differ 78 = .ok (.getfield 57, 3) := by decide +kernel
theorem dX9_differ_81 : decode cX9_differ 81 = .ok (.iload 5, 2) := by decide +kernel
theorem dX9_differ_83 : decode cX9_differ 83 = .ok (.baload, 1) := by decide +kernel
theorem dX9_differ_84 : decode cX9_differ 84 = .ok (.ifCond .eq 36, 3) := by decide +kernel
theorem dX9_differ_87 : decode cX9_differ 87 = .ok (.aload_n 0, 1) := by decide +kernel
theorem dX9_differ_88 : decode cX9_differ 88 = .ok (.getfield 66, 3) := by decide +kernel
theorem dX9_differ_91 : decode cX9_differ 91 = .ok (.iload 5, 2) := by decide +kernel
theorem dX9_differ_93 : decode cX9_differ 93 = .ok (.laload, 1) := by decide +kernel
theorem dX9_differ_94 : decode cX9_differ 94 = .ok (.aload_n 0, 1) := by decide +kernel
theorem dX9_differ_95 : decode cX9_differ 95 = .ok (.getfield 84, 3) := by decide +kernel
theorem dX9_differ_98 : decode cX9_differ 98 = .ok (.iload 5, 2) := by decide +kernel
theorem dX9_differ_100 : decode cX9_differ 100 = .ok (.laload, 1) := by decide +kernel
theorem dX9_differ_101 : decode cX9_differ 101 = .ok (.lcmp, 1) := by decide +kernel
theorem dX9_differ_102 : decode cX9_differ 102 = .ok (.ifCond .ne 6, 3) := by decide +kernel
theorem dX9_differ_105 : decode cX9_differ 105 = .ok (.goto 15, 3) := by decide +kernel
theorem dX9_differ_108 : decode cX9_differ 108 = .ok (.iload 4, 2) := by decide +kernel
theorem dX9_differ_110 : decode cX9_differ 110 = .ok (.iload_n 3, 1) := by decide +kernel
theorem dX9_differ_111 : decode cX9_differ 111 = .ok (.if_icmp .ne 6, 3) := by decide +kernel
theorem dX9_differ_114 : decode cX9_differ 114 = .ok (.iload 5, 2) := by decide +kernel
theorem dX9_differ_116 : decode cX9_differ 116 = .ok (.ireturn, 1) := by decide +kernel
theorem dX9_differ_117 : decode cX9_differ 117 = .ok (.iinc 4 1, 3) := by decide +kernel
theorem dX9_differ_120 : decode cX9_differ 120 = .ok (.iinc 5 1, 3) := by decide +kernel
theorem dX9_differ_123 : decode cX9_differ 123 = .ok (.goto (-55), 3) := by decide +kernel
theorem dX9_differ_126 : decode cX9_differ 126 = .ok (.iconst (-1), 1) := by decide +kernel
theorem dX9_differ_127 : decode cX9_differ 127 = .ok (.ireturn, 1) := by decide +kernel
set_option maxRecDepth 20000 in
theorem ggX9_look_X9_isPart : GoodIn wsX9_look wsX9_isPart := goodIn_r _ [14, 15, 16, 17, 13, 18, 29, 30, 31, 32, 33, 34, 35, 36, 37, 38, 39, 40, 41, 42, 43, 44, 45, 46, 47, 48, 49, 50, 51, 52, 53, 54, 55, 56, 57, 58] (by decide +kernel) (by decide +kernel)
set_option maxRecDepth 20000 in
theorem gX9_look_X9_isPart : GoodIn wsX9_look (wsV RX9 105 RX9 yX9_isPart wsX9_isPart) := goodIn_app (goodIn_of _ (by decide +kernel)) ggX9_look_X9_isPart
set_option maxRecDepth 20000 in
theorem ggX9_look_X9_lies : GoodIn wsX9_look wsX9_lies := goodIn_r _ [18] (by decide +kernel) (by decide +kernel)
set_option maxRecDepth 20000 in
theorem gX9_look_X9_lies : GoodIn wsX9_look (va_wsS RX9 91 yX9_lies wsX9_lies) := goodIn_app (goodIn_of _ (by decide +kernel)) ggX9_look_X9_lies
set_option maxRecDepth 20000 in
theorem ggX9_look_X9_asItIs : GoodIn wsX9_look wsX9_asItIs := goodIn_r _ [22, 6, 23, 7, 15, 24, 2, 3, 29, 30, 31, 32, 33, 34, 35, 36, 37, 38, 39, 40, 41, 42, 43, 44, 45, 46, 47, 48, 49, 50, 51, 52, 53, 54, 55, 56, 57, 58] (by decide +kernel) (by decide +kernel)
set_option maxRecDepth 20000 in
theorem gX9_look_X9_asItIs : GoodIn wsX9_look (wsV RX9 111 RX9 yX9_asItIs wsX9_asItIs) := goodIn_app (goodIn_of _ (by decide +kernel)) ggX9_look_X9_asItIs
set_option maxRecDepth 20000 in
theorem ggX9_look_X9_reaches : GoodIn wsX9_look wsX9_reaches := goodIn_r _ [28, 5, 6, 23, 8, 9, 29, 30, 31, 32, 33, 34, 35, 36, 37, 38, 39, 40, 41, 42, 43, 44, 45, 46, 47, 48, 49, 50, 51, 52, 53, 54, 55, 56, 57, 58] (by decide +kernel) (by decide +kernel)
set_option maxRecDepth 20000 in
theorem gX9_look_X9_reaches : GoodIn wsX9_look (wsV RX9 114 RX9 yX9_reaches wsX9_reaches) := goodIn_app (goodIn_of _ (by decide +kernel)) ggX9_look_X9_reaches
theorem dX9_look_0 : decode cX9_look 0 = .ok (.aload_n 0, 1) := by decide +kernel
theorem dX9_look_1 : decode cX9_look 1 = .ok (.iload_n 1, 1) := by decide +kernel
theorem dX9_look_2 : decode cX9_look 2 = .ok (.invokevirtual 105, 3) := by decide +kernel
theorem dX9_look_5 : decode cX9_look 5 = .ok (.ifCond .ne 5, 3) := by decide +kernel
theorem dX9_look_8 : decode cX9_look 8 = .ok (.iconst (-1), 1) := by decide +kernel
theorem dX9_look_9 : decode cX9_look 9 = .ok (.ireturn, 1) := by decide +kernel
theorem dX9_look_10 : decode cX9_look 10 = .ok (.iload_n 2, 1) := by decide +kernel
theorem dX9_look_11 : decode cX9_look 11 = .ok (.iconst 5, 1) := by decide +kernel
theorem dX9_look_12 : decode cX9_look 12 = .ok (.isub, 1) := by decide +kernel
theorem dX9_look_13 : decode cX9_look 13 = .ok (.iconst 0, 1) := by decide +kernel
theorem dX9_look_14 : decode cX9_look 14 = .ok (.aload_n 0, 1) := by decide +kernel
theorem dX9_look_15 : decode cX9_look 15 = .ok (.getfield 23, 3) := by decide +kernel
theorem dX9_look_18 : decode cX9_look 18 = .ok (.iload_n 1, 1) := by decide +kernel
theorem dX9_look_19 : decode cX9_look 19 = .ok (.iaload, 1) := by decide +kernel
theorem dX9_look_20 : decode cX9_look 20 = .ok (.iconst 1, 1) := by decide +kernel
theorem dX9_look_21 : decode cX9_look 21 = .ok (.isub, 1) := by decide +kernel
theorem dX9_look_22 : decode cX9_look 22 = .ok (.invokestatic 91, 3) := by decide +kernel
theorem dX9_look_25 : decode cX9_look 25 = .ok (.ifCond .eq 16, 3) := by decide +kernel
theorem dX9_look_28 : decode cX9_look 28 = .ok (.aload_n 0, 1) := by decide +kernel
theorem dX9_look_29 : decode cX9_look 29 = .ok (.getfield 20, 3) := by decide +kernel
theorem dX9_look_32 : decode cX9_look 32 = .ok (.iconst 3, 1) := by decide +kernel
theorem dX9_look_33 : decode cX9_look 33 = .ok (.iload_n 1, 1) := by decide +kernel
theorem dX9_look_34 : decode cX9_look 34 = .ok (.imul, 1) := by decide +kernel
theorem dX9_look_35 : decode cX9_look 35 = .ok (.iload_n 2, 1) := by decide +kernel
theorem dX9_look_36 : decode cX9_look 36 = .ok (.iadd, 1) := by decide +kernel
theorem dX9_look_37 : decode cX9_look 37 = .ok (.iconst 5, 1) := by decide +kernel
theorem dX9_look_38 : decode cX9_look 38 = .ok (.isub, 1) := by decide +kernel
theorem dX9_look_39 : decode cX9_look 39 = .ok (.iaload, 1) := by decide +kernel
theorem dX9_look_40 : decode cX9_look 40 = .ok (.ireturn, 1) := by decide +kernel
theorem dX9_look_41 : decode cX9_look 41 = .ok (.iconst 0, 1) := by decide +kernel
theorem dX9_look_42 : decode cX9_look 42 = .ok (.istore_n 3, 1) := by decide +kernel
theorem dX9_look_43 : decode cX9_look 43 = .ok (.iload_n 2, 1) := by decide +kernel
theorem dX9_look_44 : decode cX9_look 44 = .ok (.tableswitch 184 0 4 #[36, 52, 59, 86, 135], 36) := by decide +kernel
theorem dX9_look_80 : decode cX9_look 80 = .ok (.aload_n 0, 1) := by decide +kernel
theorem dX9_look_81 : decode cX9_look 81 = .ok (.getfield 20, 3) := by decide +kernel
theorem dX9_look_84 : decode cX9_look 84 = .ok (.iconst 3, 1) := by decide +kernel
theorem dX9_look_85 : decode cX9_look 85 = .ok (.iload_n 1, 1) := by decide +kernel
theorem dX9_look_86 : decode cX9_look 86 = .ok (.imul, 1) := by decide +kernel
theorem dX9_look_87 : decode cX9_look 87 = .ok (.aload_n 0, 1) := by decide +kernel
theorem dX9_look_88 : decode cX9_look 88 = .ok (.getfield 26, 3) := by decide +kernel
theorem dX9_look_91 : decode cX9_look 91 = .ok (.iload_n 1, 1) := by decide +kernel
theorem dX9_look_92 : decode cX9_look 92 = .ok (.iaload, 1) := by decide +kernel
theorem dX9_look_93 : decode cX9_look 93 = .ok (.iadd, 1) := by decide +kernel
theorem dX9_look_94 : decode cX9_look 94 = .ok (.iaload, 1) := by decide +kernel
theorem dX9_look_95 : decode cX9_look 95 = .ok (.ireturn, 1) := by decide +kernel
theorem dX9_look_96 : decode cX9_look 96 = .ok (.aload_n 0, 1) := by decide +kernel
theorem dX9_look_97 : decode cX9_look 97 = .ok (.getfield 23, 3) := by decide +kernel
theorem dX9_look_100 : decode cX9_look 100 = .ok (.iload_n 1, 1) := by decide +kernel
theorem dX9_look_101 : decode cX9_look 101 = .ok (.iaload, 1) := by decide +kernel
theorem dX9_look_102 : decode cX9_look 102 = .ok (.ireturn, 1) := by decide +kernel
theorem dX9_look_103 : decode cX9_look 103 = .ok (.aload_n 0, 1) := by decide +kernel
theorem dX9_look_104 : decode cX9_look 104 = .ok (.invokevirtual 111, 3) := by decide +kernel
theorem dX9_look_107 : decode cX9_look 107 = .ok (.aload_n 0, 1) := by decide +kernel
theorem dX9_look_108 : decode cX9_look 108 = .ok (.aload_n 0, 1) := by decide +kernel
theorem dX9_look_109 : decode cX9_look 109 = .ok (.getfield 118, 3) := by decide +kernel
theorem dX9_look_112 : decode cX9_look 112 = .ok (.invokevirtual 114, 3) := by decide +kernel
theorem dX9_look_115 : decode cX9_look 115 = .ok (.aload_n 0, 1) := by decide +kernel
theorem dX9_look_116 : decode cX9_look 116 = .ok (.getfield 57, 3) := by decide +kernel
theorem dX9_look_119 : decode cX9_look 119 = .ok (.iload_n 1, 1) := by decide +kernel
theorem dX9_look_120 : decode cX9_look 120 = .ok (.baload, 1) := by decide +kernel
theorem dX9_look_121 : decode cX9_look 121 = .ok (.ifCond .eq 7, 3) := by decide +kernel
theorem dX9_look_124 : decode cX9_look 124 = .ok (.iconst 1, 1) := by decide +kernel
theorem dX9_look_125 : decode cX9_look 125 = .ok (.goto 4, 3) := by decide +kernel
theorem dX9_look_128 : decode cX9_look 128 = .ok (.iconst 0, 1) := by decide +kernel
theorem dX9_look_129 : decode cX9_look 129 = .ok (.ireturn, 1) := by decide +kernel
theorem dX9_look_130 : decode cX9_look 130 = .ok (.iconst 0, 1) := by decide +kernel
theorem dX9_look_131 : decode cX9_look 131 = .ok (.istore 4, 2) := by decide +kernel
theorem dX9_look_133 : decode cX9_look 133 = .ok (.iload 4, 2) := by decide +kernel
theorem dX9_look_135 : decode cX9_look 135 = .ok (.aload_n 0, 1) := by decide +kernel
theorem dX9_look_136 : decode cX9_look 136 = .ok (.getfield 108, 3) := by decide +kernel
theorem dX9_look_139 : decode cX9_look 139 = .ok (.if_icmp .ge 38, 3) := by decide +kernel
theorem dX9_look_142 : decode cX9_look 142 = .ok (.iload_n 3, 1) := by decide +kernel
theorem dX9_look_143 : decode cX9_look 143 = .ok (.aload_n 0, 1) := by decide +kernel
theorem dX9_look_144 : decode cX9_look 144 = .ok (.getfield 41, 3) := by decide +kernel
theorem dX9_look_147 : decode cX9_look 147 = .ok (.iload 4, 2) := by decide +kernel
theorem dX9_look_149 : decode cX9_look 149 = .ok (.baload, 1) := by decide +kernel
theorem dX9_look_150 : decode cX9_look 150 = .ok (.ifCond .ne 18, 3) := by decide +kernel
theorem dX9_look_153 : decode cX9_look 153 = .ok (.aload_n 0, 1) := by decide +kernel
theorem dX9_look_154 : decode cX9_look 154 = .ok (.getfield 35, 3) := by decide +kernel
theorem dX9_look_157 : decode cX9_look 157 = .ok (.iload 4, 2) := by decide +kernel
theorem dX9_look_159 : decode cX9_look 159 = .ok (.iaload, 1) := by decide +kernel
theorem dX9_look_160 : decode cX9_look 160 = .ok (.iload_n 1, 1) := by decide +kernel
theorem dX9_look_161 : decode cX9_look 161 = .ok (.if_icmp .ne 7, 3) := by decide +kernel
theorem dX9_look_164 : decode cX9_look 164 = .ok (.iconst 1, 1) := by decide +kernel
theorem dX9_look_165 : decode cX9_look 165 = .ok (.goto 4, 3) := by decide +kernel
theorem dX9_look_168 : decode cX9_look 168 = .ok (.iconst 0, 1) := by decide +kernel
theorem dX9_look_169 : decode cX9_look 169 = .ok (.iadd, 1) := by decide +kernel
theorem dX9_look_170 : decode cX9_look 170 = .ok (.istore_n 3, 1) := by decide +kernel
theorem dX9_look_171 : decode cX9_look 171 = .ok (.iinc 4 1, 3) := by decide +kernel
theorem dX9_look_174 : decode cX9_look 174 = .ok (.goto (-41), 3) := by decide +kernel
theorem dX9_look_177 : decode cX9_look 177 = .ok (.iload_n 3, 1) := by decide +kernel
theorem dX9_look_178 : decode cX9_look 178 = .ok (.ireturn, 1) := by decide +kernel
theorem dX9_look_179 : decode cX9_look 179 = .ok (.iconst 0, 1) := by decide +kernel
theorem dX9_look_180 : decode cX9_look 180 = .ok (.istore 4, 2) := by decide +kernel
theorem dX9_look_182 : decode cX9_look 182 = .ok (.iload 4, 2) := by decide +kernel
theorem dX9_look_184 : decode cX9_look 184 = .ok (.aload_n 0, 1) := by decide +kernel
theorem dX9_look_185 : decode cX9_look 185 = .ok (.getfield 108, 3) := by decide +kernel
theorem dX9_look_188 : decode cX9_look 188 = .ok (.if_icmp .ge 38, 3) := by decide +kernel
theorem dX9_look_191 : decode cX9_look 191 = .ok (.iload_n 3, 1) := by decide +kernel
theorem dX9_look_192 : decode cX9_look 192 = .ok (.aload_n 0, 1) := by decide +kernel
theorem dX9_look_193 : decode cX9_look 193 = .ok (.getfield 41, 3) := by decide +kernel
theorem dX9_look_196 : decode cX9_look 196 = .ok (.iload 4, 2) := by decide +kernel
theorem dX9_look_198 : decode cX9_look 198 = .ok (.baload, 1) := by decide +kernel
theorem dX9_look_199 : decode cX9_look 199 = .ok (.ifCond .ne 18, 3) := by decide +kernel
theorem dX9_look_202 : decode cX9_look 202 = .ok (.aload_n 0, 1) := by decide +kernel
theorem dX9_look_203 : decode cX9_look 203 = .ok (.getfield 32, 3) := by decide +kernel
theorem dX9_look_206 : decode cX9_look 206 = .ok (.iload 4, 2) := by decide +kernel
theorem dX9_look_208 : decode cX9_look 208 = .ok (.iaload, 1) := by decide +kernel
theorem dX9_look_209 : decode cX9_look 209 = .ok (.iload_n 1, 1) := by decide +kernel
theorem dX9_look_210 : decode cX9_look 210 = .ok (.if_icmp .ne 7, 3) := by decide +kernel
theorem dX9_look_213 : decode cX9_look 213 = .ok (.iconst 1, 1) := by decide +kernel
theorem dX9_look_214 : decode cX9_look 214 = .ok (.goto 4, 3) := by decide +kernel
theorem dX9_look_217 : decode cX9_look 217 = .ok (.iconst 0, 1) := by decide +kernel
theorem dX9_look_218 : decode cX9_look 218 = .ok (.iadd, 1) := by decide +kernel
theorem dX9_look_219 : decode cX9_look 219 = .ok (.istore_n 3, 1) := by decide +kernel
theorem dX9_look_220 : decode cX9_look 220 = .ok (.iinc 4 1, 3) := by decide +kernel
theorem dX9_look_223 : decode cX9_look 223 = .ok (.goto (-41), 3) := by decide +kernel
theorem dX9_look_226 : decode cX9_look 226 = .ok (.iload_n 3, 1) := by decide +kernel
theorem dX9_look_227 : decode cX9_look 227 = .ok (.ireturn, 1) := by decide +kernel
theorem dX9_look_228 : decode cX9_look 228 = .ok (.iconst (-1), 1) := by decide +kernel
theorem dX9_look_229 : decode cX9_look 229 = .ok (.ireturn, 1) := by decide +kernel
set_option maxRecDepth 20000 in
theorem ggX9_count_X9_asItIs : GoodIn wsX9_count wsX9_asItIs := goodIn_r _ [11, 2, 12, 3, 1, 13, 14, 15, 28, 29, 30, 31, 32, 33, 34, 35, 36, 37, 38, 39, 40, 41, 42, 43, 44, 45, 46, 47, 48, 49, 50, 51, 52, 53, 54, 55, 56, 57] (by decide +kernel) (by decide +kernel)
set_option maxRecDepth 20000 in
theorem gX9_count_X9_asItIs : GoodIn wsX9_count (wsV RX9 111 RX9 yX9_asItIs wsX9_asItIs) := goodIn_app (goodIn_of _ (by decide +kernel)) ggX9_count_X9_asItIs
set_option maxRecDepth 20000 in
theorem ggX9_count_X9_reaches : GoodIn wsX9_count wsX9_reaches := goodIn_r _ [19, 5, 2, 12, 20, 21, 28, 29, 30, 31, 32, 33, 34, 35, 36, 37, 38, 39, 40, 41, 42, 43, 44, 45, 46, 47, 48, 49, 50, 51, 52, 53, 54, 55, 56, 57] (by decide +kernel) (by decide +kernel)
set_option maxRecDepth 20000 in
theorem gX9_count_X9_reaches : GoodIn wsX9_count (wsV RX9 114 RX9 yX9_reaches wsX9_reaches) := goodIn_app (goodIn_of _ (by decide +kernel)) ggX9_count_X9_reaches
set_option maxRecDepth 20000 in
theorem ggX9_count_X9_ways : GoodIn wsX9_count wsX9_ways := goodIn_r _ [25, 4, 1, 5, 26, 27, 7, 8, 9, 10, 11, 2, 12, 3, 13, 14, 15, 16, 17, 18, 19, 20, 21, 28, 29, 30, 31, 32, 33, 34, 35, 36, 37, 38, 39, 40, 41, 42, 43, 44, 45, 46, 47, 48, 49, 50, 51, 52, 53, 54, 55, 56, 57] (by decide +kernel) (by decide +kernel)
set_option maxRecDepth 20000 in
theorem gX9_count_X9_ways : GoodIn wsX9_count (wsV RX9 159 RX9 yX9_ways wsX9_ways) := goodIn_app (goodIn_of _ (by decide +kernel)) ggX9_count_X9_ways
theorem dX9_count_0 : decode cX9_count 0 = .ok (.iconst 0, 1) := by decide +kernel
theorem dX9_count_1 : decode cX9_count 1 = .ok (.istore_n 2, 1) := by decide +kernel
theorem dX9_count_2 : decode cX9_count 2 = .ok (.iload_n 1, 1) := by decide +kernel
theorem dX9_count_3 : decode cX9_count 3 = .ok (.tableswitch 148 0 6 #[41, 46, 51, 86, 133, 138, 143], 41) := by decide +kernel
theorem dX9_count_44 : decode cX9_count 44 = .ok (.aload_n 0, 1) := by decide +kernel
theorem dX9_count_45 : decode cX9_count 45 = .ok (.getfield 87, 3) := by decide +kernel
theorem dX9_count_48 : decode cX9_count 48 = .ok (.ireturn, 1) := by decide +kernel
theorem dX9_count_49 : decode cX9_count 49 = .ok (.aload_n 0, 1) := by decide +kernel
theorem dX9_count_50 : decode cX9_count 50 = .ok (.getfield 108, 3) := by decide +kernel
theorem dX9_count_53 : decode cX9_count 53 = .ok (.ireturn, 1) := by decide +kernel
theorem dX9_count_54 : decode cX9_count 54 = .ok (.iconst 0, 1) := by decide +kernel
theorem dX9_count_55 : decode cX9_count 55 = .ok (.istore_n 3, 1) := by decide +kernel
theorem dX9_count_56 : decode cX9_count 56 = .ok (.iload_n 3, 1) := by decide +kernel
theorem dX9_count_57 : decode cX9_count 57 = .ok (.aload_n 0, 1) := by decide +kernel
theorem dX9_count_58 : decode cX9_count 58 = .ok (.getfield 108, 3) := by decide +kernel
theorem dX9_count_61 : decode cX9_count 61 = .ok (.if_icmp .ge 26, 3) := by decide +kernel
theorem dX9_count_64 : decode cX9_count 64 = .ok (.iload_n 2, 1) := by decide +kernel
theorem dX9_count_65 : decode cX9_count 65 = .ok (.aload_n 0, 1) := by decide +kernel
theorem dX9_count_66 : decode cX9_count 66 = .ok (.getfield 41, 3) := by decide +kernel
theorem dX9_count_69 : decode cX9_count 69 = .ok (.iload_n 3, 1) := by decide +kernel
theorem dX9_count_70 : decode cX9_count 70 = .ok (.baload, 1) := by decide +kernel
theorem dX9_count_71 : decode cX9_count 71 = .ok (.ifCond .eq 7, 3) := by decide +kernel
theorem dX9_count_74 : decode cX9_count 74 = .ok (.iconst 0, 1) := by decide +kernel
theorem dX9_count_75 : decode cX9_count 75 = .ok (.goto 4, 3) := by decide +kernel
theorem dX9_count_78 : decode cX9_count 78 = .ok (.iconst 1, 1) := by decide +kernel
theorem dX9_count_79 : decode cX9_count 79 = .ok (.iadd, 1) := by decide +kernel
theorem dX9_count_80 : decode cX9_count 80 = .ok (.istore_n 2, 1) := by decide +kernel
theorem dX9_count_81 : decode cX9_count 81 = .ok (.iinc 3 1, 3) := by decide +kernel
theorem dX9_count_84 : decode cX9_count 84 = .ok (.goto (-28), 3) := by decide +kernel
theorem dX9_count_87 : decode cX9_count 87 = .ok (.iload_n 2, 1) := by decide +kernel
theorem dX9_count_88 : decode cX9_count 88 = .ok (.ireturn, 1) := by decide +kernel
theorem dX9_count_89 : decode cX9_count 89 = .ok (.aload_n 0, 1) := by decide +kernel
theorem dX9_count_90 : decode cX9_count 90 = .ok (.invokevirtual 111, 3) := by decide +kernel
theorem dX9_count_93 : decode cX9_count 93 = .ok (.aload_n 0, 1) := by decide +kernel
theorem dX9_count_94 : decode cX9_count 94 = .ok (.aload_n 0, 1) := by decide +kernel
theorem dX9_count_95 : decode cX9_count 95 = .ok (.getfield 118, 3) := by decide +kernel
theorem dX9_count_98 : decode cX9_count 98 = .ok (.invokevirtual 114, 3) := by decide +kernel
theorem dX9_count_101 : decode cX9_count 101 = .ok (.iconst 0, 1) := by decide +kernel
theorem dX9_count_102 : decode cX9_count 102 = .ok (.istore_n 3, 1) := by decide +kernel
theorem dX9_count_103 : decode cX9_count 103 = .ok (.iload_n 3, 1) := by decide +kernel
theorem dX9_count_104 : decode cX9_count 104 = .ok (.aload_n 0, 1) := by decide +kernel
theorem dX9_count_105 : decode cX9_count 105 = .ok (.getfield 87, 3) := by decide +kernel
theorem dX9_count_108 : decode cX9_count 108 = .ok (.if_icmp .ge 26, 3) := by decide +kernel
theorem dX9_count_111 : decode cX9_count 111 = .ok (.iload_n 2, 1) := by decide +kernel
theorem dX9_count_112 : decode cX9_count 112 = .ok (.aload_n 0, 1) := by decide +kernel
theorem dX9_count_113 : decode cX9_count 113 = .ok (.getfield 57, 3) := by decide +kernel
theorem dX9_count_116 : decode cX9_count 116 = .ok (.iload_n 3, 1) := by decide +kernel
theorem dX9_count_117 : decode cX9_count 117 = .ok (.baload, 1) := by decide +kernel
theorem dX9_count_118 : decode cX9_count 118 = .ok (.ifCond .eq 7, 3) := by decide +kernel
theorem dX9_count_121 : decode cX9_count 121 = .ok (.iconst 1, 1) := by decide +kernel
theorem dX9_count_122 : decode cX9_count 122 = .ok (.goto 4, 3) := by decide +kernel
theorem dX9_count_125 : decode cX9_count 125 = .ok (.iconst 0, 1) := by decide +kernel
theorem dX9_count_126 : decode cX9_count 126 = .ok (.iadd, 1) := by decide +kernel
theorem dX9_count_127 : decode cX9_count 127 = .ok (.istore_n 2, 1) := by decide +kernel
theorem dX9_count_128 : decode cX9_count 128 = .ok (.iinc 3 1, 3) := by decide +kernel
theorem dX9_count_131 : decode cX9_count 131 = .ok (.goto (-28), 3) := by decide +kernel
theorem dX9_count_134 : decode cX9_count 134 = .ok (.iload_n 2, 1) := by decide +kernel
theorem dX9_count_135 : decode cX9_count 135 = .ok (.ireturn, 1) := by decide +kernel
theorem dX9_count_136 : decode cX9_count 136 = .ok (.aload_n 0, 1) := by decide +kernel
theorem dX9_count_137 : decode cX9_count 137 = .ok (.getfield 121, 3) := by decide +kernel
theorem dX9_count_140 : decode cX9_count 140 = .ok (.ireturn, 1) := by decide +kernel
theorem dX9_count_141 : decode cX9_count 141 = .ok (.aload_n 0, 1) := by decide +kernel
theorem dX9_count_142 : decode cX9_count 142 = .ok (.getfield 118, 3) := by decide +kernel
theorem dX9_count_145 : decode cX9_count 145 = .ok (.ireturn, 1) := by decide +kernel
theorem dX9_count_146 : decode cX9_count 146 = .ok (.aload_n 0, 1) := by decide +kernel
theorem dX9_count_147 : decode cX9_count 147 = .ok (.invokevirtual 159, 3) := by decide +kernel
theorem dX9_count_150 : decode cX9_count 150 = .ok (.ireturn, 1) := by decide +kernel
theorem dX9_count_151 : decode cX9_count 151 = .ok (.iconst (-1), 1) := by decide +kernel
theorem dX9_count_152 : decode cX9_count 152 = .ok (.ireturn, 1) := by decide +kernel
theorem dJ6_compare_7cf53_0 : decode cJ6_compare_7cf53 0 = .ok (.iload_n 0, 1) := by decide +kernel
theorem dJ6_compare_7cf53_1 : decode cJ6_compare_7cf53 1 = .ok (.iload_n 1, 1) := by decide +kernel
theorem dJ6_compare_7cf53_2 : decode cJ6_compare_7cf53 2 = .ok (.if_icmp .ge 7, 3) := by decide +kernel
theorem dJ6_compare_7cf53_5 : decode cJ6_compare_7cf53 5 = .ok (.iconst (-1), 1) := by decide +kernel
theorem dJ6_compare_7cf53_6 : decode cJ6_compare_7cf53 6 = .ok (.goto 13, 3) := by decide +kernel
theorem dJ6_compare_7cf53_9 : decode cJ6_compare_7cf53 9 = .ok (.iload_n 0, 1) := by decide +kernel
theorem dJ6_compare_7cf53_10 : decode cJ6_compare_7cf53 10 = .ok (.iload_n 1, 1) := by decide +kernel
theorem dJ6_compare_7cf53_11 : decode cJ6_compare_7cf53 11 = .ok (.if_icmp .ne 7, 3) := by decide +kernel
theorem dJ6_compare_7cf53_14 : decode cJ6_compare_7cf53 14 = .ok (.iconst 0, 1) := by decide +kernel
theorem dJ6_compare_7cf53_15 : decode cJ6_compare_7cf53 15 = .ok (.goto 4, 3) := by decide +kernel
theorem dJ6_compare_7cf53_18 : decode cJ6_compare_7cf53 18 = .ok (.iconst 1, 1) := by decide +kernel
theorem dJ6_compare_7cf53_19 : decode cJ6_compare_7cf53 19 = .ok (.ireturn, 1) := by decide +kernel
theorem dJ6_lowestOneBit_0f7a4_0 : decode cJ6_lowestOneBit_0f7a4 0 = .ok (.iload_n 0, 1) := by decide +kernel
theorem dJ6_lowestOneBit_0f7a4_1 : decode cJ6_lowestOneBit_0f7a4 1 = .ok (.iload_n 0, 1) := by decide +kernel
theorem dJ6_lowestOneBit_0f7a4_2 : decode cJ6_lowestOneBit_0f7a4 2 = .ok (.ineg, 1) := by decide +kernel
theorem dJ6_lowestOneBit_0f7a4_3 : decode cJ6_lowestOneBit_0f7a4 3 = .ok (.iand, 1) := by decide +kernel
theorem dJ6_lowestOneBit_0f7a4_4 : decode cJ6_lowestOneBit_0f7a4 4 = .ok (.ireturn, 1) := by decide +kernel
theorem dJ6_bitCount_0f7a4_0 : decode cJ6_bitCount_0f7a4 0 = .ok (.iload_n 0, 1) := by decide +kernel
theorem dJ6_bitCount_0f7a4_1 : decode cJ6_bitCount_0f7a4 1 = .ok (.iload_n 0, 1) := by decide +kernel
theorem dJ6_bitCount_0f7a4_2 : decode cJ6_bitCount_0f7a4 2 = .ok (.iconst 1, 1) := by decide +kernel
theorem dJ6_bitCount_0f7a4_3 : decode cJ6_bitCount_0f7a4 3 = .ok (.iushr, 1) := by decide +kernel
theorem dJ6_bitCount_0f7a4_4 : decode cJ6_bitCount_0f7a4 4 = .ok (.ldc_w 265, 3) := by decide +kernel
theorem dJ6_bitCount_0f7a4_7 : decode cJ6_bitCount_0f7a4 7 = .ok (.iand, 1) := by decide +kernel
theorem dJ6_bitCount_0f7a4_8 : decode cJ6_bitCount_0f7a4 8 = .ok (.isub, 1) := by decide +kernel
theorem dJ6_bitCount_0f7a4_9 : decode cJ6_bitCount_0f7a4 9 = .ok (.istore_n 0, 1) := by decide +kernel
theorem dJ6_bitCount_0f7a4_10 : decode cJ6_bitCount_0f7a4 10 = .ok (.iload_n 0, 1) := by decide +kernel
theorem dJ6_bitCount_0f7a4_11 : decode cJ6_bitCount_0f7a4 11 = .ok (.ldc_w 266, 3) := by decide +kernel
theorem dJ6_bitCount_0f7a4_14 : decode cJ6_bitCount_0f7a4 14 = .ok (.iand, 1) := by decide +kernel
theorem dJ6_bitCount_0f7a4_15 : decode cJ6_bitCount_0f7a4 15 = .ok (.iload_n 0, 1) := by decide +kernel
theorem dJ6_bitCount_0f7a4_16 : decode cJ6_bitCount_0f7a4 16 = .ok (.iconst 2, 1) := by decide +kernel
theorem dJ6_bitCount_0f7a4_17 : decode cJ6_bitCount_0f7a4 17 = .ok (.iushr, 1) := by decide +kernel
theorem dJ6_bitCount_0f7a4_18 : decode cJ6_bitCount_0f7a4 18 = .ok (.ldc_w 266, 3) := by decide +kernel
theorem dJ6_bitCount_0f7a4_21 : decode cJ6_bitCount_0f7a4 21 = .ok (.iand, 1) := by decide +kernel
theorem dJ6_bitCount_0f7a4_22 : decode cJ6_bitCount_0f7a4 22 = .ok (.iadd, 1) := by decide +kernel
theorem dJ6_bitCount_0f7a4_23 : decode cJ6_bitCount_0f7a4 23 = .ok (.istore_n 0, 1) := by decide +kernel
theorem dJ6_bitCount_0f7a4_24 : decode cJ6_bitCount_0f7a4 24 = .ok (.iload_n 0, 1) := by decide +kernel
theorem dJ6_bitCount_0f7a4_25 : decode cJ6_bitCount_0f7a4 25 = .ok (.iload_n 0, 1) := by decide +kernel
theorem dJ6_bitCount_0f7a4_26 : decode cJ6_bitCount_0f7a4 26 = .ok (.iconst 4, 1) := by decide +kernel
theorem dJ6_bitCount_0f7a4_27 : decode cJ6_bitCount_0f7a4 27 = .ok (.iushr, 1) := by decide +kernel
theorem dJ6_bitCount_0f7a4_28 : decode cJ6_bitCount_0f7a4 28 = .ok (.iadd, 1) := by decide +kernel
theorem dJ6_bitCount_0f7a4_29 : decode cJ6_bitCount_0f7a4 29 = .ok (.ldc_w 267, 3) := by decide +kernel
end
section
theorem dJ6_bitCount_0f7a4_32 : decode cJ6_bitCount_0f7a4 32 = .ok (.iand, 1) := by decide +kernel
theorem dJ6_bitCount_0f7a4_33 : decode cJ6_bitCount_0f7a4 33 = .ok (.istore_n 0, 1) := by decide +kernel
theorem dJ6_bitCount_0f7a4_34 : decode cJ6_bitCount_0f7a4 34 = .ok (.iload_n 0, 1) := by decide +kernel
theorem dJ6_bitCount_0f7a4_35 : decode cJ6_bitCount_0f7a4 35 = .ok (.iload_n 0, 1) := by decide +kernel
theorem dJ6_bitCount_0f7a4_36 : decode cJ6_bitCount_0f7a4 36 = .ok (.bipush 8, 2) := by decide +kernel
theorem dJ6_bitCount_0f7a4_38 : decode cJ6_bitCount_0f7a4 38 = .ok (.iushr, 1) := by decide +kernel
theorem dJ6_bitCount_0f7a4_39 : decode cJ6_bitCount_0f7a4 39 = .ok (.iadd, 1) := by decide +kernel
theorem dJ6_bitCount_0f7a4_40 : decode cJ6_bitCount_0f7a4 40 = .ok (.istore_n 0, 1) := by decide +kernel
theorem dJ6_bitCount_0f7a4_41 : decode cJ6_bitCount_0f7a4 41 = .ok (.iload_n 0, 1) := by decide +kernel
theorem dJ6_bitCount_0f7a4_42 : decode cJ6_bitCount_0f7a4 42 = .ok (.iload_n 0, 1) := by decide +kernel
theorem dJ6_bitCount_0f7a4_43 : decode cJ6_bitCount_0f7a4 43 = .ok (.bipush 16, 2) := by decide +kernel
theorem dJ6_bitCount_0f7a4_45 : decode cJ6_bitCount_0f7a4 45 = .ok (.iushr, 1) := by decide +kernel
theorem dJ6_bitCount_0f7a4_46 : decode cJ6_bitCount_0f7a4 46 = .ok (.iadd, 1) := by decide +kernel
theorem dJ6_bitCount_0f7a4_47 : decode cJ6_bitCount_0f7a4 47 = .ok (.istore_n 0, 1) := by decide +kernel
theorem dJ6_bitCount_0f7a4_48 : decode cJ6_bitCount_0f7a4 48 = .ok (.iload_n 0, 1) := by decide +kernel
theorem dJ6_bitCount_0f7a4_49 : decode cJ6_bitCount_0f7a4 49 = .ok (.bipush 63, 2) := by decide +kernel
theorem dJ6_bitCount_0f7a4_51 : decode cJ6_bitCount_0f7a4 51 = .ok (.iand, 1) := by decide +kernel
theorem dJ6_bitCount_0f7a4_52 : decode cJ6_bitCount_0f7a4 52 = .ok (.ireturn, 1) := by decide +kernel
theorem dJ13_bitCount_95d88_0 : decode cJ13_bitCount_95d88 0 = .ok (.lload_n 0, 1) := by decide +kernel
theorem dJ13_bitCount_95d88_1 : decode cJ13_bitCount_95d88 1 = .ok (.lload_n 0, 1) := by decide +kernel
theorem dJ13_bitCount_95d88_2 : decode cJ13_bitCount_95d88 2 = .ok (.iconst 1, 1) := by decide +kernel
theorem dJ13_bitCount_95d88_3 : decode cJ13_bitCount_95d88 3 = .ok (.lushr, 1) := by decide +kernel
theorem dJ13_bitCount_95d88_4 : decode cJ13_bitCount_95d88 4 = .ok (.ldc2_w 314, 3) := by decide +kernel
theorem dJ13_bitCount_95d88_7 : decode cJ13_bitCount_95d88 7 = .ok (.land, 1) := by decide +kernel
theorem dJ13_bitCount_95d88_8 : decode cJ13_bitCount_95d88 8 = .ok (.lsub, 1) := by decide +kernel
theorem dJ13_bitCount_95d88_9 : decode cJ13_bitCount_95d88 9 = .ok (.lstore_n 0, 1) := by decide +kernel
theorem dJ13_bitCount_95d88_10 : decode cJ13_bitCount_95d88 10 = .ok (.lload_n 0, 1) := by decide +kernel
theorem dJ13_bitCount_95d88_11 : decode cJ13_bitCount_95d88 11 = .ok (.ldc2_w 316, 3) := by decide +kernel
theorem dJ13_bitCount_95d88_14 : decode cJ13_bitCount_95d88 14 = .ok (.land, 1) := by decide +kernel
theorem dJ13_bitCount_95d88_15 : decode cJ13_bitCount_95d88 15 = .ok (.lload_n 0, 1) := by decide +kernel
theorem dJ13_bitCount_95d88_16 : decode cJ13_bitCount_95d88 16 = .ok (.iconst 2, 1) := by decide +kernel
theorem dJ13_bitCount_95d88_17 : decode cJ13_bitCount_95d88 17 = .ok (.lushr, 1) := by decide +kernel
theorem dJ13_bitCount_95d88_18 : decode cJ13_bitCount_95d88 18 = .ok (.ldc2_w 316, 3) := by decide +kernel
theorem dJ13_bitCount_95d88_21 : decode cJ13_bitCount_95d88 21 = .ok (.land, 1) := by decide +kernel
theorem dJ13_bitCount_95d88_22 : decode cJ13_bitCount_95d88 22 = .ok (.ladd, 1) := by decide +kernel
theorem dJ13_bitCount_95d88_23 : decode cJ13_bitCount_95d88 23 = .ok (.lstore_n 0, 1) := by decide +kernel
theorem dJ13_bitCount_95d88_24 : decode cJ13_bitCount_95d88 24 = .ok (.lload_n 0, 1) := by decide +kernel
theorem dJ13_bitCount_95d88_25 : decode cJ13_bitCount_95d88 25 = .ok (.lload_n 0, 1) := by decide +kernel
theorem dJ13_bitCount_95d88_26 : decode cJ13_bitCount_95d88 26 = .ok (.iconst 4, 1) := by decide +kernel
theorem dJ13_bitCount_95d88_27 : decode cJ13_bitCount_95d88 27 = .ok (.lushr, 1) := by decide +kernel
theorem dJ13_bitCount_95d88_28 : decode cJ13_bitCount_95d88 28 = .ok (.ladd, 1) := by decide +kernel
theorem dJ13_bitCount_95d88_29 : decode cJ13_bitCount_95d88 29 = .ok (.ldc2_w 318, 3) := by decide +kernel
theorem dJ13_bitCount_95d88_32 : decode cJ13_bitCount_95d88 32 = .ok (.land, 1) := by decide +kernel
theorem dJ13_bitCount_95d88_33 : decode cJ13_bitCount_95d88 33 = .ok (.lstore_n 0, 1) := by decide +kernel
theorem dJ13_bitCount_95d88_34 : decode cJ13_bitCount_95d88 34 = .ok (.lload_n 0, 1) := by decide +kernel
theorem dJ13_bitCount_95d88_35 : decode cJ13_bitCount_95d88 35 = .ok (.lload_n 0, 1) := by decide +kernel
theorem dJ13_bitCount_95d88_36 : decode cJ13_bitCount_95d88 36 = .ok (.bipush 8, 2) := by decide +kernel
theorem dJ13_bitCount_95d88_38 : decode cJ13_bitCount_95d88 38 = .ok (.lushr, 1) := by decide +kernel
theorem dJ13_bitCount_95d88_39 : decode cJ13_bitCount_95d88 39 = .ok (.ladd, 1) := by decide +kernel
theorem dJ13_bitCount_95d88_40 : decode cJ13_bitCount_95d88 40 = .ok (.lstore_n 0, 1) := by decide +kernel
theorem dJ13_bitCount_95d88_41 : decode cJ13_bitCount_95d88 41 = .ok (.lload_n 0, 1) := by decide +kernel
theorem dJ13_bitCount_95d88_42 : decode cJ13_bitCount_95d88 42 = .ok (.lload_n 0, 1) := by decide +kernel
theorem dJ13_bitCount_95d88_43 : decode cJ13_bitCount_95d88 43 = .ok (.bipush 16, 2) := by decide +kernel
theorem dJ13_bitCount_95d88_45 : decode cJ13_bitCount_95d88 45 = .ok (.lushr, 1) := by decide +kernel
theorem dJ13_bitCount_95d88_46 : decode cJ13_bitCount_95d88 46 = .ok (.ladd, 1) := by decide +kernel
theorem dJ13_bitCount_95d88_47 : decode cJ13_bitCount_95d88 47 = .ok (.lstore_n 0, 1) := by decide +kernel
theorem dJ13_bitCount_95d88_48 : decode cJ13_bitCount_95d88 48 = .ok (.lload_n 0, 1) := by decide +kernel
theorem dJ13_bitCount_95d88_49 : decode cJ13_bitCount_95d88 49 = .ok (.lload_n 0, 1) := by decide +kernel
theorem dJ13_bitCount_95d88_50 : decode cJ13_bitCount_95d88 50 = .ok (.bipush 32, 2) := by decide +kernel
theorem dJ13_bitCount_95d88_52 : decode cJ13_bitCount_95d88 52 = .ok (.lushr, 1) := by decide +kernel
theorem dJ13_bitCount_95d88_53 : decode cJ13_bitCount_95d88 53 = .ok (.ladd, 1) := by decide +kernel
theorem dJ13_bitCount_95d88_54 : decode cJ13_bitCount_95d88 54 = .ok (.lstore_n 0, 1) := by decide +kernel
theorem dJ13_bitCount_95d88_55 : decode cJ13_bitCount_95d88 55 = .ok (.lload_n 0, 1) := by decide +kernel
theorem dJ13_bitCount_95d88_56 : decode cJ13_bitCount_95d88 56 = .ok (.l2i, 1) := by decide +kernel
theorem dJ13_bitCount_95d88_57 : decode cJ13_bitCount_95d88 57 = .ok (.bipush 127, 2) := by decide +kernel
theorem dJ13_bitCount_95d88_59 : decode cJ13_bitCount_95d88 59 = .ok (.iand, 1) := by decide +kernel
theorem dJ13_bitCount_95d88_60 : decode cJ13_bitCount_95d88 60 = .ok (.ireturn, 1) := by decide +kernel
theorem dJ9_min_7cf53_0 : decode cJ9_min_7cf53 0 = .ok (.iload_n 0, 1) := by decide +kernel
theorem dJ9_min_7cf53_1 : decode cJ9_min_7cf53 1 = .ok (.iload_n 1, 1) := by decide +kernel
theorem dJ9_min_7cf53_2 : decode cJ9_min_7cf53 2 = .ok (.if_icmp .gt 7, 3) := by decide +kernel
theorem dJ9_min_7cf53_5 : decode cJ9_min_7cf53 5 = .ok (.iload_n 0, 1) := by decide +kernel
theorem dJ9_min_7cf53_6 : decode cJ9_min_7cf53 6 = .ok (.goto 4, 3) := by decide +kernel
theorem dJ9_min_7cf53_9 : decode cJ9_min_7cf53 9 = .ok (.iload_n 1, 1) := by decide +kernel
theorem dJ9_min_7cf53_10 : decode cJ9_min_7cf53 10 = .ok (.ireturn, 1) := by decide +kernel
abbrev vwCl : List vw_C := [(RX0, TX0, 5), (RX1, TX1, 10), (RX2, TX2, 5), (RX3, TX3, 9), (RX4, TX4, 5), (RX5, TX5, 6), (RX6, TX6, 3), (RX7, TX7, 5), (RX8, TX8, 8), (RX9, TX9, 30)]
end
section
/-! ===== the pure picture: a world is its rows of ints and its rows of longs; the machine's worlds over it ===== -/
abbrev WU : Type := (Nat → Nat → Int32) × (Nat → Nat → Int64)
def u00 : WU := (fun _ _ => 0, fun _ _ => 0)
def uI (u : WU) (k : Nat) (f : Nat → Int32) : WU := (va_up u.1 k f, u.2)
def uJ (u : WU) (k : Nat) (f : Nat → Int64) : WU := (u.1, va_up u.2 k f)
def bl (r : Int32) : Prop := narrow .boolean (.int r) = .int r
def jushr (x : Int64) (y : Int32) : Int64 := (x.toUInt64 >>> (y.toInt64.toUInt64 &&& Int64.toUInt64 63)).toInt64
def jshl (x : Int64) (y : Int32) : Int64 := x <<< (y.toInt64 &&& 63)
def jshr (x : Int64) (y : Int32) : Int64 := x >>> (y.toInt64 &&& 63)
def jiushr (x y : Int32) : Int32 := (x.toUInt32 >>> (y.toUInt32 &&& Int32.toUInt32 31)).toInt32
abbrev ty3 (cI cJ cZ : ClassId) : List (ClassId × FieldType) := [(cI, .int), (cJ, .long), (cZ, .boolean)]
/-- the words of private members of nest mates -/
def nwF : List (String × Nat × String × String × String × String) := [(RX8, 108, "TermsDesk$Parts", "choiceCount", "[I", "TermsDesk"), (RX8, 115, "TermsDesk$Parts", "licence", "[I", "TermsDesk"), (RX8, 118, "TermsDesk$Joins", "told", "I", "TermsDesk"), (RX8, 122, "TermsDesk$Joins", "there", "J", "TermsDesk"), (RX8, 142, "TermsDesk$Parts", "lifted", "[J", "TermsDesk"), (RX8, 146, "TermsDesk$Parts", "top", "I", "TermsDesk"), (RX8, 150, "TermsDesk$Changes", "told", "I", "TermsDesk"), (RX8, 158, "TermsDesk$Flow", "arrived", "[J", "TermsDesk"), (RX8, 96, "TermsDesk$Parts", "told", "I", "TermsDesk"), (RX1, 113, "TermsDesk$Parts", "choiceCount", "[I", "TermsDesk"), (RX1, 116, "TermsDesk$Flow", "arrived", "[J", "TermsDesk"), (RX1, 120, "TermsDesk$Parts", "top", "I", "TermsDesk"), (RX1, 133, "TermsDesk$Parts", "licence", "[I", "TermsDesk"), (RX1, 36, "TermsDesk$Joins", "there", "J", "TermsDesk"), (RX1, 84, "TermsDesk$Joins", "order", "[I", "TermsDesk"), (RX2, 109, "TermsDesk$Joins", "there", "J", "TermsDesk"), (RX2, 113, "TermsDesk$Parts", "licence", "[I", "TermsDesk"), (RX2, 130, "TermsDesk$Parts", "choiceCount", "[I", "TermsDesk"), (RX2, 30, "TermsDesk$Terms", "asked", "[J", "TermsDesk"), (RX2, 39, "TermsDesk$Parts", "lifted", "[J", "TermsDesk"), (RX2, 46, "TermsDesk$Joins", "order", "[I", "TermsDesk"), (RX2, 60, "TermsDesk$Joins", "begin", "[I", "TermsDesk"), (RX2, 63, "TermsDesk$Joins", "end", "[I", "TermsDesk"), (RX2, 66, "TermsDesk$Joins", "sorted", "[I", "TermsDesk"), (RX2, 73, "TermsDesk$Joins", "from", "[I", "TermsDesk"), (RX2, 76, "TermsDesk$Terms", "along", "[J", "TermsDesk"), (RX2, 79, "TermsDesk$Joins", "kind", "[I", "TermsDesk"), (RX2, 82, "TermsDesk$Terms", "fought", "[J", "TermsDesk"), (RX2, 85, "TermsDesk$Parts", "told", "I", "TermsDesk"), (RX2, 89, "TermsDesk$Parts", "top", "I", "TermsDesk"), (RX4, 31, "TermsDesk$Changes", "told", "I", "TermsDesk"), (RX4, 44, "TermsDesk$Parts", "licence", "[I", "TermsDesk"), (RX4, 53, "TermsDesk$Joins", "there", "J", "TermsDesk"), (RX4, 63, "TermsDesk$Changes", "what", "[I", "TermsDesk"), (RX4, 66, "TermsDesk$Changes", "which", "[I", "TermsDesk"), (RX4, 69, "TermsDesk$Changes", "licence", "[I", "TermsDesk"), (RX7, 104, "TermsDesk$Joins", "told", "I", "TermsDesk"), (RX7, 105, "TermsDesk$Joins", "to", "[I", "TermsDesk"), (RX7, 45, "TermsDesk$Parts", "top", "I", "TermsDesk"), (RX7, 51, "TermsDesk$Parts", "told", "I", "TermsDesk"), (RX7, 58, "TermsDesk$Parts", "licence", "[I", "TermsDesk"), (RX7, 71, "TermsDesk$Terms", "along", "[J", "TermsDesk"), (RX7, 77, "TermsDesk$Joins", "kind", "[I", "TermsDesk"), (RX7, 82, "TermsDesk$Joins", "order", "[I", "TermsDesk"), (RX7, 88, "TermsDesk$Joins", "begin", "[I", "TermsDesk"), (RX7, 91, "TermsDesk$Joins", "end", "[I", "TermsDesk"), (RX7, 94, "TermsDesk$Joins", "sorted", "[I", "TermsDesk"), (RX7, 97, "TermsDesk$Joins", "from", "[I", "TermsDesk")]
def nwM : List (String × Nat × MethodName × String) := [(RX8, 18, yX5_init, "TermsDesk"), (RX8, 32, yX0_init, "TermsDesk"), (RX8, 9, yX6_init, "TermsDesk"), (RX0, 28, yX8_holds, "TermsDesk"), (RX1, 87, yX8_holds, "TermsDesk"), (RX2, 35, yX8_pairsOf, "TermsDesk"), (RX2, 69, yX8_holds, "TermsDesk"), (RX3, 37, yX8_within, "TermsDesk"), (RX3, 45, yX8_holds, "TermsDesk"), (RX4, 59, yX8_holds, "TermsDesk"), (RX5, 29, yX8_within, "TermsDesk"), (RX6, 27, yX8_holds, "TermsDesk"), (RX6, 31, yX8_pairOf, "TermsDesk"), (RX7, 42, yX8_pairOf, "TermsDesk"), (RX7, 67, yX8_holds, "TermsDesk")]
def NW (U : State) : Prop := (∀ q ∈ nwF, va_Nw (.fieldLinkNest q.1 q.2.1 q.2.2.1 q.2.2.2.1 q.2.2.2.2.1 q.2.2.2.2.2) U) ∧ ∀ q ∈ nwM, va_Nw (.methodLinkNest q.1 q.2.1 q.2.2.1 q.2.2.2) U
theorem NW.warm {s U : State} (hW : s.WarmedH U.vm) (h : NW s) : NW U := ⟨fun q hq => va_Nw.warmF hW (h.1 q hq), fun q hq => va_Nw.warmM hW (h.2 q hq)⟩
theorem NW.same {s U : State} (hv : s.vm = U.vm) (h : NW s) : NW U := ⟨fun q hq => va_Nw.same rfl hv (h.1 q hq), fun q hq => va_Nw.same rfl hv (h.2 q hq)⟩
def RW (D : va_G) (tys : List (ClassId × FieldType)) (ws : va_W) (U : State) : Prop := va_P D vwCl ws U.heap ∧ va_K D vwCl tys U ∧ NW U
def MW (D : va_G) (tys : List (ClassId × FieldType)) (ws : va_W) (sz : Nat) (U : State) : Prop := U.heap.size = sz ∧ va_P D vwCl ws U.heap ∧ va_K D vwCl tys U ∧ va_D (fun _ => True) ws ∧ NW U
/-- the addresses of a world don't hang on what it holds -/
def ShW (w : WU → va_W) : Prop := ∀ a b : WU, (w a).map Prod.fst = (w b).map Prod.fst
theorem shw_at {w : WU → va_W} (h : ShW w) (a b : WU) {k : Nat} {q : Nat × va_E} (hq : (w a)[k]? = some q) : ∃ e, (w b)[k]? = some (q.1, e) := by
  have e1 : ((w a).map Prod.fst)[k]? = some q.1 := by rw [List.getElem?_map, hq]; rfl
  rw [h a b, List.getElem?_map] at e1
  cases hb : (w b)[k]? with
  | none => rw [hb] at e1; cases e1
  | some z => rw [hb] at e1; exact ⟨z.2, by have := Option.some.inj e1; rw [← this]⟩
theorem shw_D {w : WU → va_W} (h : ShW w) {A : Nat → Prop} {a b : WU} (hD : va_D A (w a)) : va_D A (w b) := by
  refine ⟨fun i j p q hi hj e => ?_, fun k q hq => ?_⟩
  · obtain ⟨e1, h1⟩ := shw_at h b a hi
    obtain ⟨e2, h2⟩ := shw_at h b a hj
    exact hD.1 i j _ _ h1 h2 e
  · obtain ⟨e1, h1⟩ := shw_at h b a hq
    exact hD.2 k (q.1, e1) h1
theorem shw_self {w : WU → va_W} (h : ShW w) {u : WU} {sz : Nat} (hD : va_D (fun _ => True) (w u)) : va_D (va_A (w u00) sz) (w u) := ⟨hD.1, fun k q hq => by obtain ⟨e, he⟩ := shw_at h u u00 hq; exact Or.inl ⟨k, e, he⟩⟩
theorem va_P.to {D : va_G} {cl : List vw_C} {ws ws' : va_W} {H : Heap} (e : ws = ws') (h : va_P D cl ws H) : va_P D cl ws' H := e ▸ h
theorem va_D.to {A : Nat → Prop} {ws ws' : va_W} (e : ws = ws') (h : va_D A ws) : va_D A ws' := e ▸ h
section BASE
variable {p : Program} {l : Launch} {e : Env} {R : Room} {s : State} {m : MethodId} {args : Array Value} {below : List Frame} {meth : Method} {c : Code} {H : Heap} {locs : List Loc} {Q : State → Prop}
variable {cc : ByteArray} {pc : Nat} {ls : Array Slot} {rest st0 : List Value} {D : va_G} {A : Nat → Prop} {a : Nat} {tys : List (ClassId × FieldType)} {ws : va_W} {H0 : Heap} {cells slots : Nat}
theorem psS {As : List Value} (hN : NW s) : PreS s H (va_Pc As NW) As := ⟨fun _ U g mk q => ⟨q.1, NW.same (s := U) (U := U.calling g mk _) rfl q.2⟩, fun U _ hW => ⟨rfl, hN.warm hW⟩⟩
theorem psR {As : List Value} (hK : va_K D vwCl tys s) (hP : va_P D vwCl ws H) (hN : NW s) : PreS s H (va_Pc As (RW D tys ws)) As := ⟨fun _ U g mk q => ⟨q.1, q.2.1, va_K.moved (u := U) (U := U.calling g mk _) (Vm.Alike.refl U.vm) q.2.2.1, NW.same (s := U) (U := U.calling g mk _) rfl q.2.2.2⟩, fun U hU hW => ⟨rfl, by rw [hU]; exact hP, va_K.moved hW.alike hK, hN.warm hW⟩⟩
theorem psM {As : List Value} {B : Nat → Prop} (hK : va_K D vwCl tys s) (hP : va_P D vwCl ws H) (hD : va_D B ws) (hN : NW s) : PreS s H (va_Pc As (MW D tys ws H.size)) As := ⟨fun _ U g mk q => ⟨q.1, q.2.1, q.2.2.1, va_K.moved (u := U) (U := U.calling g mk _) (Vm.Alike.refl U.vm) q.2.2.2.1, q.2.2.2.2.1, NW.same (s := U) (U := U.calling g mk _) rfl q.2.2.2.2.2⟩, fun U hU hW => ⟨rfl, by rw [hU], by rw [hU]; exact hP, va_K.moved hW.alike hK, hD.weaken (fun _ _ _ _ => trivial), hN.warm hW⟩⟩
theorem pvR {As : List Value} {b : Nat} {C : String} (hr : ∃ cell : Cell, H[b]? = some cell ∧ cell.vm.isStatics = false ∧ s.vm.findClass C = some cell.cls) (hK : va_K D vwCl tys s) (hP : va_P D vwCl ws H) (hN : NW s) : PreV s H C b (va_Pc (.ref b :: As) (RW D tys ws)) As := ⟨(psR (As := .ref b :: As) hK hP hN).1, hr, (psR (As := .ref b :: As) hK hP hN).2⟩
theorem pvM {As : List Value} {b : Nat} {C : String} {B : Nat → Prop} (hr : ∃ cell : Cell, H[b]? = some cell ∧ cell.vm.isStatics = false ∧ s.vm.findClass C = some cell.cls) (hK : va_K D vwCl tys s) (hP : va_P D vwCl ws H) (hD : va_D B ws) (hN : NW s) : PreV s H C b (va_Pc (.ref b :: As) (MW D tys ws H.size)) As := ⟨(psM (As := .ref b :: As) hK hP hD hN).1, hr, (psM (As := .ref b :: As) hK hP hD hN).2⟩
theorem aw_le {w : WU → va_W} {A0 : Nat → Prop} {u : WU} (hsh : ShW w) (hD : va_D A0 (w u)) (hA : ∀ q : Nat, s.heap.size ≤ q → A0 q) (hS : va_S A0 s.heap H locs) : ∀ q : Nat, va_A (w u00) H.size q → A0 q := by
  intro q h
  rcases h with ⟨k, e1, hk⟩ | h
  · obtain ⟨e2, h2⟩ := shw_at hsh u00 u hk
    exact hD.2 k _ h2
  · exact hA q (Nat.le_trans hS.1 h)
theorem cMi {w : WU → va_W} (hsh : ShW w) {A0 : Nat → Prop} {u : WU} {post : Int32 → WU → Prop} {a0 : Array Value} (hr : va_Run p l e R s m args below meth c H locs 0 0 0 0 (F0 m pc ls st0) rest (va_Qi post (fun u' t => va_P D vwCl (w u') t.heap) (va_A (w u00) H.size) a0) (va_A (w u00) H.size)) (hA : ∀ q : Nat, s.heap.size ≤ q → A0 q) (hD : va_D A0 (w u)) (hS : va_S A0 s.heap H locs)
    (kk : ∀ (r : Int32) (u' : WU) (H1 : Heap) (locs1 : List Loc), post r u' → va_P D vwCl (w u') H1 → va_D A0 (w u') → va_S A0 s.heap H1 locs1 → W p l e R s m args below meth c H1 locs1 0 0 Q (F0 m (pc + 3) ls (.int r :: rest))) : W p l e R s m args below meth c H locs 0 0 Q (F0 m pc ls st0) :=
  va_calli hr hS (fun q _ h => aw_le hsh hD hA hS q h) (aw_le hsh hD hA hS) (fun r u' t H1 locs1 ht _ hp hB _ _ hS1 => kk r u' H1 locs1 hp (ht ▸ hB) (shw_D hsh hD) hS1)
theorem cMv {w : WU → va_W} (hsh : ShW w) {A0 : Nat → Prop} {u : WU} {post : WU → Prop} {a0 : Array Value} (hr : va_Run p l e R s m args below meth c H locs 0 0 0 0 (F0 m pc ls st0) rest (va_Qv post (fun u' t => va_P D vwCl (w u') t.heap) (va_A (w u00) H.size) a0) (va_A (w u00) H.size)) (hA : ∀ q : Nat, s.heap.size ≤ q → A0 q) (hD : va_D A0 (w u)) (hS : va_S A0 s.heap H locs)
    (kk : ∀ (u' : WU) (H1 : Heap) (locs1 : List Loc), post u' → va_P D vwCl (w u') H1 → va_D A0 (w u') → va_S A0 s.heap H1 locs1 → W p l e R s m args below meth c H1 locs1 0 0 Q (F0 m (pc + 3) ls rest)) : W p l e R s m args below meth c H locs 0 0 Q (F0 m pc ls st0) :=
  va_callv hr hS (fun q _ h => aw_le hsh hD hA hS q h) (aw_le hsh hD hA hS) (fun u' t H1 locs1 ht _ hp hB _ _ hS1 => kk u' H1 locs1 hp (ht ▸ hB) (shw_D hsh hD) hS1)
theorem sIast {w : WU → va_W} {u : WU} (hexec : p.tables.exec = Jvm.exec) (hb : c.code = cc) (hK : va_K D vwCl tys s) (hP : va_P D vwCl (w u) H) (hD : va_D A (w u)) (hS : va_S A H0 H locs) (q0 t0 k : Nat) {cA : ClassId} {n : Nat} (ha : (w u)[q0]? = some (a, .inl (cA, n, .inl (u.1 k)))) (ht : tys[t0]? = some (cA, .int)) (hset : ∀ f, (w u).set q0 (a, .inl (cA, n, .inl f)) = w (uI u k f)) {i x : Int32} (hin : vp_in i n) (hdg : decode cc pc = .ok (.iastore, 1))
    (kk : ∀ (u1 : WU) (H1 : Heap) (locs1 : List Loc), u1 = uI u k (upd (u.1 k) i.toNatClampNeg x) → va_P D vwCl (w u1) H1 → va_D A (w u1) → va_S A H0 H1 locs1 → W p l e R s m args below meth c H1 locs1 cells slots Q (F0 m (pc + 1) ls rest)) : W p l e R s m args below meth c H locs cells slots Q (F0 m pc ls (.int x :: .int i :: .ref a :: rest)) :=
  va_iast hexec hb hK hP hD hS q0 t0 ha ht hin hdg (fun H1 l1 hP1 hD1 hS1 => kk _ H1 l1 rfl (hP1.to (hset _)) (hD1.to (hset _)) hS1)
theorem sZast {w : WU → va_W} {u : WU} (hexec : p.tables.exec = Jvm.exec) (hb : c.code = cc) (hK : va_K D vwCl tys s) (hP : va_P D vwCl (w u) H) (hD : va_D A (w u)) (hS : va_S A H0 H locs) (q0 t0 k : Nat) {cA : ClassId} {n : Nat} (ha : (w u)[q0]? = some (a, .inl (cA, n, .inl (u.1 k)))) (ht : tys[t0]? = some (cA, .boolean)) (hset : ∀ f, (w u).set q0 (a, .inl (cA, n, .inl f)) = w (uI u k f)) {i x : Int32} (hin : vp_in i n) (hdg : decode cc pc = .ok (.bastore, 1))
    (kk : ∀ (u1 : WU) (H1 : Heap) (locs1 : List Loc), u1 = uI u k (upd (u.1 k) i.toNatClampNeg (vp_nar .boolean x)) → va_P D vwCl (w u1) H1 → va_D A (w u1) → va_S A H0 H1 locs1 → W p l e R s m args below meth c H1 locs1 cells slots Q (F0 m (pc + 1) ls rest)) : W p l e R s m args below meth c H locs cells slots Q (F0 m pc ls (.int x :: .int i :: .ref a :: rest)) :=
  va_zast hexec hb hK hP hD hS q0 t0 ha ht hin hdg (fun H1 l1 hP1 hD1 hS1 => kk _ H1 l1 rfl (hP1.to (hset _)) (hD1.to (hset _)) hS1)
theorem sLast {w : WU → va_W} {u : WU} (hexec : p.tables.exec = Jvm.exec) (hb : c.code = cc) (hK : va_K D vwCl tys s) (hP : va_P D vwCl (w u) H) (hD : va_D A (w u)) (hS : va_S A H0 H locs) (q0 t0 k : Nat) {cA : ClassId} {n : Nat} (ha : (w u)[q0]? = some (a, .inl (cA, n, .inr (.inl (u.2 k))))) (ht : tys[t0]? = some (cA, .long)) (hset : ∀ f, (w u).set q0 (a, .inl (cA, n, .inr (.inl f))) = w (uJ u k f)) {i : Int32} {x : Int64} (hin : vp_in i n) (hdg : decode cc pc = .ok (.lastore, 1))
    (kk : ∀ (u1 : WU) (H1 : Heap) (locs1 : List Loc), u1 = uJ u k (vp_updL (u.2 k) i.toNatClampNeg x) → va_P D vwCl (w u1) H1 → va_D A (w u1) → va_S A H0 H1 locs1 → W p l e R s m args below meth c H1 locs1 cells slots Q (F0 m (pc + 1) ls rest)) : W p l e R s m args below meth c H locs cells slots Q (F0 m pc ls (.long x :: .int i :: .ref a :: rest)) :=
  va_last hexec hb hK hP hD hS q0 t0 ha ht hin hdg (fun H1 l1 hP1 hD1 hS1 => kk _ H1 l1 rfl (hP1.to (hset _)) (hD1.to (hset _)) hS1)
/-- what follows a put: the world by its new picture -/
theorem sPut {w : WU → va_W} {ws1 : va_W} {uu : WU} (hset : ws1 = w uu) {g : JFrame} (kk : ∀ (u1 : WU) (H1 : Heap) (locs1 : List Loc), u1 = uu → va_P D vwCl (w u1) H1 → va_D A (w u1) → va_S A H0 H1 locs1 → W p l e R s m args below meth c H1 locs1 cells slots Q g) : ∀ (H1 : Heap) (locs1 : List Loc), va_P D vwCl ws1 H1 → va_D A ws1 → va_S A H0 H1 locs1 → W p l e R s m args below meth c H1 locs1 cells slots Q g := fun H1 l1 hP1 hD1 hS1 => kk uu H1 l1 rfl (hP1.to hset) (hD1.to hset) hS1
end BASE
theorem sw_out {x : Int32} (n : Nat) (h : ∀ k : Nat, k ≤ n → ¬ x = nI k) : x.toInt < 0 ∨ (n : Int) < x.toInt := by
  rcases Decidable.em (x.toInt < 0) with h0 | h0
  · exact Or.inl h0
  · refine Or.inr ?_
    rcases Decidable.em ((n : Int) < x.toInt) with h1 | h1
    · exact h1
    · exfalso
      have hb : x.toInt < 2 ^ 31 := by have := Int32.toInt_lt x; simpa using this
      have hk : x.toInt.toNat < 2 ^ 31 := by omega
      refine h x.toInt.toNat (by omega) ?_
      apply Int32.toInt_inj.mp
      rw [nI_toInt hk]
      omega
theorem nf_RX8_108 {U : State} (h : NW U) : va_Nw (.fieldLinkNest RX8 108 "TermsDesk$Parts" "choiceCount" "[I" "TermsDesk") U := h.1 (RX8, 108, "TermsDesk$Parts", "choiceCount", "[I", "TermsDesk") (List.mem_of_getElem? (i := 0) rfl)
theorem nf_RX8_115 {U : State} (h : NW U) : va_Nw (.fieldLinkNest RX8 115 "TermsDesk$Parts" "licence" "[I" "TermsDesk") U := h.1 (RX8, 115, "TermsDesk$Parts", "licence", "[I", "TermsDesk") (List.mem_of_getElem? (i := 1) rfl)
theorem nf_RX8_118 {U : State} (h : NW U) : va_Nw (.fieldLinkNest RX8 118 "TermsDesk$Joins" "told" "I" "TermsDesk") U := h.1 (RX8, 118, "TermsDesk$Joins", "told", "I", "TermsDesk") (List.mem_of_getElem? (i := 2) rfl)
theorem nf_RX8_122 {U : State} (h : NW U) : va_Nw (.fieldLinkNest RX8 122 "TermsDesk$Joins" "there" "J" "TermsDesk") U := h.1 (RX8, 122, "TermsDesk$Joins", "there", "J", "TermsDesk") (List.mem_of_getElem? (i := 3) rfl)
theorem nf_RX8_142 {U : State} (h : NW U) : va_Nw (.fieldLinkNest RX8 142 "TermsDesk$Parts" "lifted" "[J" "TermsDesk") U := h.1 (RX8, 142, "TermsDesk$Parts", "lifted", "[J", "TermsDesk") (List.mem_of_getElem? (i := 4) rfl)
theorem nf_RX8_146 {U : State} (h : NW U) : va_Nw (.fieldLinkNest RX8 146 "TermsDesk$Parts" "top" "I" "TermsDesk") U := h.1 (RX8, 146, "TermsDesk$Parts", "top", "I", "TermsDesk") (List.mem_of_getElem? (i := 5) rfl)
theorem nf_RX8_150 {U : State} (h : NW U) : va_Nw (.fieldLinkNest RX8 150 "TermsDesk$Changes" "told" "I" "TermsDesk") U := h.1 (RX8, 150, "TermsDesk$Changes", "told", "I", "TermsDesk") (List.mem_of_getElem? (i := 6) rfl)
theorem nf_RX8_158 {U : State} (h : NW U) : va_Nw (.fieldLinkNest RX8 158 "TermsDesk$Flow" "arrived" "[J" "TermsDesk") U := h.1 (RX8, 158, "TermsDesk$Flow", "arrived", "[J", "TermsDesk") (List.mem_of_getElem? (i := 7) rfl)
theorem nf_RX8_96 {U : State} (h : NW U) : va_Nw (.fieldLinkNest RX8 96 "TermsDesk$Parts" "told" "I" "TermsDesk") U := h.1 (RX8, 96, "TermsDesk$Parts", "told", "I", "TermsDesk") (List.mem_of_getElem? (i := 8) rfl)
theorem nf_RX1_113 {U : State} (h : NW U) : va_Nw (.fieldLinkNest RX1 113 "TermsDesk$Parts" "choiceCount" "[I" "TermsDesk") U := h.1 (RX1, 113, "TermsDesk$Parts", "choiceCount", "[I", "TermsDesk") (List.mem_of_getElem? (i := 9) rfl)
theorem nf_RX1_116 {U : State} (h : NW U) : va_Nw (.fieldLinkNest RX1 116 "TermsDesk$Flow" "arrived" "[J" "TermsDesk") U := h.1 (RX1, 116, "TermsDesk$Flow", "arrived", "[J", "TermsDesk") (List.mem_of_getElem? (i := 10) rfl)
theorem nf_RX1_120 {U : State} (h : NW U) : va_Nw (.fieldLinkNest RX1 120 "TermsDesk$Parts" "top" "I" "TermsDesk") U := h.1 (RX1, 120, "TermsDesk$Parts", "top", "I", "TermsDesk") (List.mem_of_getElem? (i := 11) rfl)
theorem nf_RX1_133 {U : State} (h : NW U) : va_Nw (.fieldLinkNest RX1 133 "TermsDesk$Parts" "licence" "[I" "TermsDesk") U := h.1 (RX1, 133, "TermsDesk$Parts", "licence", "[I", "TermsDesk") (List.mem_of_getElem? (i := 12) rfl)
theorem nf_RX1_36 {U : State} (h : NW U) : va_Nw (.fieldLinkNest RX1 36 "TermsDesk$Joins" "there" "J" "TermsDesk") U := h.1 (RX1, 36, "TermsDesk$Joins", "there", "J", "TermsDesk") (List.mem_of_getElem? (i := 13) rfl)
theorem nf_RX1_84 {U : State} (h : NW U) : va_Nw (.fieldLinkNest RX1 84 "TermsDesk$Joins" "order" "[I" "TermsDesk") U := h.1 (RX1, 84, "TermsDesk$Joins", "order", "[I", "TermsDesk") (List.mem_of_getElem? (i := 14) rfl)
theorem nf_RX2_109 {U : State} (h : NW U) : va_Nw (.fieldLinkNest RX2 109 "TermsDesk$Joins" "there" "J" "TermsDesk") U := h.1 (RX2, 109, "TermsDesk$Joins", "there", "J", "TermsDesk") (List.mem_of_getElem? (i := 15) rfl)
theorem nf_RX2_113 {U : State} (h : NW U) : va_Nw (.fieldLinkNest RX2 113 "TermsDesk$Parts" "licence" "[I" "TermsDesk") U := h.1 (RX2, 113, "TermsDesk$Parts", "licence", "[I", "TermsDesk") (List.mem_of_getElem? (i := 16) rfl)
theorem nf_RX2_130 {U : State} (h : NW U) : va_Nw (.fieldLinkNest RX2 130 "TermsDesk$Parts" "choiceCount" "[I" "TermsDesk") U := h.1 (RX2, 130, "TermsDesk$Parts", "choiceCount", "[I", "TermsDesk") (List.mem_of_getElem? (i := 17) rfl)
theorem nf_RX2_30 {U : State} (h : NW U) : va_Nw (.fieldLinkNest RX2 30 "TermsDesk$Terms" "asked" "[J" "TermsDesk") U := h.1 (RX2, 30, "TermsDesk$Terms", "asked", "[J", "TermsDesk") (List.mem_of_getElem? (i := 18) rfl)
theorem nf_RX2_39 {U : State} (h : NW U) : va_Nw (.fieldLinkNest RX2 39 "TermsDesk$Parts" "lifted" "[J" "TermsDesk") U := h.1 (RX2, 39, "TermsDesk$Parts", "lifted", "[J", "TermsDesk") (List.mem_of_getElem? (i := 19) rfl)
theorem nf_RX2_46 {U : State} (h : NW U) : va_Nw (.fieldLinkNest RX2 46 "TermsDesk$Joins" "order" "[I" "TermsDesk") U := h.1 (RX2, 46, "TermsDesk$Joins", "order", "[I", "TermsDesk") (List.mem_of_getElem? (i := 20) rfl)
theorem nf_RX2_60 {U : State} (h : NW U) : va_Nw (.fieldLinkNest RX2 60 "TermsDesk$Joins" "begin" "[I" "TermsDesk") U := h.1 (RX2, 60, "TermsDesk$Joins", "begin", "[I", "TermsDesk") (List.mem_of_getElem? (i := 21) rfl)
theorem nf_RX2_63 {U : State} (h : NW U) : va_Nw (.fieldLinkNest RX2 63 "TermsDesk$Joins" "end" "[I" "TermsDesk") U := h.1 (RX2, 63, "TermsDesk$Joins", "end", "[I", "TermsDesk") (List.mem_of_getElem? (i := 22) rfl)
theorem nf_RX2_66 {U : State} (h : NW U) : va_Nw (.fieldLinkNest RX2 66 "TermsDesk$Joins" "sorted" "[I" "TermsDesk") U := h.1 (RX2, 66, "TermsDesk$Joins", "sorted", "[I", "TermsDesk") (List.mem_of_getElem? (i := 23) rfl)
theorem nf_RX2_73 {U : State} (h : NW U) : va_Nw (.fieldLinkNest RX2 73 "TermsDesk$Joins" "from" "[I" "TermsDesk") U := h.1 (RX2, 73, "TermsDesk$Joins", "from", "[I", "TermsDesk") (List.mem_of_getElem? (i := 24) rfl)
theorem nf_RX2_76 {U : State} (h : NW U) : va_Nw (.fieldLinkNest RX2 76 "TermsDesk$Terms" "along" "[J" "TermsDesk") U := h.1 (RX2, 76, "TermsDesk$Terms", "along", "[J", "TermsDesk") (List.mem_of_getElem? (i := 25) rfl)
theorem nf_RX2_79 {U : State} (h : NW U) : va_Nw (.fieldLinkNest RX2 79 "TermsDesk$Joins" "kind" "[I" "TermsDesk") U := h.1 (RX2, 79, "TermsDesk$Joins", "kind", "[I", "TermsDesk") (List.mem_of_getElem? (i := 26) rfl)
theorem nf_RX2_82 {U : State} (h : NW U) : va_Nw (.fieldLinkNest RX2 82 "TermsDesk$Terms" "fought" "[J" "TermsDesk") U := h.1 (RX2, 82, "TermsDesk$Terms", "fought", "[J", "TermsDesk") (List.mem_of_getElem? (i := 27) rfl)
theorem nf_RX2_85 {U : State} (h : NW U) : va_Nw (.fieldLinkNest RX2 85 "TermsDesk$Parts" "told" "I" "TermsDesk") U := h.1 (RX2, 85, "TermsDesk$Parts", "told", "I", "TermsDesk") (List.mem_of_getElem? (i := 28) rfl)
theorem nf_RX2_89 {U : State} (h : NW U) : va_Nw (.fieldLinkNest RX2 89 "TermsDesk$Parts" "top" "I" "TermsDesk") U := h.1 (RX2, 89, "TermsDesk$Parts", "top", "I", "TermsDesk") (List.mem_of_getElem? (i := 29) rfl)
theorem nf_RX4_31 {U : State} (h : NW U) : va_Nw (.fieldLinkNest RX4 31 "TermsDesk$Changes" "told" "I" "TermsDesk") U := h.1 (RX4, 31, "TermsDesk$Changes", "told", "I", "TermsDesk") (List.mem_of_getElem? (i := 30) rfl)
theorem nf_RX4_44 {U : State} (h : NW U) : va_Nw (.fieldLinkNest RX4 44 "TermsDesk$Parts" "licence" "[I" "TermsDesk") U := h.1 (RX4, 44, "TermsDesk$Parts", "licence", "[I", "TermsDesk") (List.mem_of_getElem? (i := 31) rfl)
theorem nf_RX4_53 {U : State} (h : NW U) : va_Nw (.fieldLinkNest RX4 53 "TermsDesk$Joins" "there" "J" "TermsDesk") U := h.1 (RX4, 53, "TermsDesk$Joins", "there", "J", "TermsDesk") (List.mem_of_getElem? (i := 32) rfl)
theorem nf_RX4_63 {U : State} (h : NW U) : va_Nw (.fieldLinkNest RX4 63 "TermsDesk$Changes" "what" "[I" "TermsDesk") U := h.1 (RX4, 63, "TermsDesk$Changes", "what", "[I", "TermsDesk") (List.mem_of_getElem? (i := 33) rfl)
theorem nf_RX4_66 {U : State} (h : NW U) : va_Nw (.fieldLinkNest RX4 66 "TermsDesk$Changes" "which" "[I" "TermsDesk") U := h.1 (RX4, 66, "TermsDesk$Changes", "which", "[I", "TermsDesk") (List.mem_of_getElem? (i := 34) rfl)
theorem nf_RX4_69 {U : State} (h : NW U) : va_Nw (.fieldLinkNest RX4 69 "TermsDesk$Changes" "licence" "[I" "TermsDesk") U := h.1 (RX4, 69, "TermsDesk$Changes", "licence", "[I", "TermsDesk") (List.mem_of_getElem? (i := 35) rfl)
theorem nf_RX7_104 {U : State} (h : NW U) : va_Nw (.fieldLinkNest RX7 104 "TermsDesk$Joins" "told" "I" "TermsDesk") U := h.1 (RX7, 104, "TermsDesk$Joins", "told", "I", "TermsDesk") (List.mem_of_getElem? (i := 36) rfl)
theorem nf_RX7_105 {U : State} (h : NW U) : va_Nw (.fieldLinkNest RX7 105 "TermsDesk$Joins" "to" "[I" "TermsDesk") U := h.1 (RX7, 105, "TermsDesk$Joins", "to", "[I", "TermsDesk") (List.mem_of_getElem? (i := 37) rfl)
theorem nf_RX7_45 {U : State} (h : NW U) : va_Nw (.fieldLinkNest RX7 45 "TermsDesk$Parts" "top" "I" "TermsDesk") U := h.1 (RX7, 45, "TermsDesk$Parts", "top", "I", "TermsDesk") (List.mem_of_getElem? (i := 38) rfl)
theorem nf_RX7_51 {U : State} (h : NW U) : va_Nw (.fieldLinkNest RX7 51 "TermsDesk$Parts" "told" "I" "TermsDesk") U := h.1 (RX7, 51, "TermsDesk$Parts", "told", "I", "TermsDesk") (List.mem_of_getElem? (i := 39) rfl)
theorem nf_RX7_58 {U : State} (h : NW U) : va_Nw (.fieldLinkNest RX7 58 "TermsDesk$Parts" "licence" "[I" "TermsDesk") U := h.1 (RX7, 58, "TermsDesk$Parts", "licence", "[I", "TermsDesk") (List.mem_of_getElem? (i := 40) rfl)
theorem nf_RX7_71 {U : State} (h : NW U) : va_Nw (.fieldLinkNest RX7 71 "TermsDesk$Terms" "along" "[J" "TermsDesk") U := h.1 (RX7, 71, "TermsDesk$Terms", "along", "[J", "TermsDesk") (List.mem_of_getElem? (i := 41) rfl)
theorem nf_RX7_77 {U : State} (h : NW U) : va_Nw (.fieldLinkNest RX7 77 "TermsDesk$Joins" "kind" "[I" "TermsDesk") U := h.1 (RX7, 77, "TermsDesk$Joins", "kind", "[I", "TermsDesk") (List.mem_of_getElem? (i := 42) rfl)
theorem nf_RX7_82 {U : State} (h : NW U) : va_Nw (.fieldLinkNest RX7 82 "TermsDesk$Joins" "order" "[I" "TermsDesk") U := h.1 (RX7, 82, "TermsDesk$Joins", "order", "[I", "TermsDesk") (List.mem_of_getElem? (i := 43) rfl)
theorem nf_RX7_88 {U : State} (h : NW U) : va_Nw (.fieldLinkNest RX7 88 "TermsDesk$Joins" "begin" "[I" "TermsDesk") U := h.1 (RX7, 88, "TermsDesk$Joins", "begin", "[I", "TermsDesk") (List.mem_of_getElem? (i := 44) rfl)
theorem nf_RX7_91 {U : State} (h : NW U) : va_Nw (.fieldLinkNest RX7 91 "TermsDesk$Joins" "end" "[I" "TermsDesk") U := h.1 (RX7, 91, "TermsDesk$Joins", "end", "[I", "TermsDesk") (List.mem_of_getElem? (i := 45) rfl)
theorem nf_RX7_94 {U : State} (h : NW U) : va_Nw (.fieldLinkNest RX7 94 "TermsDesk$Joins" "sorted" "[I" "TermsDesk") U := h.1 (RX7, 94, "TermsDesk$Joins", "sorted", "[I", "TermsDesk") (List.mem_of_getElem? (i := 46) rfl)
theorem nf_RX7_97 {U : State} (h : NW U) : va_Nw (.fieldLinkNest RX7 97 "TermsDesk$Joins" "from" "[I" "TermsDesk") U := h.1 (RX7, 97, "TermsDesk$Joins", "from", "[I", "TermsDesk") (List.mem_of_getElem? (i := 47) rfl)
theorem nm_RX8_18 {U : State} (h : NW U) : va_Nw (.methodLinkNest RX8 18 yX5_init "TermsDesk") U := h.2 (RX8, 18, yX5_init, "TermsDesk") (List.mem_of_getElem? (i := 0) rfl)
theorem nm_RX8_32 {U : State} (h : NW U) : va_Nw (.methodLinkNest RX8 32 yX0_init "TermsDesk") U := h.2 (RX8, 32, yX0_init, "TermsDesk") (List.mem_of_getElem? (i := 1) rfl)
theorem nm_RX8_9 {U : State} (h : NW U) : va_Nw (.methodLinkNest RX8 9 yX6_init "TermsDesk") U := h.2 (RX8, 9, yX6_init, "TermsDesk") (List.mem_of_getElem? (i := 2) rfl)
theorem nm_RX0_28 {U : State} (h : NW U) : va_Nw (.methodLinkNest RX0 28 yX8_holds "TermsDesk") U := h.2 (RX0, 28, yX8_holds, "TermsDesk") (List.mem_of_getElem? (i := 3) rfl)
theorem nm_RX1_87 {U : State} (h : NW U) : va_Nw (.methodLinkNest RX1 87 yX8_holds "TermsDesk") U := h.2 (RX1, 87, yX8_holds, "TermsDesk") (List.mem_of_getElem? (i := 4) rfl)
theorem nm_RX2_35 {U : State} (h : NW U) : va_Nw (.methodLinkNest RX2 35 yX8_pairsOf "TermsDesk") U := h.2 (RX2, 35, yX8_pairsOf, "TermsDesk") (List.mem_of_getElem? (i := 5) rfl)
theorem nm_RX2_69 {U : State} (h : NW U) : va_Nw (.methodLinkNest RX2 69 yX8_holds "TermsDesk") U := h.2 (RX2, 69, yX8_holds, "TermsDesk") (List.mem_of_getElem? (i := 6) rfl)
theorem nm_RX3_37 {U : State} (h : NW U) : va_Nw (.methodLinkNest RX3 37 yX8_within "TermsDesk") U := h.2 (RX3, 37, yX8_within, "TermsDesk") (List.mem_of_getElem? (i := 7) rfl)
theorem nm_RX3_45 {U : State} (h : NW U) : va_Nw (.methodLinkNest RX3 45 yX8_holds "TermsDesk") U := h.2 (RX3, 45, yX8_holds, "TermsDesk") (List.mem_of_getElem? (i := 8) rfl)
theorem nm_RX4_59 {U : State} (h : NW U) : va_Nw (.methodLinkNest RX4 59 yX8_holds "TermsDesk") U := h.2 (RX4, 59, yX8_holds, "TermsDesk") (List.mem_of_getElem? (i := 9) rfl)
theorem nm_RX5_29 {U : State} (h : NW U) : va_Nw (.methodLinkNest RX5 29 yX8_within "TermsDesk") U := h.2 (RX5, 29, yX8_within, "TermsDesk") (List.mem_of_getElem? (i := 10) rfl)
theorem nm_RX6_27 {U : State} (h : NW U) : va_Nw (.methodLinkNest RX6 27 yX8_holds "TermsDesk") U := h.2 (RX6, 27, yX8_holds, "TermsDesk") (List.mem_of_getElem? (i := 11) rfl)
theorem nm_RX6_31 {U : State} (h : NW U) : va_Nw (.methodLinkNest RX6 31 yX8_pairOf "TermsDesk") U := h.2 (RX6, 31, yX8_pairOf, "TermsDesk") (List.mem_of_getElem? (i := 12) rfl)
theorem nm_RX7_42 {U : State} (h : NW U) : va_Nw (.methodLinkNest RX7 42 yX8_pairOf "TermsDesk") U := h.2 (RX7, 42, yX8_pairOf, "TermsDesk") (List.mem_of_getElem? (i := 13) rfl)
theorem nm_RX7_67 {U : State} (h : NW U) : va_Nw (.methodLinkNest RX7 67 yX8_holds "TermsDesk") U := h.2 (RX7, 67, yX8_holds, "TermsDesk") (List.mem_of_getElem? (i := 14) rfl)
/-- components: X6.asked J0, X6.along J1, X6.fought J2, X5.choices I0, X5.choiceCount I1, X5.licence I2, X5.lifted J3, X3.from I3, X3.to I4, X3.kind I5, X3.order I6, X3.sorted I7, X3.begin I8, X3.end I9, X0.what I10, X0.which I11, X0.licence I12, X0.cost I13, X2.arrived J4, X2.earlier J5, X1.line I14, X1.place I15, X1.bestPlace I16, X1.quarrelsBefore I17, X4.licence I18, X7.steps I19, X5.told I20, X5.top I21, X3.told I22, X3.there J6, X0.told I23, X1.length I24, X1.bestQuarrels I25, X1.bestPairs I26 -/
def wX (q : Nat → Nat) (cI cJ cZ : ClassId) (u : WU) : va_W := [(q 0, .inr (8, [.ref (q 1), .ref (q 2), .ref (q 3), .ref (q 4), .ref (q 5), .ref (q 6), .ref (q 7), .ref (q 8)])),
  (q 1, .inr (6, [.ref (q 9), .ref (q 10), .ref (q 11)])),
  (q 2, .inr (5, [.ref (q 12), .ref (q 13), .ref (q 14), .ref (q 15), .int (u.1 20 0), .int (u.1 21 0)])),
  (q 3, .inr (3, [.ref (q 16), .ref (q 17), .ref (q 18), .int (u.1 22 0), .long (u.2 6 0), .ref (q 19), .ref (q 20), .ref (q 21), .ref (q 22)])),
  (q 4, .inr (0, [.ref (q 23), .ref (q 24), .ref (q 25), .ref (q 26), .int (u.1 23 0)])),
  (q 5, .inr (2, [.ref (q 1), .ref (q 2), .ref (q 3), .ref (q 27), .ref (q 28)])),
  (q 6, .inr (1, [.ref (q 2), .ref (q 3), .ref (q 5), .ref (q 29), .int (u.1 24 0), .ref (q 30), .ref (q 31), .ref (q 32), .int (u.1 25 0), .int (u.1 26 0)])),
  (q 7, .inr (4, [.ref (q 2), .ref (q 3), .ref (q 4), .ref (q 5), .ref (q 33)])),
  (q 8, .inr (7, [.ref (q 1), .ref (q 2), .ref (q 3), .ref (q 5), .ref (q 34)])),
  (q 9, .inl (cJ, 4, .inr (.inl (u.2 0)))),
  (q 10, .inl (cJ, 4, .inr (.inl (u.2 1)))),
  (q 11, .inl (cJ, 8, .inr (.inl (u.2 2)))),
  (q 12, .inl (cI, 72, .inl (u.1 0))),
  (q 13, .inl (cI, 24, .inl (u.1 1))),
  (q 14, .inl (cI, 24, .inl (u.1 2))),
  (q 15, .inl (cJ, 24, .inr (.inl (u.2 3)))),
  (q 16, .inl (cI, 40, .inl (u.1 3))),
  (q 17, .inl (cI, 40, .inl (u.1 4))),
  (q 18, .inl (cI, 40, .inl (u.1 5))),
  (q 19, .inl (cI, 24, .inl (u.1 6))),
  (q 20, .inl (cI, 40, .inl (u.1 7))),
  (q 21, .inl (cI, 24, .inl (u.1 8))),
  (q 22, .inl (cI, 24, .inl (u.1 9))),
  (q 23, .inl (cI, 10, .inl (u.1 10))),
  (q 24, .inl (cI, 10, .inl (u.1 11))),
  (q 25, .inl (cI, 10, .inl (u.1 12))),
  (q 26, .inl (cI, 10, .inl (u.1 13))),
  (q 27, .inl (cJ, 24, .inr (.inl (u.2 4)))),
  (q 28, .inl (cJ, 24, .inr (.inl (u.2 5)))),
  (q 29, .inl (cI, 24, .inl (u.1 14))),
  (q 30, .inl (cI, 24, .inl (u.1 15))),
  (q 31, .inl (cI, 24, .inl (u.1 16))),
  (q 32, .inl (cI, 25, .inl (u.1 17))),
  (q 33, .inl (cI, 24, .inl (u.1 18))),
  (q 34, .inl (cI, 24, .inl (u.1 19)))]
theorem sh_wX (q : Nat → Nat) (cI cJ cZ : ClassId) : ShW (wX q cI cJ cZ) := fun _ _ => rfl
theorem wXa_9 (q : Nat → Nat) (cI cJ cZ : ClassId) (u : WU) (f : Nat → Int64) : (wX q cI cJ cZ u).set 9 (q 9, .inl (cJ, 4, .inr (.inl f))) = wX q cI cJ cZ (uJ u 0 f) := rfl
theorem wXa_10 (q : Nat → Nat) (cI cJ cZ : ClassId) (u : WU) (f : Nat → Int64) : (wX q cI cJ cZ u).set 10 (q 10, .inl (cJ, 4, .inr (.inl f))) = wX q cI cJ cZ (uJ u 1 f) := rfl
theorem wXa_11 (q : Nat → Nat) (cI cJ cZ : ClassId) (u : WU) (f : Nat → Int64) : (wX q cI cJ cZ u).set 11 (q 11, .inl (cJ, 8, .inr (.inl f))) = wX q cI cJ cZ (uJ u 2 f) := rfl
theorem wXa_12 (q : Nat → Nat) (cI cJ cZ : ClassId) (u : WU) (f : Nat → Int32) : (wX q cI cJ cZ u).set 12 (q 12, .inl (cI, 72, .inl f)) = wX q cI cJ cZ (uI u 0 f) := rfl
theorem wXa_13 (q : Nat → Nat) (cI cJ cZ : ClassId) (u : WU) (f : Nat → Int32) : (wX q cI cJ cZ u).set 13 (q 13, .inl (cI, 24, .inl f)) = wX q cI cJ cZ (uI u 1 f) := rfl
theorem wXa_14 (q : Nat → Nat) (cI cJ cZ : ClassId) (u : WU) (f : Nat → Int32) : (wX q cI cJ cZ u).set 14 (q 14, .inl (cI, 24, .inl f)) = wX q cI cJ cZ (uI u 2 f) := rfl
theorem wXa_15 (q : Nat → Nat) (cI cJ cZ : ClassId) (u : WU) (f : Nat → Int64) : (wX q cI cJ cZ u).set 15 (q 15, .inl (cJ, 24, .inr (.inl f))) = wX q cI cJ cZ (uJ u 3 f) := rfl
theorem wXa_16 (q : Nat → Nat) (cI cJ cZ : ClassId) (u : WU) (f : Nat → Int32) : (wX q cI cJ cZ u).set 16 (q 16, .inl (cI, 40, .inl f)) = wX q cI cJ cZ (uI u 3 f) := rfl
theorem wXa_17 (q : Nat → Nat) (cI cJ cZ : ClassId) (u : WU) (f : Nat → Int32) : (wX q cI cJ cZ u).set 17 (q 17, .inl (cI, 40, .inl f)) = wX q cI cJ cZ (uI u 4 f) := rfl
theorem wXa_18 (q : Nat → Nat) (cI cJ cZ : ClassId) (u : WU) (f : Nat → Int32) : (wX q cI cJ cZ u).set 18 (q 18, .inl (cI, 40, .inl f)) = wX q cI cJ cZ (uI u 5 f) := rfl
theorem wXa_19 (q : Nat → Nat) (cI cJ cZ : ClassId) (u : WU) (f : Nat → Int32) : (wX q cI cJ cZ u).set 19 (q 19, .inl (cI, 24, .inl f)) = wX q cI cJ cZ (uI u 6 f) := rfl
theorem wXa_20 (q : Nat → Nat) (cI cJ cZ : ClassId) (u : WU) (f : Nat → Int32) : (wX q cI cJ cZ u).set 20 (q 20, .inl (cI, 40, .inl f)) = wX q cI cJ cZ (uI u 7 f) := rfl
theorem wXa_21 (q : Nat → Nat) (cI cJ cZ : ClassId) (u : WU) (f : Nat → Int32) : (wX q cI cJ cZ u).set 21 (q 21, .inl (cI, 24, .inl f)) = wX q cI cJ cZ (uI u 8 f) := rfl
theorem wXa_22 (q : Nat → Nat) (cI cJ cZ : ClassId) (u : WU) (f : Nat → Int32) : (wX q cI cJ cZ u).set 22 (q 22, .inl (cI, 24, .inl f)) = wX q cI cJ cZ (uI u 9 f) := rfl
theorem wXa_23 (q : Nat → Nat) (cI cJ cZ : ClassId) (u : WU) (f : Nat → Int32) : (wX q cI cJ cZ u).set 23 (q 23, .inl (cI, 10, .inl f)) = wX q cI cJ cZ (uI u 10 f) := rfl
theorem wXa_24 (q : Nat → Nat) (cI cJ cZ : ClassId) (u : WU) (f : Nat → Int32) : (wX q cI cJ cZ u).set 24 (q 24, .inl (cI, 10, .inl f)) = wX q cI cJ cZ (uI u 11 f) := rfl
theorem wXa_25 (q : Nat → Nat) (cI cJ cZ : ClassId) (u : WU) (f : Nat → Int32) : (wX q cI cJ cZ u).set 25 (q 25, .inl (cI, 10, .inl f)) = wX q cI cJ cZ (uI u 12 f) := rfl
theorem wXa_26 (q : Nat → Nat) (cI cJ cZ : ClassId) (u : WU) (f : Nat → Int32) : (wX q cI cJ cZ u).set 26 (q 26, .inl (cI, 10, .inl f)) = wX q cI cJ cZ (uI u 13 f) := rfl
theorem wXa_27 (q : Nat → Nat) (cI cJ cZ : ClassId) (u : WU) (f : Nat → Int64) : (wX q cI cJ cZ u).set 27 (q 27, .inl (cJ, 24, .inr (.inl f))) = wX q cI cJ cZ (uJ u 4 f) := rfl
theorem wXa_28 (q : Nat → Nat) (cI cJ cZ : ClassId) (u : WU) (f : Nat → Int64) : (wX q cI cJ cZ u).set 28 (q 28, .inl (cJ, 24, .inr (.inl f))) = wX q cI cJ cZ (uJ u 5 f) := rfl
theorem wXa_29 (q : Nat → Nat) (cI cJ cZ : ClassId) (u : WU) (f : Nat → Int32) : (wX q cI cJ cZ u).set 29 (q 29, .inl (cI, 24, .inl f)) = wX q cI cJ cZ (uI u 14 f) := rfl
theorem wXa_30 (q : Nat → Nat) (cI cJ cZ : ClassId) (u : WU) (f : Nat → Int32) : (wX q cI cJ cZ u).set 30 (q 30, .inl (cI, 24, .inl f)) = wX q cI cJ cZ (uI u 15 f) := rfl
theorem wXa_31 (q : Nat → Nat) (cI cJ cZ : ClassId) (u : WU) (f : Nat → Int32) : (wX q cI cJ cZ u).set 31 (q 31, .inl (cI, 24, .inl f)) = wX q cI cJ cZ (uI u 16 f) := rfl
theorem wXa_32 (q : Nat → Nat) (cI cJ cZ : ClassId) (u : WU) (f : Nat → Int32) : (wX q cI cJ cZ u).set 32 (q 32, .inl (cI, 25, .inl f)) = wX q cI cJ cZ (uI u 17 f) := rfl
theorem wXa_33 (q : Nat → Nat) (cI cJ cZ : ClassId) (u : WU) (f : Nat → Int32) : (wX q cI cJ cZ u).set 33 (q 33, .inl (cI, 24, .inl f)) = wX q cI cJ cZ (uI u 18 f) := rfl
theorem wXa_34 (q : Nat → Nat) (cI cJ cZ : ClassId) (u : WU) (f : Nat → Int32) : (wX q cI cJ cZ u).set 34 (q 34, .inl (cI, 24, .inl f)) = wX q cI cJ cZ (uI u 19 f) := rfl
theorem wXs_X5_4 (q : Nat → Nat) (cI cJ cZ : ClassId) (u : WU) (x : Int32) : (wX q cI cJ cZ u).set 2 (q 2, .inr (5, ([.ref (q 12), .ref (q 13), .ref (q 14), .ref (q 15), .int (u.1 20 0), .int (u.1 21 0)] : List Value).set 4 (.int x))) = wX q cI cJ cZ (uI u 20 (fun _ => x)) := rfl
theorem wXs_X5_5 (q : Nat → Nat) (cI cJ cZ : ClassId) (u : WU) (x : Int32) : (wX q cI cJ cZ u).set 2 (q 2, .inr (5, ([.ref (q 12), .ref (q 13), .ref (q 14), .ref (q 15), .int (u.1 20 0), .int (u.1 21 0)] : List Value).set 5 (.int x))) = wX q cI cJ cZ (uI u 21 (fun _ => x)) := rfl
theorem wXs_X3_3 (q : Nat → Nat) (cI cJ cZ : ClassId) (u : WU) (x : Int32) : (wX q cI cJ cZ u).set 3 (q 3, .inr (3, ([.ref (q 16), .ref (q 17), .ref (q 18), .int (u.1 22 0), .long (u.2 6 0), .ref (q 19), .ref (q 20), .ref (q 21), .ref (q 22)] : List Value).set 3 (.int x))) = wX q cI cJ cZ (uI u 22 (fun _ => x)) := rfl
theorem wXs_X3_4 (q : Nat → Nat) (cI cJ cZ : ClassId) (u : WU) (x : Int64) : (wX q cI cJ cZ u).set 3 (q 3, .inr (3, ([.ref (q 16), .ref (q 17), .ref (q 18), .int (u.1 22 0), .long (u.2 6 0), .ref (q 19), .ref (q 20), .ref (q 21), .ref (q 22)] : List Value).set 4 (.long x))) = wX q cI cJ cZ (uJ u 6 (fun _ => x)) := rfl
theorem wXs_X0_4 (q : Nat → Nat) (cI cJ cZ : ClassId) (u : WU) (x : Int32) : (wX q cI cJ cZ u).set 4 (q 4, .inr (0, ([.ref (q 23), .ref (q 24), .ref (q 25), .ref (q 26), .int (u.1 23 0)] : List Value).set 4 (.int x))) = wX q cI cJ cZ (uI u 23 (fun _ => x)) := rfl
theorem wXs_X1_4 (q : Nat → Nat) (cI cJ cZ : ClassId) (u : WU) (x : Int32) : (wX q cI cJ cZ u).set 6 (q 6, .inr (1, ([.ref (q 2), .ref (q 3), .ref (q 5), .ref (q 29), .int (u.1 24 0), .ref (q 30), .ref (q 31), .ref (q 32), .int (u.1 25 0), .int (u.1 26 0)] : List Value).set 4 (.int x))) = wX q cI cJ cZ (uI u 24 (fun _ => x)) := rfl
theorem wXs_X1_8 (q : Nat → Nat) (cI cJ cZ : ClassId) (u : WU) (x : Int32) : (wX q cI cJ cZ u).set 6 (q 6, .inr (1, ([.ref (q 2), .ref (q 3), .ref (q 5), .ref (q 29), .int (u.1 24 0), .ref (q 30), .ref (q 31), .ref (q 32), .int (u.1 25 0), .int (u.1 26 0)] : List Value).set 8 (.int x))) = wX q cI cJ cZ (uI u 25 (fun _ => x)) := rfl
theorem wXs_X1_9 (q : Nat → Nat) (cI cJ cZ : ClassId) (u : WU) (x : Int32) : (wX q cI cJ cZ u).set 6 (q 6, .inr (1, ([.ref (q 2), .ref (q 3), .ref (q 5), .ref (q 29), .int (u.1 24 0), .ref (q 30), .ref (q 31), .ref (q 32), .int (u.1 25 0), .int (u.1 26 0)] : List Value).set 9 (.int x))) = wX q cI cJ cZ (uI u 26 (fun _ => x)) := rfl
/-- components: X9.asked I0, X9.along J0, X9.barred I1, X9.choice I2, X9.many I3, X9.taken I4, X9.lifted J1, X9.from I5, X9.to I6, X9.kind I7, X9.isCut I8, X9.sort I9, X9.which I10, X9.gets I11, X9.cost I12, X9.isReached I13, X9.isGone I14, X9.has I15, X9.come J2, X9.order I16, X9.level I17, X9.place I18, X9.best I19, X9.far I20, X9.other J3, X9.parts I21, X9.product I22, X9.joins I23, X9.changes I24, X9.orderMany I25 -/
def wM (q : Nat → Nat) (cI cJ cZ : ClassId) (u : WU) : va_W := [(q 0, .inr (9, [.ref (q 1), .ref (q 2), .ref (q 3), .int (u.1 21 0), .int (u.1 22 0), .ref (q 4), .ref (q 5), .ref (q 6), .ref (q 7), .int (u.1 23 0), .ref (q 8), .ref (q 9), .ref (q 10), .ref (q 11), .int (u.1 24 0), .ref (q 12), .ref (q 13), .ref (q 14), .ref (q 15), .ref (q 16), .ref (q 17), .ref (q 18), .ref (q 19), .int (u.1 25 0), .ref (q 20), .ref (q 21), .ref (q 22), .ref (q 23), .ref (q 24), .ref (q 25)])),
  (q 1, .inl (cI, 32, .inl (u.1 0))),
  (q 2, .inl (cJ, 4, .inr (.inl (u.2 0)))),
  (q 3, .inl (cI, 8, .inl (u.1 1))),
  (q 4, .inl (cI, 72, .inl (u.1 2))),
  (q 5, .inl (cI, 24, .inl (u.1 3))),
  (q 6, .inl (cI, 24, .inl (u.1 4))),
  (q 7, .inl (cJ, 24, .inr (.inl (u.2 1)))),
  (q 8, .inl (cI, 40, .inl (u.1 5))),
  (q 9, .inl (cI, 40, .inl (u.1 6))),
  (q 10, .inl (cI, 40, .inl (u.1 7))),
  (q 11, .inl (cZ, 40, .inl (u.1 8))),
  (q 12, .inl (cI, 10, .inl (u.1 9))),
  (q 13, .inl (cI, 10, .inl (u.1 10))),
  (q 14, .inl (cI, 10, .inl (u.1 11))),
  (q 15, .inl (cI, 10, .inl (u.1 12))),
  (q 16, .inl (cZ, 24, .inl (u.1 13))),
  (q 17, .inl (cZ, 40, .inl (u.1 14))),
  (q 18, .inl (cI, 24, .inl (u.1 15))),
  (q 19, .inl (cJ, 24, .inr (.inl (u.2 2)))),
  (q 20, .inl (cI, 40, .inl (u.1 16))),
  (q 21, .inl (cI, 24, .inl (u.1 17))),
  (q 22, .inl (cI, 24, .inl (u.1 18))),
  (q 23, .inl (cI, 24, .inl (u.1 19))),
  (q 24, .inl (cI, 24, .inl (u.1 20))),
  (q 25, .inl (cJ, 24, .inr (.inl (u.2 3))))]
theorem sh_wM (q : Nat → Nat) (cI cJ cZ : ClassId) : ShW (wM q cI cJ cZ) := fun _ _ => rfl
theorem wMa_1 (q : Nat → Nat) (cI cJ cZ : ClassId) (u : WU) (f : Nat → Int32) : (wM q cI cJ cZ u).set 1 (q 1, .inl (cI, 32, .inl f)) = wM q cI cJ cZ (uI u 0 f) := rfl
theorem wMa_2 (q : Nat → Nat) (cI cJ cZ : ClassId) (u : WU) (f : Nat → Int64) : (wM q cI cJ cZ u).set 2 (q 2, .inl (cJ, 4, .inr (.inl f))) = wM q cI cJ cZ (uJ u 0 f) := rfl
theorem wMa_3 (q : Nat → Nat) (cI cJ cZ : ClassId) (u : WU) (f : Nat → Int32) : (wM q cI cJ cZ u).set 3 (q 3, .inl (cI, 8, .inl f)) = wM q cI cJ cZ (uI u 1 f) := rfl
theorem wMa_4 (q : Nat → Nat) (cI cJ cZ : ClassId) (u : WU) (f : Nat → Int32) : (wM q cI cJ cZ u).set 4 (q 4, .inl (cI, 72, .inl f)) = wM q cI cJ cZ (uI u 2 f) := rfl
theorem wMa_5 (q : Nat → Nat) (cI cJ cZ : ClassId) (u : WU) (f : Nat → Int32) : (wM q cI cJ cZ u).set 5 (q 5, .inl (cI, 24, .inl f)) = wM q cI cJ cZ (uI u 3 f) := rfl
theorem wMa_6 (q : Nat → Nat) (cI cJ cZ : ClassId) (u : WU) (f : Nat → Int32) : (wM q cI cJ cZ u).set 6 (q 6, .inl (cI, 24, .inl f)) = wM q cI cJ cZ (uI u 4 f) := rfl
theorem wMa_7 (q : Nat → Nat) (cI cJ cZ : ClassId) (u : WU) (f : Nat → Int64) : (wM q cI cJ cZ u).set 7 (q 7, .inl (cJ, 24, .inr (.inl f))) = wM q cI cJ cZ (uJ u 1 f) := rfl
theorem wMa_8 (q : Nat → Nat) (cI cJ cZ : ClassId) (u : WU) (f : Nat → Int32) : (wM q cI cJ cZ u).set 8 (q 8, .inl (cI, 40, .inl f)) = wM q cI cJ cZ (uI u 5 f) := rfl
theorem wMa_9 (q : Nat → Nat) (cI cJ cZ : ClassId) (u : WU) (f : Nat → Int32) : (wM q cI cJ cZ u).set 9 (q 9, .inl (cI, 40, .inl f)) = wM q cI cJ cZ (uI u 6 f) := rfl
theorem wMa_10 (q : Nat → Nat) (cI cJ cZ : ClassId) (u : WU) (f : Nat → Int32) : (wM q cI cJ cZ u).set 10 (q 10, .inl (cI, 40, .inl f)) = wM q cI cJ cZ (uI u 7 f) := rfl
theorem wMa_11 (q : Nat → Nat) (cI cJ cZ : ClassId) (u : WU) (f : Nat → Int32) : (wM q cI cJ cZ u).set 11 (q 11, .inl (cZ, 40, .inl f)) = wM q cI cJ cZ (uI u 8 f) := rfl
theorem wMa_12 (q : Nat → Nat) (cI cJ cZ : ClassId) (u : WU) (f : Nat → Int32) : (wM q cI cJ cZ u).set 12 (q 12, .inl (cI, 10, .inl f)) = wM q cI cJ cZ (uI u 9 f) := rfl
theorem wMa_13 (q : Nat → Nat) (cI cJ cZ : ClassId) (u : WU) (f : Nat → Int32) : (wM q cI cJ cZ u).set 13 (q 13, .inl (cI, 10, .inl f)) = wM q cI cJ cZ (uI u 10 f) := rfl
theorem wMa_14 (q : Nat → Nat) (cI cJ cZ : ClassId) (u : WU) (f : Nat → Int32) : (wM q cI cJ cZ u).set 14 (q 14, .inl (cI, 10, .inl f)) = wM q cI cJ cZ (uI u 11 f) := rfl
theorem wMa_15 (q : Nat → Nat) (cI cJ cZ : ClassId) (u : WU) (f : Nat → Int32) : (wM q cI cJ cZ u).set 15 (q 15, .inl (cI, 10, .inl f)) = wM q cI cJ cZ (uI u 12 f) := rfl
theorem wMa_16 (q : Nat → Nat) (cI cJ cZ : ClassId) (u : WU) (f : Nat → Int32) : (wM q cI cJ cZ u).set 16 (q 16, .inl (cZ, 24, .inl f)) = wM q cI cJ cZ (uI u 13 f) := rfl
theorem wMa_17 (q : Nat → Nat) (cI cJ cZ : ClassId) (u : WU) (f : Nat → Int32) : (wM q cI cJ cZ u).set 17 (q 17, .inl (cZ, 40, .inl f)) = wM q cI cJ cZ (uI u 14 f) := rfl
theorem wMa_18 (q : Nat → Nat) (cI cJ cZ : ClassId) (u : WU) (f : Nat → Int32) : (wM q cI cJ cZ u).set 18 (q 18, .inl (cI, 24, .inl f)) = wM q cI cJ cZ (uI u 15 f) := rfl
theorem wMa_19 (q : Nat → Nat) (cI cJ cZ : ClassId) (u : WU) (f : Nat → Int64) : (wM q cI cJ cZ u).set 19 (q 19, .inl (cJ, 24, .inr (.inl f))) = wM q cI cJ cZ (uJ u 2 f) := rfl
theorem wMa_20 (q : Nat → Nat) (cI cJ cZ : ClassId) (u : WU) (f : Nat → Int32) : (wM q cI cJ cZ u).set 20 (q 20, .inl (cI, 40, .inl f)) = wM q cI cJ cZ (uI u 16 f) := rfl
theorem wMa_21 (q : Nat → Nat) (cI cJ cZ : ClassId) (u : WU) (f : Nat → Int32) : (wM q cI cJ cZ u).set 21 (q 21, .inl (cI, 24, .inl f)) = wM q cI cJ cZ (uI u 17 f) := rfl
theorem wMa_22 (q : Nat → Nat) (cI cJ cZ : ClassId) (u : WU) (f : Nat → Int32) : (wM q cI cJ cZ u).set 22 (q 22, .inl (cI, 24, .inl f)) = wM q cI cJ cZ (uI u 18 f) := rfl
theorem wMa_23 (q : Nat → Nat) (cI cJ cZ : ClassId) (u : WU) (f : Nat → Int32) : (wM q cI cJ cZ u).set 23 (q 23, .inl (cI, 24, .inl f)) = wM q cI cJ cZ (uI u 19 f) := rfl
theorem wMa_24 (q : Nat → Nat) (cI cJ cZ : ClassId) (u : WU) (f : Nat → Int32) : (wM q cI cJ cZ u).set 24 (q 24, .inl (cI, 24, .inl f)) = wM q cI cJ cZ (uI u 20 f) := rfl
theorem wMa_25 (q : Nat → Nat) (cI cJ cZ : ClassId) (u : WU) (f : Nat → Int64) : (wM q cI cJ cZ u).set 25 (q 25, .inl (cJ, 24, .inr (.inl f))) = wM q cI cJ cZ (uJ u 3 f) := rfl
theorem wMs_X9_3 (q : Nat → Nat) (cI cJ cZ : ClassId) (u : WU) (x : Int32) : (wM q cI cJ cZ u).set 0 (q 0, .inr (9, ([.ref (q 1), .ref (q 2), .ref (q 3), .int (u.1 21 0), .int (u.1 22 0), .ref (q 4), .ref (q 5), .ref (q 6), .ref (q 7), .int (u.1 23 0), .ref (q 8), .ref (q 9), .ref (q 10), .ref (q 11), .int (u.1 24 0), .ref (q 12), .ref (q 13), .ref (q 14), .ref (q 15), .ref (q 16), .ref (q 17), .ref (q 18), .ref (q 19), .int (u.1 25 0), .ref (q 20), .ref (q 21), .ref (q 22), .ref (q 23), .ref (q 24), .ref (q 25)] : List Value).set 3 (.int x))) = wM q cI cJ cZ (uI u 21 (fun _ => x)) := rfl
theorem wMs_X9_4 (q : Nat → Nat) (cI cJ cZ : ClassId) (u : WU) (x : Int32) : (wM q cI cJ cZ u).set 0 (q 0, .inr (9, ([.ref (q 1), .ref (q 2), .ref (q 3), .int (u.1 21 0), .int (u.1 22 0), .ref (q 4), .ref (q 5), .ref (q 6), .ref (q 7), .int (u.1 23 0), .ref (q 8), .ref (q 9), .ref (q 10), .ref (q 11), .int (u.1 24 0), .ref (q 12), .ref (q 13), .ref (q 14), .ref (q 15), .ref (q 16), .ref (q 17), .ref (q 18), .ref (q 19), .int (u.1 25 0), .ref (q 20), .ref (q 21), .ref (q 22), .ref (q 23), .ref (q 24), .ref (q 25)] : List Value).set 4 (.int x))) = wM q cI cJ cZ (uI u 22 (fun _ => x)) := rfl
theorem wMs_X9_9 (q : Nat → Nat) (cI cJ cZ : ClassId) (u : WU) (x : Int32) : (wM q cI cJ cZ u).set 0 (q 0, .inr (9, ([.ref (q 1), .ref (q 2), .ref (q 3), .int (u.1 21 0), .int (u.1 22 0), .ref (q 4), .ref (q 5), .ref (q 6), .ref (q 7), .int (u.1 23 0), .ref (q 8), .ref (q 9), .ref (q 10), .ref (q 11), .int (u.1 24 0), .ref (q 12), .ref (q 13), .ref (q 14), .ref (q 15), .ref (q 16), .ref (q 17), .ref (q 18), .ref (q 19), .int (u.1 25 0), .ref (q 20), .ref (q 21), .ref (q 22), .ref (q 23), .ref (q 24), .ref (q 25)] : List Value).set 9 (.int x))) = wM q cI cJ cZ (uI u 23 (fun _ => x)) := rfl
theorem wMs_X9_14 (q : Nat → Nat) (cI cJ cZ : ClassId) (u : WU) (x : Int32) : (wM q cI cJ cZ u).set 0 (q 0, .inr (9, ([.ref (q 1), .ref (q 2), .ref (q 3), .int (u.1 21 0), .int (u.1 22 0), .ref (q 4), .ref (q 5), .ref (q 6), .ref (q 7), .int (u.1 23 0), .ref (q 8), .ref (q 9), .ref (q 10), .ref (q 11), .int (u.1 24 0), .ref (q 12), .ref (q 13), .ref (q 14), .ref (q 15), .ref (q 16), .ref (q 17), .ref (q 18), .ref (q 19), .int (u.1 25 0), .ref (q 20), .ref (q 21), .ref (q 22), .ref (q 23), .ref (q 24), .ref (q 25)] : List Value).set 14 (.int x))) = wM q cI cJ cZ (uI u 24 (fun _ => x)) := rfl
theorem wMs_X9_23 (q : Nat → Nat) (cI cJ cZ : ClassId) (u : WU) (x : Int32) : (wM q cI cJ cZ u).set 0 (q 0, .inr (9, ([.ref (q 1), .ref (q 2), .ref (q 3), .int (u.1 21 0), .int (u.1 22 0), .ref (q 4), .ref (q 5), .ref (q 6), .ref (q 7), .int (u.1 23 0), .ref (q 8), .ref (q 9), .ref (q 10), .ref (q 11), .int (u.1 24 0), .ref (q 12), .ref (q 13), .ref (q 14), .ref (q 15), .ref (q 16), .ref (q 17), .ref (q 18), .ref (q 19), .int (u.1 25 0), .ref (q 20), .ref (q 21), .ref (q 22), .ref (q 23), .ref (q 24), .ref (q 25)] : List Value).set 23 (.int x))) = wM q cI cJ cZ (uI u 25 (fun _ => x)) := rfl
end
section
def wp_X8_within (x0 : Int32) (x1 : Int32) (post : Int32 → Prop) : Prop :=
  ((x0 < 0 → post 0) ∧ (¬ x0 < 0 → ((x1 ≤ x0 → post 0) ∧ (¬ x1 ≤ x0 → post 1))))
abbrev rm_X8_within : Room := { frames := 0, cells := 0, slots := 0, locals := 0 }
def wp_X8_isPair (x0 : Int32) (x1 : Int32) (post : Int32 → Prop) : Prop :=
  wp_X8_within x0 8 (fun r1 => ((r1 = 0 → post 0) ∧ (¬ r1 = 0 → wp_X8_within x1 8 (fun r2 => ((r2 = 0 → post 0) ∧ (¬ r2 = 0 → post 1))))))
abbrev rm_X8_isPair : Room := { frames := 1, cells := 0, slots := 0, locals := 21 }
def wp_X8_pairOf (x0 : Int32) (x1 : Int32) (post : Int32 → Prop) : Prop :=
  post ((x0 * 8) + x1)
abbrev rm_X8_pairOf : Room := { frames := 0, cells := 0, slots := 0, locals := 0 }
def wp_X8_holds (x0 : Int64) (x2 : Int32) (post : Int32 → Prop) : Prop :=
  (((lg_cmp ((jushr x0 x2) &&& 1) 0) = 0 → post 0) ∧ (¬ (lg_cmp ((jushr x0 x2) &&& 1) 0) = 0 → post 1))
abbrev rm_X8_holds : Room := { frames := 0, cells := 0, slots := 0, locals := 0 }
def wp_X6_spread_c9_J43 (x1 : Int32) (x2 : Int32) (x3 : Int32) (z1 : Int32) (z2 : Int64) (u : WU) (post : WU → Prop) (K2 : Int32 → WU → Prop) : Prop :=
  vp_in z1 4 ∧ ∀ u7 : WU, u7 = uJ u 0 (vp_updL (u.2 0) z1.toNatClampNeg z2) → ∀ y8 : Int32, y8 = x3 + 1 → K2 y8 u7
def wp_X6_spread_c9_L2 (x1 : Int32) (x2 : Int32) (post : WU → Prop) : Nat → Int32 → WU → Prop
  | 0, _, _ => False
  | n + 1, x3, u =>
  ((4 ≤ x3 → post u) ∧ (¬ 4 ≤ x3 → vp_in x3 4 ∧ ∀ y1 : Int64, y1 = (u.2 0 x3.toNatClampNeg) &&& ((jshl 1 x1) ^^^ (-1)) → wp_X8_holds x2.toInt64 x3 (fun r2 => ((r2 = 0 → wp_X6_spread_c9_J43 x1 x2 x3 x3 y1 u post (fun (y3 : Int32) (u4 : WU) => wp_X6_spread_c9_L2 x1 x2 post n y3 u4)) ∧ (¬ r2 = 0 → wp_X6_spread_c9_J43 x1 x2 x3 x3 (y1 ||| (jshl 1 x1)) u post (fun (y5 : Int32) (u6 : WU) => wp_X6_spread_c9_L2 x1 x2 post n y5 u6))))))
def wp_X6_spread_c9 (x1 : Int32) (x2 : Int32) (u : WU) (post : WU → Prop) : Prop :=
  ∃ nn : Nat, wp_X6_spread_c9_L2 x1 x2 post nn 0 u
abbrev rm_X6_spread : Room := { frames := 1, cells := 0, slots := 0, locals := 22 }
def wp_X6_spread_c10_J43 (x1 : Int32) (x2 : Int32) (x3 : Int32) (z1 : Int32) (z2 : Int64) (u : WU) (post : WU → Prop) (K2 : Int32 → WU → Prop) : Prop :=
  vp_in z1 4 ∧ ∀ u7 : WU, u7 = uJ u 1 (vp_updL (u.2 1) z1.toNatClampNeg z2) → ∀ y8 : Int32, y8 = x3 + 1 → K2 y8 u7
def wp_X6_spread_c10_L2 (x1 : Int32) (x2 : Int32) (post : WU → Prop) : Nat → Int32 → WU → Prop
  | 0, _, _ => False
  | n + 1, x3, u =>
  ((4 ≤ x3 → post u) ∧ (¬ 4 ≤ x3 → vp_in x3 4 ∧ ∀ y1 : Int64, y1 = (u.2 1 x3.toNatClampNeg) &&& ((jshl 1 x1) ^^^ (-1)) → wp_X8_holds x2.toInt64 x3 (fun r2 => ((r2 = 0 → wp_X6_spread_c10_J43 x1 x2 x3 x3 y1 u post (fun (y3 : Int32) (u4 : WU) => wp_X6_spread_c10_L2 x1 x2 post n y3 u4)) ∧ (¬ r2 = 0 → wp_X6_spread_c10_J43 x1 x2 x3 x3 (y1 ||| (jshl 1 x1)) u post (fun (y5 : Int32) (u6 : WU) => wp_X6_spread_c10_L2 x1 x2 post n y5 u6))))))
def wp_X6_spread_c10 (x1 : Int32) (x2 : Int32) (u : WU) (post : WU → Prop) : Prop :=
  ∃ nn : Nat, wp_X6_spread_c10_L2 x1 x2 post nn 0 u
def wp_X6_tellAsk (x1 : Int32) (x2 : Int32) (x3 : Int32) (u : WU) (post : WU → Prop) : Prop :=
  wp_X6_spread_c9 x1 x2 u (fun u1 => wp_X6_spread_c10 x1 x3 u1 (fun u2 => post u2))
abbrev rm_X6_tellAsk : Room := { frames := 2, cells := 0, slots := 0, locals := 47 }
def wp_X8_asks (x1 : Int32) (x2 : Int32) (x3 : Int32) (x4 : Int32) (u : WU) (post : Int32 → WU → Prop) : Prop :=
  wp_X8_isPair x1 x2 (fun r1 => ((r1 = 0 → post 0 u) ∧ (¬ r1 = 0 → wp_X8_within x3 16 (fun r2 => ((r2 = 0 → post 0 u) ∧ (¬ r2 = 0 → wp_X8_within x4 16 (fun r3 => ((¬ r3 = 0 → wp_X8_pairOf x1 x2 (fun r4 => wp_X6_tellAsk r4 x3 x4 u (fun u5 => post 1 u5))) ∧ (r3 = 0 → post 0 u)))))))))
abbrev rm_X8_asks : Room := { frames := 3, cells := 0, slots := 0, locals := 70 }
def wp_X9_bit (x0 : Int32) (x1 : Int32) (post : Int64 → Prop) : Prop :=
  post (jshl 1 ((8 * x0) + x1))
abbrev rm_X9_bit : Room := { frames := 0, cells := 0, slots := 0, locals := 0 }
def wp_X9_lies (x0 : Int32) (x1 : Int32) (x2 : Int32) (post : Int32 → Prop) : Prop :=
  ((x0 < x1 → post 0) ∧ (¬ x0 < x1 → ((x2 < x0 → post 0) ∧ (¬ x2 < x0 → post 1))))
abbrev rm_X9_lies : Room := { frames := 0, cells := 0, slots := 0, locals := 0 }
def wp_X9_isLicence (x0 : Int32) (post : Int32 → Prop) : Prop :=
  wp_X9_lies x0 0 7 (fun r1 => bl r1 ∧ post r1)
abbrev rm_X9_isLicence : Room := { frames := 1, cells := 0, slots := 0, locals := 22 }
def wp_X9_asks_J140 (x1 : Int32) (x2 : Int32) (x3 : Int32) (x4 : Int32) (x5 : Int32) (u : WU) (post : Int32 → WU → Prop) (K43 : Int32 → WU → Prop) : Prop :=
  ∀ y15 : Int32, y15 = x5 + 1 → K43 y15 u
def wp_X9_asks_J95 (x1 : Int32) (x2 : Int32) (x3 : Int32) (x4 : Int32) (x5 : Int32) (u : WU) (post : Int32 → WU → Prop) (K43 : Int32 → WU → Prop) : Prop :=
  vp_in x5 4 ∧ wp_X9_bit x1 x2 (fun r7 => vp_in x5 4 ∧ ∀ u8 : WU, u8 = uJ u 0 (vp_updL (u.2 0) x5.toNatClampNeg ((u.2 0 x5.toNatClampNeg) &&& (r7 ^^^ (-1)))) → ((¬ ((x4 >>> (x5 &&& 31)) &&& 1) = 1 → wp_X9_asks_J140 x1 x2 x3 x4 x5 u8 post (fun (y9 : Int32) (u10 : WU) => K43 y9 u10)) ∧ (((x4 >>> (x5 &&& 31)) &&& 1) = 1 → vp_in x5 4 ∧ wp_X9_bit x1 x2 (fun r11 => vp_in x5 4 ∧ ∀ u12 : WU, u12 = uJ u8 0 (vp_updL (u8.2 0) x5.toNatClampNeg ((u8.2 0 x5.toNatClampNeg) ||| r11)) → wp_X9_asks_J140 x1 x2 x3 x4 x5 u12 post (fun (y13 : Int32) (u14 : WU) => K43 y13 u14)))))
def wp_X9_asks_L43 (x1 : Int32) (x2 : Int32) (x3 : Int32) (x4 : Int32) (post : Int32 → WU → Prop) : Nat → Int32 → WU → Prop
  | 0, _, _ => False
  | n + 1, x5, u =>
  ((4 ≤ x5 → post 1 u) ∧ (¬ 4 ≤ x5 → vp_in ((4 * x1) + x5) 32 ∧ vp_in ((4 * x1) + x5) 32 ∧ ∀ u1 : WU, u1 = uI u 0 (upd (u.1 0) ((4 * x1) + x5).toNatClampNeg ((u.1 0 ((4 * x1) + x5).toNatClampNeg) &&& ((1 <<< (x2 &&& 31)) ^^^ (-1)))) → ((¬ ((x3 >>> (x5 &&& 31)) &&& 1) = 1 → wp_X9_asks_J95 x1 x2 x3 x4 x5 u1 post (fun (y2 : Int32) (u3 : WU) => wp_X9_asks_L43 x1 x2 x3 x4 post n y2 u3)) ∧ (((x3 >>> (x5 &&& 31)) &&& 1) = 1 → vp_in ((4 * x1) + x5) 32 ∧ vp_in ((4 * x1) + x5) 32 ∧ ∀ u4 : WU, u4 = uI u1 0 (upd (u1.1 0) ((4 * x1) + x5).toNatClampNeg ((u1.1 0 ((4 * x1) + x5).toNatClampNeg) ||| (1 <<< (x2 &&& 31)))) → wp_X9_asks_J95 x1 x2 x3 x4 x5 u4 post (fun (y5 : Int32) (u6 : WU) => wp_X9_asks_L43 x1 x2 x3 x4 post n y5 u6)))))
def wp_X9_asks (x1 : Int32) (x2 : Int32) (x3 : Int32) (x4 : Int32) (u : WU) (post : Int32 → WU → Prop) : Prop :=
  wp_X9_isLicence x1 (fun r16 => ((r16 = 0 → post 0 u) ∧ (¬ r16 = 0 → wp_X9_lies x2 0 7 (fun r17 => ((r17 = 0 → post 0 u) ∧ (¬ r17 = 0 → wp_X9_lies x3 0 15 (fun r18 => ((r18 = 0 → post 0 u) ∧ (¬ r18 = 0 → wp_X9_lies x4 0 15 (fun r19 => ((¬ r19 = 0 → ∃ nn : Nat, wp_X9_asks_L43 x1 x2 x3 x4 post nn 0 u) ∧ (r19 = 0 → post 0 u))))))))))))
abbrev rm_X9_asks : Room := { frames := 2, cells := 0, slots := 0, locals := 42 }
def wp_X6_tellBars_J30 (x1 : Int32) (x2 : Int32) (x3 : Int64) (x5 : Int32) (u : WU) (post : WU → Prop) (K5 : Int64 → Int32 → WU → Prop) : Prop :=
  ∀ y10 : Int32, y10 = x5 + 1 → K5 x3 y10 u
def wp_X6_tellBars_L5 (x1 : Int32) (x2 : Int32) (post : WU → Prop) : Nat → Int64 → Int32 → WU → Prop
  | 0, _, _, _ => False
  | n + 1, x3, x5, u =>
  ((8 ≤ x5 → vp_in x1 8 ∧ ∀ u1 : WU, u1 = uJ u 2 (vp_updL (u.2 2) x1.toNatClampNeg x3) → post u1) ∧ (¬ 8 ≤ x5 → ((x5 = x1 → wp_X6_tellBars_J30 x1 x2 x3 x5 u post (fun (y2 : Int64) (y3 : Int32) (u4 : WU) => wp_X6_tellBars_L5 x1 x2 post n y2 y3 u4)) ∧ (¬ x5 = x1 → wp_X8_pairOf x5 0 (fun r5 => ∀ y6 : Int64, y6 = x3 ||| (jshl x2.toInt64 r5) → wp_X6_tellBars_J30 x1 x2 y6 x5 u post (fun (y7 : Int64) (y8 : Int32) (u9 : WU) => wp_X6_tellBars_L5 x1 x2 post n y7 y8 u9))))))
def wp_X6_tellBars (x1 : Int32) (x2 : Int32) (u : WU) (post : WU → Prop) : Prop :=
  ∃ nn : Nat, wp_X6_tellBars_L5 x1 x2 post nn 0 0 u
abbrev rm_X6_tellBars : Room := { frames := 1, cells := 0, slots := 0, locals := 21 }
def wp_X8_bars (x1 : Int32) (x2 : Int32) (u : WU) (post : Int32 → WU → Prop) : Prop :=
  wp_X8_within x1 8 (fun r1 => ((r1 = 0 → post 0 u) ∧ (¬ r1 = 0 → wp_X8_within x2 256 (fun r2 => ((¬ r2 = 0 → wp_X6_tellBars x1 x2 u (fun u3 => post 1 u3)) ∧ (r2 = 0 → post 0 u))))))
abbrev rm_X8_bars : Room := { frames := 2, cells := 0, slots := 0, locals := 46 }
def wp_X9_bars (x1 : Int32) (x2 : Int32) (u : WU) (post : Int32 → WU → Prop) : Prop :=
  wp_X9_isLicence x1 (fun r1 => ((r1 = 0 → post 0 u) ∧ (¬ r1 = 0 → wp_X9_lies x2 0 255 (fun r2 => ((¬ r2 = 0 → vp_in x1 8 ∧ ∀ u3 : WU, u3 = uI u 1 (upd (u.1 1) x1.toNatClampNeg x2) → post 1 u3) ∧ (r2 = 0 → post 0 u))))))
abbrev rm_X9_bars : Room := { frames := 2, cells := 0, slots := 0, locals := 42 }
def wp_X8_isRowOfChoices (x0 : Int32) (x1 : Int32) (x2 : Int32) (post : Int32 → Prop) : Prop :=
  wp_X8_within x0 8 (fun r1 => ((¬ r1 = 0 → ((¬ x1 = (-1) → wp_X8_within x1 8 (fun r2 => ((r2 = 0 → post 0) ∧ (¬ r2 = 0 → ((¬ x0 = x1 → ((x2 = (-1) → post 1) ∧ (¬ x2 = (-1) → wp_X8_within x2 8 (fun r3 => ((r3 = 0 → post 0) ∧ (¬ r3 = 0 → ((x2 = x0 → post 0) ∧ (¬ x2 = x0 → ((x2 = x1 → post 0) ∧ (¬ x2 = x1 → post 1)))))))))) ∧ (x0 = x1 → post 0)))))) ∧ (x1 = (-1) → ((¬ x2 = (-1) → post 0) ∧ (x2 = (-1) → post 1))))) ∧ (r1 = 0 → post 0)))
abbrev rm_X8_isRowOfChoices : Room := { frames := 1, cells := 0, slots := 0, locals := 21 }
def wp_X5_add_J75 (x1 : Int32) (x4 : Int32) (z1 : Int32) (z2 : Int32) (u : WU) (post : Int32 → WU → Prop) : Prop :=
  vp_in z1 24 ∧ ∀ u1 : WU, u1 = uI u 1 (upd (u.1 1) z1.toNatClampNeg z2) → vp_in x4 24 ∧ ∀ u2 : WU, u2 = uI u1 2 (upd (u1.1 2) x4.toNatClampNeg x1) → post x4 u2
def wp_X5_add (x1 : Int32) (x2 : Int32) (x3 : Int32) (u : WU) (post : Int32 → WU → Prop) : Prop :=
  ∀ y3 : Int32, y3 = u.1 20 0 → ∀ u4 : WU, u4 = uI u 20 (fun _ => (u.1 20 0) + 1) → vp_in (y3 * 3) 72 ∧ ∀ u5 : WU, u5 = uI u4 0 (upd (u4.1 0) (y3 * 3).toNatClampNeg x1) → vp_in ((y3 * 3) + 1) 72 ∧ ∀ u6 : WU, u6 = uI u5 0 (upd (u5.1 0) ((y3 * 3) + 1).toNatClampNeg x2) → vp_in ((y3 * 3) + 2) 72 ∧ ∀ u7 : WU, u7 = uI u6 0 (upd (u6.1 0) ((y3 * 3) + 2).toNatClampNeg x3) → ((¬ x2 = (-1) → ((¬ x3 = (-1) → wp_X5_add_J75 x1 y3 y3 3 u7 post) ∧ (x3 = (-1) → wp_X5_add_J75 x1 y3 y3 2 u7 post))) ∧ (x2 = (-1) → wp_X5_add_J75 x1 y3 y3 1 u7 post))
abbrev rm_X5_add : Room := { frames := 0, cells := 0, slots := 0, locals := 0 }
def wp_X8_part (x1 : Int32) (x2 : Int32) (x3 : Int32) (u : WU) (post : Int32 → WU → Prop) : Prop :=
  wp_X8_isRowOfChoices x1 x2 x3 (fun r1 => ((r1 = 0 → post (-1) u) ∧ (¬ r1 = 0 → (((u.1 20 0) < 24 → wp_X5_add x1 x2 x3 u (fun r3 u2 => post r3 u2)) ∧ (¬ (u.1 20 0) < 24 → post (-1) u)))))
abbrev rm_X8_part : Room := { frames := 2, cells := 0, slots := 0, locals := 43 }
def wp_X9_part_J136  (z1 : Int32) (z2 : Int32) (u : WU) (post : Int32 → WU → Prop) : Prop :=
  vp_in z1 24 ∧ ∀ u6 : WU, u6 = uI u 3 (upd (u.1 3) z1.toNatClampNeg z2) → ∀ u7 : WU, u7 = uI u6 21 (fun _ => (u6.1 21 0) + 1) → post ((u7.1 21 0) - 1) u7
def wp_X9_part_J69 (x1 : Int32) (x2 : Int32) (x3 : Int32) (u : WU) (post : Int32 → WU → Prop) : Prop :=
  vp_in (3 * (u.1 21 0)) 72 ∧ ∀ u3 : WU, u3 = uI u 2 (upd (u.1 2) (3 * (u.1 21 0)).toNatClampNeg x1) → vp_in ((3 * (u3.1 21 0)) + 1) 72 ∧ ∀ u4 : WU, u4 = uI u3 2 (upd (u3.1 2) ((3 * (u3.1 21 0)) + 1).toNatClampNeg x2) → vp_in ((3 * (u4.1 21 0)) + 2) 72 ∧ ∀ u5 : WU, u5 = uI u4 2 (upd (u4.1 2) ((3 * (u4.1 21 0)) + 2).toNatClampNeg x3) → ((¬ x2 = (-1) → ((¬ x3 = (-1) → wp_X9_part_J136 (u5.1 21 0) 3 u5 post) ∧ (x3 = (-1) → wp_X9_part_J136 (u5.1 21 0) 2 u5 post))) ∧ (x2 = (-1) → wp_X9_part_J136 (u5.1 21 0) 1 u5 post))
def wp_X9_part_J45 (x1 : Int32) (x2 : Int32) (x3 : Int32) (u : WU) (post : Int32 → WU → Prop) : Prop :=
  ((x3 = (-1) → wp_X9_part_J69 x1 x2 x3 u post) ∧ (¬ x3 = (-1) → wp_X9_isLicence x3 (fun r2 => ((r2 = 0 → post (-1) u) ∧ (¬ r2 = 0 → ((x3 = x1 → post (-1) u) ∧ (¬ x3 = x1 → ((¬ x3 = x2 → wp_X9_part_J69 x1 x2 x3 u post) ∧ (x3 = x2 → post (-1) u)))))))))
def wp_X9_part_J28 (x1 : Int32) (x2 : Int32) (x3 : Int32) (u : WU) (post : Int32 → WU → Prop) : Prop :=
  ((x2 = (-1) → wp_X9_part_J45 x1 x2 x3 u post) ∧ (¬ x2 = (-1) → wp_X9_isLicence x2 (fun r1 => ((r1 = 0 → post (-1) u) ∧ (¬ r1 = 0 → ((x2 = x1 → post (-1) u) ∧ (¬ x2 = x1 → wp_X9_part_J45 x1 x2 x3 u post)))))))
def wp_X9_part (x1 : Int32) (x2 : Int32) (x3 : Int32) (u : WU) (post : Int32 → WU → Prop) : Prop :=
  (((u.1 21 0) = 24 → post (-1) u) ∧ (¬ (u.1 21 0) = 24 → wp_X9_isLicence x1 (fun r8 => ((r8 = 0 → post (-1) u) ∧ (¬ r8 = 0 → ((¬ x2 = (-1) → wp_X9_part_J28 x1 x2 x3 u post) ∧ (x2 = (-1) → ((x3 = (-1) → wp_X9_part_J28 x1 x2 x3 u post) ∧ (¬ x3 = (-1) → post (-1) u)))))))))
abbrev rm_X9_part : Room := { frames := 2, cells := 0, slots := 0, locals := 42 }
def wp_X5_has (x1 : Int32) (u : WU) (post : Int32 → Prop) : Prop :=
  wp_X8_within x1 (u.1 20 0) (fun r1 => bl r1 ∧ post r1)
abbrev rm_X5_has : Room := { frames := 1, cells := 0, slots := 0, locals := 21 }
def wp_X5_choiceOf (x1 : Int32) (x2 : Int32) (u : WU) (post : Int32 → Prop) : Prop :=
  vp_in ((x1 * 3) + x2) 72 ∧ post (u.1 0 ((x1 * 3) + x2).toNatClampNeg)
abbrev rm_X5_choiceOf : Room := { frames := 0, cells := 0, slots := 0, locals := 0 }
def wp_X8_take (x1 : Int32) (x2 : Int32) (u : WU) (post : Int32 → WU → Prop) : Prop :=
  wp_X5_has x1 u (fun r1 => ((r1 = 0 → post 0 u) ∧ (¬ r1 = 0 → vp_in x1 24 ∧ wp_X8_within x2 (u.1 1 x1.toNatClampNeg) (fun r2 => ((¬ r2 = 0 → wp_X5_choiceOf x1 x2 u (fun r3 => vp_in x1 24 ∧ ((¬ (u.1 2 x1.toNatClampNeg) = r3 → vp_in x1 24 ∧ ∀ u4 : WU, u4 = uI u 2 (upd (u.1 2) x1.toNatClampNeg r3) → post 1 u4) ∧ ((u.1 2 x1.toNatClampNeg) = r3 → post 0 u)))) ∧ (r2 = 0 → post 0 u))))))
abbrev rm_X8_take : Room := { frames := 2, cells := 0, slots := 0, locals := 42 }
def wp_X9_isPart (x1 : Int32) (u : WU) (post : Int32 → Prop) : Prop :=
  wp_X9_lies x1 0 ((u.1 21 0) - 1) (fun r1 => bl r1 ∧ post r1)
abbrev rm_X9_isPart : Room := { frames := 1, cells := 0, slots := 0, locals := 22 }
def wp_X9_take (x1 : Int32) (x2 : Int32) (u : WU) (post : Int32 → WU → Prop) : Prop :=
  wp_X9_isPart x1 u (fun r1 => ((r1 = 0 → post 0 u) ∧ (¬ r1 = 0 → vp_in x1 24 ∧ wp_X9_lies x2 0 ((u.1 3 x1.toNatClampNeg) - 1) (fun r2 => ((r2 = 0 → post 0 u) ∧ (¬ r2 = 0 → vp_in x1 24 ∧ ((¬ (u.1 4 x1.toNatClampNeg) = x2 → vp_in x1 24 ∧ ∀ u3 : WU, u3 = uI u 4 (upd (u.1 4) x1.toNatClampNeg x2) → post 1 u3) ∧ ((u.1 4 x1.toNatClampNeg) = x2 → post 0 u))))))))
abbrev rm_X9_take : Room := { frames := 2, cells := 0, slots := 0, locals := 43 }
def wp_X3_leads_L7 (x1 : Int32) (x2 : Int32) (u : WU) (post : Int32 → Prop) : Nat → Int32 → Prop
  | 0, _ => False
  | n + 1, x3 =>
  vp_in x2 24 ∧ (((u.1 9 x2.toNatClampNeg) ≤ x3 → post 0) ∧ (¬ (u.1 9 x2.toNatClampNeg) ≤ x3 → vp_in x3 40 ∧ vp_in (u.1 7 x3.toNatClampNeg) 40 ∧ ((¬ (u.1 3 (u.1 7 x3.toNatClampNeg).toNatClampNeg) = x1 → ∀ y1 : Int32, y1 = x3 + 1 → wp_X3_leads_L7 x1 x2 u post n y1) ∧ ((u.1 3 (u.1 7 x3.toNatClampNeg).toNatClampNeg) = x1 → post 1))))
def wp_X3_leads (x1 : Int32) (x2 : Int32) (u : WU) (post : Int32 → Prop) : Prop :=
  vp_in x2 24 ∧ ∀ y2 : Int32, y2 = u.1 8 x2.toNatClampNeg → ∃ nn : Nat, wp_X3_leads_L7 x1 x2 u post nn y2
abbrev rm_X3_leads : Room := { frames := 0, cells := 0, slots := 0, locals := 0 }
def wp_X3_allIn_J96 (x2 : Int64) (x4 : Int32) (x5 : Int32) (u : WU) (post : Int32 → Prop) (K9 : Int32 → Int32 → Prop) : Prop :=
  ∀ y17 : Int32, y17 = x5 + (-1) → K9 x4 y17
def wp_X3_allIn_J90 (x2 : Int64) (x4 : Int32) (x5 : Int32) (x6 : Int32) (x7 : Int32) (u : WU) (post : Int32 → Prop) (K46 : Int32 → Int32 → Prop) : Prop :=
  ∀ y16 : Int32, y16 = x7 + 1 → K46 x4 y16
def wp_X3_allIn_L46 (x2 : Int64) (x5 : Int32) (x6 : Int32) (u : WU) (post : Int32 → Prop) (K96 : Int32 → Prop) : Nat → Int32 → Int32 → Prop
  | 0, _, _ => False
  | n + 1, x4, x7 =>
  vp_in x6 24 ∧ (((u.1 9 x6.toNatClampNeg) ≤ x7 → K96 x4) ∧ (¬ (u.1 9 x6.toNatClampNeg) ≤ x7 → vp_in x7 40 ∧ ∀ y9 : Int32, y9 = u.1 7 x7.toNatClampNeg → wp_X8_holds x2 y9 (fun r10 => ((r10 = 0 → wp_X3_allIn_J90 x2 x4 x5 x6 x7 u post (fun (y11 : Int32) (y12 : Int32) => wp_X3_allIn_L46 x2 x5 x6 u post K96 n y11 y12)) ∧ (¬ r10 = 0 → vp_in y9 40 ∧ ∀ y13 : Int32, y13 = x4 ||| (1 <<< ((u.1 3 y9.toNatClampNeg) &&& 31)) → wp_X3_allIn_J90 x2 y13 x5 x6 x7 u post (fun (y14 : Int32) (y15 : Int32) => wp_X3_allIn_L46 x2 x5 x6 u post K96 n y14 y15))))))
def wp_X3_allIn_L9 (x2 : Int64) (u : WU) (post : Int32 → Prop) : Nat → Int32 → Int32 → Prop
  | 0, _, _ => False
  | n + 1, x4, x5 =>
  ((x5 < 0 → post x4) ∧ (¬ x5 < 0 → vp_in x5 24 ∧ ∀ y1 : Int32, y1 = u.1 6 x5.toNatClampNeg → wp_X8_holds x4.toInt64 y1 (fun r2 => ((¬ r2 = 0 → vp_in y1 24 ∧ ∀ y3 : Int32, y3 = u.1 8 y1.toNatClampNeg → ∃ nn : Nat, wp_X3_allIn_L46 x2 x5 y1 u post (fun (y4 : Int32) => wp_X3_allIn_J96 x2 y4 x5 u post (fun (y5 : Int32) (y6 : Int32) => wp_X3_allIn_L9 x2 u post n y5 y6)) nn x4 y3) ∧ (r2 = 0 → wp_X3_allIn_J96 x2 x4 x5 u post (fun (y7 : Int32) (y8 : Int32) => wp_X3_allIn_L9 x2 u post n y7 y8))))))
def wp_X3_allIn (x1 : Int32) (x2 : Int64) (u : WU) (post : Int32 → Prop) : Prop :=
  ∀ y18 : Int32, y18 = 1 <<< (x1 &&& 31) → ∃ nn : Nat, wp_X3_allIn_L9 x2 u post nn y18 23
abbrev rm_X3_allIn : Room := { frames := 1, cells := 0, slots := 0, locals := 22 }
def wp_X3_sortJoins_J64 (x1 : Int32) (x2 : Int32) (x3 : Int32) (u : WU) (post : WU → Prop) (K19 : Int32 → Int32 → WU → Prop) : Prop :=
  ∀ y21 : Int32, y21 = x3 + 1 → K19 x1 y21 u
def wp_X3_sortJoins_L19 (x2 : Int32) (post : WU → Prop) (K70 : Int32 → WU → Prop) : Nat → Int32 → Int32 → WU → Prop
  | 0, _, _, _ => False
  | n + 1, x1, x3, u =>
  (((u.1 22 0) ≤ x3 → K70 x1 u) ∧ (¬ (u.1 22 0) ≤ x3 → vp_in x3 40 ∧ ((¬ (u.1 4 x3.toNatClampNeg) = x2 → wp_X3_sortJoins_J64 x1 x2 x3 u post (fun (y6 : Int32) (y7 : Int32) (u8 : WU) => wp_X3_sortJoins_L19 x2 post K70 n y6 y7 u8)) ∧ ((u.1 4 x3.toNatClampNeg) = x2 → wp_X8_holds (u.2 6 0) x3 (fun r9 => ((r9 = 0 → wp_X3_sortJoins_J64 x1 x2 x3 u post (fun (y10 : Int32) (y11 : Int32) (u12 : WU) => wp_X3_sortJoins_L19 x2 post K70 n y10 y11 u12)) ∧ (¬ r9 = 0 → ((40 ≤ x1 → wp_X3_sortJoins_J64 x1 x2 x3 u post (fun (y13 : Int32) (y14 : Int32) (u15 : WU) => wp_X3_sortJoins_L19 x2 post K70 n y13 y14 u15)) ∧ (¬ 40 ≤ x1 → vp_in x1 40 ∧ ∀ u16 : WU, u16 = uI u 7 (upd (u.1 7) x1.toNatClampNeg x3) → ∀ y17 : Int32, y17 = x1 + 1 → wp_X3_sortJoins_J64 y17 x2 x3 u16 post (fun (y18 : Int32) (y19 : Int32) (u20 : WU) => wp_X3_sortJoins_L19 x2 post K70 n y18 y19 u20))))))))))
def wp_X3_sortJoins_L4  (post : WU → Prop) : Nat → Int32 → Int32 → WU → Prop
  | 0, _, _, _ => False
  | n + 1, x1, x2, u =>
  ((24 ≤ x2 → post u) ∧ (¬ 24 ≤ x2 → vp_in x2 24 ∧ ∀ u1 : WU, u1 = uI u 8 (upd (u.1 8) x2.toNatClampNeg x1) → ∃ nn : Nat, wp_X3_sortJoins_L19 x2 post (fun (y2 : Int32) (u3 : WU) => vp_in x2 24 ∧ ∀ u4 : WU, u4 = uI u3 9 (upd (u3.1 9) x2.toNatClampNeg y2) → ∀ y5 : Int32, y5 = x2 + 1 → wp_X3_sortJoins_L4 post n y2 y5 u4) nn x1 0 u1))
def wp_X3_sortJoins  (u : WU) (post : WU → Prop) : Prop :=
  ∃ nn : Nat, wp_X3_sortJoins_L4 post nn 0 0 u
abbrev rm_X3_sortJoins : Room := { frames := 1, cells := 0, slots := 0, locals := 22 }
def wp_X3_directlyIn_L9 (x1 : Int32) (u : WU) (post : Int32 → Prop) : Nat → Int32 → Int32 → Prop
  | 0, _, _ => False
  | n + 1, x2, x3 =>
  vp_in x1 24 ∧ (((u.1 9 x1.toNatClampNeg) ≤ x3 → post x2) ∧ (¬ (u.1 9 x1.toNatClampNeg) ≤ x3 → vp_in x3 40 ∧ vp_in (u.1 7 x3.toNatClampNeg) 40 ∧ ∀ y1 : Int32, y1 = x2 ||| (1 <<< ((u.1 3 (u.1 7 x3.toNatClampNeg).toNatClampNeg) &&& 31)) → ∀ y2 : Int32, y2 = x3 + 1 → wp_X3_directlyIn_L9 x1 u post n y1 y2))
def wp_X3_directlyIn (x1 : Int32) (u : WU) (post : Int32 → Prop) : Prop :=
  vp_in x1 24 ∧ ∀ y3 : Int32, y3 = u.1 8 x1.toNatClampNeg → ∃ nn : Nat, wp_X3_directlyIn_L9 x1 u post nn 0 y3
abbrev rm_X3_directlyIn : Room := { frames := 0, cells := 0, slots := 0, locals := 0 }
def wp_X3_orderParts_J81 (x1 : Int32) (x2 : Int32) (x3 : Int32) (u : WU) (post : WU → Prop) (K6 : Int32 → Int32 → Int32 → WU → Prop) : Prop :=
  ∀ y26 : Int32, y26 = x3 + 1 → K6 x1 x2 y26 u
def wp_X3_orderParts_J75 (x1 : Int32) (x2 : Int32) (x3 : Int32) (x4 : Int32) (u : WU) (post : WU → Prop) (K21 : Int32 → Int32 → Int32 → WU → Prop) : Prop :=
  ∀ y25 : Int32, y25 = x4 + 1 → K21 x1 x2 y25 u
def wp_X3_orderParts_L21 (x3 : Int32) (post : WU → Prop) (K81 : Int32 → Int32 → WU → Prop) : Nat → Int32 → Int32 → Int32 → WU → Prop
  | 0, _, _, _, _ => False
  | n + 1, x1, x2, x4, u =>
  ((24 ≤ x4 → K81 x1 x2 u) ∧ (¬ 24 ≤ x4 → ((24 ≤ x2 → K81 x1 x2 u) ∧ (¬ 24 ≤ x2 → wp_X8_holds x1.toInt64 x4 (fun r8 => ((¬ r8 = 0 → wp_X3_orderParts_J75 x1 x2 x3 x4 u post (fun (y9 : Int32) (y10 : Int32) (y11 : Int32) (u12 : WU) => wp_X3_orderParts_L21 x3 post K81 n y9 y10 y11 u12)) ∧ (r8 = 0 → wp_X3_directlyIn x4 u (fun r13 => ((¬ (r13 &&& (x1 ^^^ (-1))) = 0 → wp_X3_orderParts_J75 x1 x2 x3 x4 u post (fun (y14 : Int32) (y15 : Int32) (y16 : Int32) (u17 : WU) => wp_X3_orderParts_L21 x3 post K81 n y14 y15 y16 u17)) ∧ ((r13 &&& (x1 ^^^ (-1))) = 0 → vp_in x2 24 ∧ ∀ u18 : WU, u18 = uI u 6 (upd (u.1 6) x2.toNatClampNeg x4) → ∀ y19 : Int32, y19 = x2 + 1 → ∀ y20 : Int32, y20 = x1 ||| (1 <<< (x4 &&& 31)) → wp_X3_orderParts_J75 y20 y19 x3 x4 u18 post (fun (y21 : Int32) (y22 : Int32) (y23 : Int32) (u24 : WU) => wp_X3_orderParts_L21 x3 post K81 n y21 y22 y23 u24)))))))))))
def wp_X3_orderParts_L6  (post : WU → Prop) : Nat → Int32 → Int32 → Int32 → WU → Prop
  | 0, _, _, _, _ => False
  | n + 1, x1, x2, x3, u =>
  ((24 ≤ x3 → post u) ∧ (¬ 24 ≤ x3 → ((24 ≤ x2 → post u) ∧ (¬ 24 ≤ x2 → ∃ nn : Nat, wp_X3_orderParts_L21 x3 post (fun (y1 : Int32) (y2 : Int32) (u3 : WU) => wp_X3_orderParts_J81 y1 y2 x3 u3 post (fun (y4 : Int32) (y5 : Int32) (y6 : Int32) (u7 : WU) => wp_X3_orderParts_L6 post n y4 y5 y6 u7)) nn x1 x2 0 u))))
def wp_X3_orderParts  (u : WU) (post : WU → Prop) : Prop :=
  ∃ nn : Nat, wp_X3_orderParts_L6 post nn 0 0 0 u
abbrev rm_X3_orderParts : Room := { frames := 1, cells := 0, slots := 0, locals := 23 }
def wp_X3_add (x1 : Int32) (x2 : Int32) (x3 : Int32) (u : WU) (post : Int32 → WU → Prop) : Prop :=
  ∀ y1 : Int32, y1 = u.1 22 0 → ∀ u2 : WU, u2 = uI u 22 (fun _ => (u.1 22 0) + 1) → vp_in y1 40 ∧ ∀ u3 : WU, u3 = uI u2 3 (upd (u2.1 3) y1.toNatClampNeg x1) → vp_in y1 40 ∧ ∀ u4 : WU, u4 = uI u3 4 (upd (u3.1 4) y1.toNatClampNeg x2) → vp_in y1 40 ∧ ∀ u5 : WU, u5 = uI u4 5 (upd (u4.1 5) y1.toNatClampNeg x3) → ∀ u6 : WU, u6 = uJ u5 6 (fun _ => (u5.2 6 0) ||| (jshl 1 y1)) → wp_X3_sortJoins u6 (fun u7 => wp_X3_orderParts u7 (fun u8 => post y1 u8))
abbrev rm_X3_add : Room := { frames := 2, cells := 0, slots := 0, locals := 47 }
def wp_X8_join (x1 : Int32) (x2 : Int32) (x3 : Int32) (u : WU) (post : Int32 → WU → Prop) : Prop :=
  wp_X5_has x1 u (fun r1 => ((r1 = 0 → post (-1) u) ∧ (¬ r1 = 0 → wp_X5_has x2 u (fun r2 => ((r2 = 0 → post (-1) u) ∧ (¬ r2 = 0 → wp_X8_within x3 4 (fun r3 => ((r3 = 0 → post (-1) u) ∧ (¬ r3 = 0 → (((u.1 22 0) < 40 → wp_X3_leads x1 x2 u (fun r4 => ((¬ r4 = 0 → post (-1) u) ∧ (r4 = 0 → wp_X3_allIn x1 (u.2 6 0) u (fun r5 => wp_X8_holds r5.toInt64 x2 (fun r6 => ((r6 = 0 → wp_X3_add x1 x2 x3 u (fun r8 u7 => post r8 u7)) ∧ (¬ r6 = 0 → post (-1) u)))))))) ∧ (¬ (u.1 22 0) < 40 → post (-1) u)))))))))))
abbrev rm_X8_join : Room := { frames := 3, cells := 0, slots := 0, locals := 71 }
def wp_X9_asItIs_L2  (post : WU → Prop) (K28 : WU → Prop) : Nat → Int32 → WU → Prop
  | 0, _, _ => False
  | n + 1, x1, u =>
  (((u.1 23 0) ≤ x1 → K28 u) ∧ (¬ (u.1 23 0) ≤ x1 → vp_in x1 40 ∧ vp_in x1 40 ∧ ∀ u1 : WU, u1 = uI u 14 (upd (u.1 14) x1.toNatClampNeg (vp_nar .boolean (u.1 8 x1.toNatClampNeg))) → ∀ y2 : Int32, y2 = x1 + 1 → wp_X9_asItIs_L2 post K28 n y2 u1))
def wp_X9_asItIs_L30  (post : WU → Prop) : Nat → Int32 → WU → Prop
  | 0, _, _ => False
  | n + 1, x1, u =>
  (((u.1 21 0) ≤ x1 → post u) ∧ (¬ (u.1 21 0) ≤ x1 → vp_in x1 24 ∧ vp_in ((3 * x1) + (u.1 4 x1.toNatClampNeg)) 72 ∧ vp_in x1 24 ∧ ∀ u3 : WU, u3 = uI u 15 (upd (u.1 15) x1.toNatClampNeg (u.1 2 ((3 * x1) + (u.1 4 x1.toNatClampNeg)).toNatClampNeg)) → ∀ y4 : Int32, y4 = x1 + 1 → wp_X9_asItIs_L30 post n y4 u3))
def wp_X9_asItIs  (u : WU) (post : WU → Prop) : Prop :=
  ∃ nn : Nat, wp_X9_asItIs_L2 post (fun (u5 : WU) => ∃ nn : Nat, wp_X9_asItIs_L30 post nn 0 u5) nn 0 u
abbrev rm_X9_asItIs : Room := { frames := 0, cells := 0, slots := 0, locals := 0 }
def wp_X9_reaches_J23 (x1 : Int32) (x2 : Int32) (z1 : Int32) (z2 : Int32) (u : WU) (post : WU → Prop) (K2 : Int32 → WU → Prop) : Prop :=
  vp_in z1 24 ∧ ∀ u20 : WU, u20 = uI u 13 (upd (u.1 13) z1.toNatClampNeg (vp_nar .boolean z2)) → ∀ y21 : Int32, y21 = x2 + 1 → K2 y21 u20
def wp_X9_reaches_L2 (x1 : Int32) (post : WU → Prop) (K30 : WU → Prop) : Nat → Int32 → WU → Prop
  | 0, _, _ => False
  | n + 1, x2, u =>
  ((24 ≤ x2 → K30 u) ∧ (¬ 24 ≤ x2 → ((¬ x2 = x1 → wp_X9_reaches_J23 x1 x2 x2 0 u post (fun (y1 : Int32) (u2 : WU) => wp_X9_reaches_L2 x1 post K30 n y1 u2)) ∧ (x2 = x1 → wp_X9_reaches_J23 x1 x2 x2 1 u post (fun (y3 : Int32) (u4 : WU) => wp_X9_reaches_L2 x1 post K30 n y3 u4)))))
def wp_X9_reaches_J102 (x2 : Int32) (x3 : Int32) (u : WU) (post : WU → Prop) (K40 : Int32 → Int32 → WU → Prop) : Prop :=
  ∀ y22 : Int32, y22 = x3 + 1 → K40 x2 y22 u
def wp_X9_reaches_L40  (post : WU → Prop) (K108 : Int32 → WU → Prop) : Nat → Int32 → Int32 → WU → Prop
  | 0, _, _, _ => False
  | n + 1, x2, x3, u =>
  (((u.1 23 0) ≤ x3 → K108 x2 u) ∧ (¬ (u.1 23 0) ≤ x3 → vp_in x3 40 ∧ ((¬ (u.1 14 x3.toNatClampNeg) = 0 → wp_X9_reaches_J102 x2 x3 u post (fun (y7 : Int32) (y8 : Int32) (u9 : WU) => wp_X9_reaches_L40 post K108 n y7 y8 u9)) ∧ ((u.1 14 x3.toNatClampNeg) = 0 → vp_in x3 40 ∧ vp_in (u.1 6 x3.toNatClampNeg) 24 ∧ (((u.1 13 (u.1 6 x3.toNatClampNeg).toNatClampNeg) = 0 → wp_X9_reaches_J102 x2 x3 u post (fun (y10 : Int32) (y11 : Int32) (u12 : WU) => wp_X9_reaches_L40 post K108 n y10 y11 u12)) ∧ (¬ (u.1 13 (u.1 6 x3.toNatClampNeg).toNatClampNeg) = 0 → vp_in x3 40 ∧ vp_in (u.1 5 x3.toNatClampNeg) 24 ∧ (((u.1 13 (u.1 5 x3.toNatClampNeg).toNatClampNeg) = 0 → vp_in x3 40 ∧ vp_in (u.1 5 x3.toNatClampNeg) 24 ∧ ∀ u13 : WU, u13 = uI u 13 (upd (u.1 13) (u.1 5 x3.toNatClampNeg).toNatClampNeg (vp_nar .boolean 1)) → wp_X9_reaches_J102 1 x3 u13 post (fun (y14 : Int32) (y15 : Int32) (u16 : WU) => wp_X9_reaches_L40 post K108 n y14 y15 u16)) ∧ (¬ (u.1 13 (u.1 5 x3.toNatClampNeg).toNatClampNeg) = 0 → wp_X9_reaches_J102 x2 x3 u post (fun (y17 : Int32) (y18 : Int32) (u19 : WU) => wp_X9_reaches_L40 post K108 n y17 y18 u19)))))))))
def wp_X9_reaches_L32  (post : WU → Prop) : Nat → Int32 → WU → Prop
  | 0, _, _ => False
  | n + 1, x2, u =>
  ((x2 = 0 → post u) ∧ (¬ x2 = 0 → ∃ nn : Nat, wp_X9_reaches_L40 post (fun (y5 : Int32) (u6 : WU) => wp_X9_reaches_L32 post n y5 u6) nn 0 0 u))
def wp_X9_reaches (x1 : Int32) (u : WU) (post : WU → Prop) : Prop :=
  ∃ nn : Nat, wp_X9_reaches_L2 x1 post (fun (u23 : WU) => ∃ nn : Nat, wp_X9_reaches_L32 post nn 1 u23) nn 0 u
abbrev rm_X9_reaches : Room := { frames := 0, cells := 0, slots := 0, locals := 0 }
def wp_X9_join_J87 (x1 : Int32) (x2 : Int32) (x3 : Int32) (x4 : Int32) (u : WU) (post : Int32 → WU → Prop) (K44 : Int32 → WU → Prop) : Prop :=
  ∀ y7 : Int32, y7 = x4 + 1 → K44 y7 u
def wp_X9_join_L44 (x1 : Int32) (x2 : Int32) (x3 : Int32) (post : Int32 → WU → Prop) (K93 : WU → Prop) : Nat → Int32 → WU → Prop
  | 0, _, _ => False
  | n + 1, x4, u =>
  (((u.1 23 0) ≤ x4 → K93 u) ∧ (¬ (u.1 23 0) ≤ x4 → vp_in x4 40 ∧ ((¬ (u.1 8 x4.toNatClampNeg) = 0 → wp_X9_join_J87 x1 x2 x3 x4 u post (fun (y1 : Int32) (u2 : WU) => wp_X9_join_L44 x1 x2 x3 post K93 n y1 u2)) ∧ ((u.1 8 x4.toNatClampNeg) = 0 → vp_in x4 40 ∧ ((¬ (u.1 5 x4.toNatClampNeg) = x1 → wp_X9_join_J87 x1 x2 x3 x4 u post (fun (y3 : Int32) (u4 : WU) => wp_X9_join_L44 x1 x2 x3 post K93 n y3 u4)) ∧ ((u.1 5 x4.toNatClampNeg) = x1 → vp_in x4 40 ∧ ((¬ (u.1 6 x4.toNatClampNeg) = x2 → wp_X9_join_J87 x1 x2 x3 x4 u post (fun (y5 : Int32) (u6 : WU) => wp_X9_join_L44 x1 x2 x3 post K93 n y5 u6)) ∧ ((u.1 6 x4.toNatClampNeg) = x2 → post (-1) u))))))))
def wp_X9_join (x1 : Int32) (x2 : Int32) (x3 : Int32) (u : WU) (post : Int32 → WU → Prop) : Prop :=
  (((u.1 23 0) = 40 → post (-1) u) ∧ (¬ (u.1 23 0) = 40 → wp_X9_isPart x1 u (fun r8 => ((r8 = 0 → post (-1) u) ∧ (¬ r8 = 0 → wp_X9_isPart x2 u (fun r9 => ((r9 = 0 → post (-1) u) ∧ (¬ r9 = 0 → ((x1 = x2 → post (-1) u) ∧ (¬ x1 = x2 → wp_X9_lies x3 0 3 (fun r10 => ((¬ r10 = 0 → ∃ nn : Nat, wp_X9_join_L44 x1 x2 x3 post (fun (u11 : WU) => wp_X9_asItIs u11 (fun u12 => wp_X9_reaches x1 u12 (fun u13 => vp_in x2 24 ∧ (((u13.1 13 x2.toNatClampNeg) = 0 → vp_in (u13.1 23 0) 40 ∧ ∀ u14 : WU, u14 = uI u13 5 (upd (u13.1 5) (u13.1 23 0).toNatClampNeg x1) → vp_in (u14.1 23 0) 40 ∧ ∀ u15 : WU, u15 = uI u14 6 (upd (u14.1 6) (u14.1 23 0).toNatClampNeg x2) → vp_in (u15.1 23 0) 40 ∧ ∀ u16 : WU, u16 = uI u15 7 (upd (u15.1 7) (u15.1 23 0).toNatClampNeg x3) → ∀ u17 : WU, u17 = uI u16 23 (fun _ => (u16.1 23 0) + 1) → post ((u17.1 23 0) - 1) u17) ∧ (¬ (u13.1 13 x2.toNatClampNeg) = 0 → post (-1) u13))))) nn 0 u) ∧ (r10 = 0 → post (-1) u)))))))))))))
abbrev rm_X9_join : Room := { frames := 2, cells := 0, slots := 0, locals := 43 }
def wp_X3_isThere (x1 : Int32) (u : WU) (post : Int32 → Prop) : Prop :=
  wp_X8_within x1 (u.1 22 0) (fun r1 => ((r1 = 0 → post 0) ∧ (¬ r1 = 0 → wp_X8_holds (u.2 6 0) x1 (fun r2 => ((r2 = 0 → post 0) ∧ (¬ r2 = 0 → post 1))))))
abbrev rm_X3_isThere : Room := { frames := 1, cells := 0, slots := 0, locals := 22 }
def wp_X3_remove (x1 : Int32) (u : WU) (post : WU → Prop) : Prop :=
  ∀ u1 : WU, u1 = uJ u 6 (fun _ => (u.2 6 0) &&& ((jshl 1 x1) ^^^ (-1))) → wp_X3_sortJoins u1 (fun u2 => post u2)
abbrev rm_X3_remove : Room := { frames := 2, cells := 0, slots := 0, locals := 45 }
def wp_X8_cut (x1 : Int32) (u : WU) (post : Int32 → WU → Prop) : Prop :=
  wp_X3_isThere x1 u (fun r1 => ((¬ r1 = 0 → wp_X3_remove x1 u (fun u2 => post 1 u2)) ∧ (r1 = 0 → post 0 u)))
abbrev rm_X8_cut : Room := { frames := 3, cells := 0, slots := 0, locals := 66 }
def wp_X9_cut (x1 : Int32) (u : WU) (post : Int32 → WU → Prop) : Prop :=
  wp_X9_lies x1 0 ((u.1 23 0) - 1) (fun r1 => ((r1 = 0 → post 0 u) ∧ (¬ r1 = 0 → vp_in x1 40 ∧ (((u.1 8 x1.toNatClampNeg) = 0 → vp_in x1 40 ∧ ∀ u2 : WU, u2 = uI u 8 (upd (u.1 8) x1.toNatClampNeg (vp_nar .boolean 1)) → post 1 u2) ∧ (¬ (u.1 8 x1.toNatClampNeg) = 0 → post 0 u)))))
abbrev rm_X9_cut : Room := { frames := 1, cells := 0, slots := 0, locals := 22 }
def wp_X8_except (x1 : Int32) (x2 : Int32) (x3 : Int32) (u : WU) (post : Int32 → WU → Prop) : Prop :=
  wp_X5_has x1 u (fun r1 => ((r1 = 0 → post 0 u) ∧ (¬ r1 = 0 → wp_X8_isPair x2 x3 (fun r2 => ((r2 = 0 → post 0 u) ∧ (¬ r2 = 0 → vp_in x1 24 ∧ wp_X8_pairOf x2 x3 (fun r3 => wp_X8_holds (u.2 3 x1.toNatClampNeg) r3 (fun r4 => ((r4 = 0 → vp_in x1 24 ∧ wp_X8_pairOf x2 x3 (fun r5 => vp_in x1 24 ∧ ∀ u6 : WU, u6 = uJ u 3 (vp_updL (u.2 3) x1.toNatClampNeg ((u.2 3 x1.toNatClampNeg) ||| (jshl 1 r5))) → post 1 u6)) ∧ (¬ r4 = 0 → post 0 u))))))))))
abbrev rm_X8_except : Room := { frames := 2, cells := 0, slots := 0, locals := 42 }
def wp_X9_except (x1 : Int32) (x2 : Int32) (x3 : Int32) (u : WU) (post : Int32 → WU → Prop) : Prop :=
  wp_X9_isPart x1 u (fun r1 => ((r1 = 0 → post 0 u) ∧ (¬ r1 = 0 → wp_X9_isLicence x2 (fun r2 => ((r2 = 0 → post 0 u) ∧ (¬ r2 = 0 → wp_X9_lies x3 0 7 (fun r3 => ((r3 = 0 → post 0 u) ∧ (¬ r3 = 0 → vp_in x1 24 ∧ wp_X9_bit x2 x3 (fun r4 => (((lg_cmp ((u.2 1 x1.toNatClampNeg) &&& r4) 0) = 0 → vp_in x1 24 ∧ wp_X9_bit x2 x3 (fun r5 => vp_in x1 24 ∧ ∀ u6 : WU, u6 = uJ u 1 (vp_updL (u.2 1) x1.toNatClampNeg ((u.2 1 x1.toNatClampNeg) ||| r5)) → post 1 u6)) ∧ (¬ (lg_cmp ((u.2 1 x1.toNatClampNeg) &&& r4) 0) = 0 → post 0 u))))))))))))
abbrev rm_X9_except : Room := { frames := 2, cells := 0, slots := 0, locals := 43 }
def wp_X8_product (x1 : Int32) (u : WU) (post : Int32 → WU → Prop) : Prop :=
  wp_X5_has x1 u (fun r1 => ((¬ r1 = 0 → ∀ u2 : WU, u2 = uI u 21 (fun _ => x1) → post 1 u2) ∧ (r1 = 0 → post 0 u)))
abbrev rm_X8_product : Room := { frames := 2, cells := 0, slots := 0, locals := 42 }
def wp_X9_product (x1 : Int32) (u : WU) (post : Int32 → WU → Prop) : Prop :=
  wp_X9_isPart x1 u (fun r1 => ((¬ r1 = 0 → ∀ u2 : WU, u2 = uI u 22 (fun _ => x1) → post 1 u2) ∧ (r1 = 0 → post 0 u)))
abbrev rm_X9_product : Room := { frames := 2, cells := 0, slots := 0, locals := 43 }
def wp_X0_add (x1 : Int32) (x2 : Int32) (x3 : Int32) (x4 : Int32) (u : WU) (post : Int32 → WU → Prop) : Prop :=
  ∀ y1 : Int32, y1 = u.1 23 0 → ∀ u2 : WU, u2 = uI u 23 (fun _ => (u.1 23 0) + 1) → vp_in y1 10 ∧ ∀ u3 : WU, u3 = uI u2 10 (upd (u2.1 10) y1.toNatClampNeg x1) → vp_in y1 10 ∧ ∀ u4 : WU, u4 = uI u3 11 (upd (u3.1 11) y1.toNatClampNeg x2) → vp_in y1 10 ∧ ∀ u5 : WU, u5 = uI u4 12 (upd (u4.1 12) y1.toNatClampNeg x3) → vp_in y1 10 ∧ ∀ u6 : WU, u6 = uI u5 13 (upd (u5.1 13) y1.toNatClampNeg x4) → post y1 u6
abbrev rm_X0_add : Room := { frames := 0, cells := 0, slots := 0, locals := 0 }
def wp_X8_change_J48 (x1 : Int32) (x2 : Int32) (x3 : Int32) (x4 : Int32) (z0 : Int32) (u : WU) (post : Int32 → WU → Prop) : Prop :=
  ((z0 = 0 → post (-1) u) ∧ (¬ z0 = 0 → wp_X8_within x4 100001 (fun r2 => ((r2 = 0 → post (-1) u) ∧ (¬ r2 = 0 → (((u.1 23 0) < 10 → wp_X0_add x1 x2 x3 x4 u (fun r4 u3 => post r4 u3)) ∧ (¬ (u.1 23 0) < 10 → post (-1) u)))))))
def wp_X8_change_J43 (x1 : Int32) (x2 : Int32) (x3 : Int32) (x4 : Int32) (u : WU) (post : Int32 → WU → Prop) : Prop :=
  wp_X8_change_J48 x1 x2 x3 x4 1 u post
def wp_X8_change_J47 (x1 : Int32) (x2 : Int32) (x3 : Int32) (x4 : Int32) (u : WU) (post : Int32 → WU → Prop) : Prop :=
  wp_X8_change_J48 x1 x2 x3 x4 0 u post
def wp_X8_change_J24 (x1 : Int32) (x2 : Int32) (x3 : Int32) (x4 : Int32) (u : WU) (post : Int32 → WU → Prop) : Prop :=
  ((¬ x1 = 1 → wp_X8_change_J47 x1 x2 x3 x4 u post) ∧ (x1 = 1 → wp_X8_within x2 (u.1 22 0) (fun r1 => ((r1 = 0 → wp_X8_change_J47 x1 x2 x3 x4 u post) ∧ (¬ r1 = 0 → wp_X8_change_J43 x1 x2 x3 x4 u post)))))
def wp_X8_change (x1 : Int32) (x2 : Int32) (x3 : Int32) (x4 : Int32) (u : WU) (post : Int32 → WU → Prop) : Prop :=
  ((¬ x1 = 0 → wp_X8_change_J24 x1 x2 x3 x4 u post) ∧ (x1 = 0 → wp_X5_has x2 u (fun r5 => ((r5 = 0 → wp_X8_change_J24 x1 x2 x3 x4 u post) ∧ (¬ r5 = 0 → wp_X8_within x3 8 (fun r6 => ((¬ r6 = 0 → wp_X8_change_J43 x1 x2 x3 x4 u post) ∧ (r6 = 0 → wp_X8_change_J24 x1 x2 x3 x4 u post))))))))
abbrev rm_X8_change : Room := { frames := 2, cells := 0, slots := 0, locals := 42 }
def wp_X9_change_J69 (x1 : Int32) (x2 : Int32) (x3 : Int32) (x4 : Int32) (u : WU) (post : Int32 → WU → Prop) : Prop :=
  vp_in (u.1 24 0) 10 ∧ ∀ u1 : WU, u1 = uI u 9 (upd (u.1 9) (u.1 24 0).toNatClampNeg x1) → vp_in (u1.1 24 0) 10 ∧ ∀ u2 : WU, u2 = uI u1 10 (upd (u1.1 10) (u1.1 24 0).toNatClampNeg x2) → vp_in (u2.1 24 0) 10 ∧ ∀ u3 : WU, u3 = uI u2 11 (upd (u2.1 11) (u2.1 24 0).toNatClampNeg x3) → vp_in (u3.1 24 0) 10 ∧ ∀ u4 : WU, u4 = uI u3 12 (upd (u3.1 12) (u3.1 24 0).toNatClampNeg x4) → ∀ u5 : WU, u5 = uI u4 24 (fun _ => (u4.1 24 0) + 1) → post ((u5.1 24 0) - 1) u5
def wp_X9_change (x1 : Int32) (x2 : Int32) (x3 : Int32) (x4 : Int32) (u : WU) (post : Int32 → WU → Prop) : Prop :=
  (((u.1 24 0) = 10 → post (-1) u) ∧ (¬ (u.1 24 0) = 10 → wp_X9_lies x1 0 1 (fun r6 => ((r6 = 0 → post (-1) u) ∧ (¬ r6 = 0 → wp_X9_lies x4 0 100000 (fun r7 => ((¬ r7 = 0 → ((¬ x1 = 0 → wp_X9_lies x2 0 ((u.1 23 0) - 1) (fun r8 => ((¬ r8 = 0 → wp_X9_change_J69 x1 x2 x3 x4 u post) ∧ (r8 = 0 → post (-1) u)))) ∧ (x1 = 0 → wp_X9_isPart x2 u (fun r9 => ((r9 = 0 → post (-1) u) ∧ (¬ r9 = 0 → wp_X9_isLicence x3 (fun r10 => ((¬ r10 = 0 → wp_X9_change_J69 x1 x2 x3 x4 u post) ∧ (r10 = 0 → post (-1) u))))))))) ∧ (r7 = 0 → post (-1) u))))))))
abbrev rm_X9_change : Room := { frames := 2, cells := 0, slots := 0, locals := 43 }
def wp_X8_pairsOf (x0 : Int32) (post : Int64 → Prop) : Prop :=
  wp_X8_pairOf x0 0 (fun r1 => post (jshl 255 r1))
abbrev rm_X8_pairsOf : Room := { frames := 1, cells := 0, slots := 0, locals := 21 }
def wp_X2_brought (x1 : Int32) (x2 : Int32) (x3 : Int32) (u : WU) (post : Int64 → Prop) : Prop :=
  vp_in x1 4 ∧ wp_X8_pairsOf x3 (fun r1 => vp_in x2 24 ∧ post (((u.2 0 x1.toNatClampNeg) &&& r1) &&& ((u.2 3 x2.toNatClampNeg) ^^^ (-1))))
abbrev rm_X2_brought : Room := { frames := 2, cells := 0, slots := 0, locals := 41 }
def wp_X2_arrive_J89 (x1 : Int32) (x4 : Int64) (x6 : Int64) (x8 : Int32) (u : WU) (post : WU → Prop) (K14 : Int64 → Int32 → WU → Prop) : Prop :=
  ∀ y11 : Int32, y11 = x8 + 1 → K14 x6 y11 u
def wp_X2_arrive_L14 (x1 : Int32) (x4 : Int64) (post : WU → Prop) : Nat → Int64 → Int32 → WU → Prop
  | 0, _, _, _ => False
  | n + 1, x6, x8, u =>
  vp_in x1 24 ∧ (((u.1 9 x1.toNatClampNeg) ≤ x8 → vp_in x1 24 ∧ ∀ u1 : WU, u1 = uJ u 4 (vp_updL (u.2 4) x1.toNatClampNeg x6) → post u1) ∧ (¬ (u.1 9 x1.toNatClampNeg) ≤ x8 → vp_in x8 40 ∧ ∀ y2 : Int32, y2 = u.1 7 x8.toNatClampNeg → wp_X8_holds x4 y2 (fun r3 => ((r3 = 0 → wp_X2_arrive_J89 x1 x4 x6 x8 u post (fun (y4 : Int64) (y5 : Int32) (u6 : WU) => wp_X2_arrive_L14 x1 x4 post n y4 y5 u6)) ∧ (¬ r3 = 0 → vp_in y2 40 ∧ vp_in (u.1 3 y2.toNatClampNeg) 24 ∧ vp_in y2 40 ∧ vp_in (u.1 5 y2.toNatClampNeg) 4 ∧ ∀ y7 : Int64, y7 = x6 ||| ((u.2 4 (u.1 3 y2.toNatClampNeg).toNatClampNeg) &&& (u.2 1 (u.1 5 y2.toNatClampNeg).toNatClampNeg)) → wp_X2_arrive_J89 x1 x4 y7 x8 u post (fun (y8 : Int64) (y9 : Int32) (u10 : WU) => wp_X2_arrive_L14 x1 x4 post n y8 y9 u10))))))
def wp_X2_arrive (x1 : Int32) (x2 : Int64) (x4 : Int64) (u : WU) (post : WU → Prop) : Prop :=
  vp_in x1 24 ∧ ∀ y12 : Int32, y12 = u.1 8 x1.toNatClampNeg → ∃ nn : Nat, wp_X2_arrive_L14 x1 x4 post nn x2 y12 u
abbrev rm_X2_arrive : Room := { frames := 1, cells := 0, slots := 0, locals := 22 }
def wp_X2_run_c14_L3 (x1 : Int32) (x3 : Int64) (post : WU → Prop) : Nat → Int32 → WU → Prop
  | 0, _, _ => False
  | n + 1, x5, u =>
  ((24 ≤ x5 → post u) ∧ (¬ 24 ≤ x5 → vp_in x5 24 ∧ ∀ y1 : Int32, y1 = u.1 6 x5.toNatClampNeg → vp_in y1 24 ∧ wp_X2_brought x1 y1 (u.1 2 y1.toNatClampNeg) u (fun r2 => wp_X2_arrive y1 r2 x3 u (fun u3 => ∀ y4 : Int32, y4 = x5 + 1 → wp_X2_run_c14_L3 x1 x3 post n y4 u3))))
def wp_X2_run_c14 (x1 : Int32) (x3 : Int64) (u : WU) (post : WU → Prop) : Prop :=
  ∃ nn : Nat, wp_X2_run_c14_L3 x1 x3 post nn 0 u
abbrev rm_X2_run : Room := { frames := 3, cells := 0, slots := 0, locals := 64 }
def wp_X8_come (x1 : Int32) (x2 : Int32) (x3 : Int32) (u : WU) (post : Int32 → WU → Prop) : Prop :=
  wp_X8_within x1 4 (fun r1 => ((r1 = 0 → post (-1) u) ∧ (¬ r1 = 0 → wp_X5_has x2 u (fun r2 => ((r2 = 0 → post (-1) u) ∧ (¬ r2 = 0 → wp_X8_within x3 8 (fun r3 => ((¬ r3 = 0 → wp_X2_run_c14 x1 (u.2 6 0) u (fun u4 => vp_in x2 24 ∧ wp_X8_pairOf x3 0 (fun r5 => post (((jushr (u4.2 4 x2.toNatClampNeg) r5).toInt32) &&& 255) u4))) ∧ (r3 = 0 → post (-1) u)))))))))
abbrev rm_X8_come : Room := { frames := 4, cells := 0, slots := 0, locals := 90 }
def wp_X9_isShipping (x0 : Int32) (post : Int32 → Prop) : Prop :=
  wp_X9_lies x0 0 3 (fun r1 => bl r1 ∧ post r1)
abbrev rm_X9_isShipping : Room := { frames := 1, cells := 0, slots := 0, locals := 22 }
def wp_X9_orders_L2  (post : WU → Prop) (K21 : WU → Prop) : Nat → Int32 → WU → Prop
  | 0, _, _ => False
  | n + 1, x1, u =>
  ((24 ≤ x1 → K21 u) ∧ (¬ 24 ≤ x1 → vp_in x1 24 ∧ ∀ u1 : WU, u1 = uI u 17 (upd (u.1 17) x1.toNatClampNeg 0) → ∀ y2 : Int32, y2 = x1 + 1 → wp_X9_orders_L2 post K21 n y2 u1))
def wp_X9_orders_J101 (x1 : Int32) (x2 : Int32) (u : WU) (post : WU → Prop) (K33 : Int32 → WU → Prop) : Prop :=
  ∀ y22 : Int32, y22 = x2 + 1 → K33 y22 u
def wp_X9_orders_L33 (x1 : Int32) (post : WU → Prop) (K107 : WU → Prop) : Nat → Int32 → WU → Prop
  | 0, _, _ => False
  | n + 1, x2, u =>
  (((u.1 23 0) ≤ x2 → K107 u) ∧ (¬ (u.1 23 0) ≤ x2 → vp_in x2 40 ∧ ((¬ (u.1 14 x2.toNatClampNeg) = 0 → wp_X9_orders_J101 x1 x2 u post (fun (y5 : Int32) (u6 : WU) => wp_X9_orders_L33 x1 post K107 n y5 u6)) ∧ ((u.1 14 x2.toNatClampNeg) = 0 → vp_in x2 40 ∧ vp_in (u.1 6 x2.toNatClampNeg) 24 ∧ vp_in x2 40 ∧ vp_in (u.1 5 x2.toNatClampNeg) 24 ∧ ((((u.1 17 (u.1 5 x2.toNatClampNeg).toNatClampNeg) + 1) ≤ (u.1 17 (u.1 6 x2.toNatClampNeg).toNatClampNeg) → wp_X9_orders_J101 x1 x2 u post (fun (y7 : Int32) (u8 : WU) => wp_X9_orders_L33 x1 post K107 n y7 u8)) ∧ (¬ ((u.1 17 (u.1 5 x2.toNatClampNeg).toNatClampNeg) + 1) ≤ (u.1 17 (u.1 6 x2.toNatClampNeg).toNatClampNeg) → vp_in x2 40 ∧ vp_in x2 40 ∧ vp_in (u.1 5 x2.toNatClampNeg) 24 ∧ vp_in (u.1 6 x2.toNatClampNeg) 24 ∧ ∀ u9 : WU, u9 = uI u 17 (upd (u.1 17) (u.1 6 x2.toNatClampNeg).toNatClampNeg ((u.1 17 (u.1 5 x2.toNatClampNeg).toNatClampNeg) + 1)) → wp_X9_orders_J101 x1 x2 u9 post (fun (y10 : Int32) (u11 : WU) => wp_X9_orders_L33 x1 post K107 n y10 u11)))))))
def wp_X9_orders_L23  (post : WU → Prop) (K113 : WU → Prop) : Nat → Int32 → WU → Prop
  | 0, _, _ => False
  | n + 1, x1, u =>
  (((u.1 21 0) ≤ x1 → K113 u) ∧ (¬ (u.1 21 0) ≤ x1 → ∃ nn : Nat, wp_X9_orders_L33 x1 post (fun (u3 : WU) => ∀ y4 : Int32, y4 = x1 + 1 → wp_X9_orders_L23 post K113 n y4 u3) nn 0 u))
def wp_X9_orders_J183 (x1 : Int32) (x2 : Int32) (u : WU) (post : WU → Prop) (K128 : Int32 → WU → Prop) : Prop :=
  ∀ y23 : Int32, y23 = x2 + 1 → K128 y23 u
def wp_X9_orders_L128 (x1 : Int32) (post : WU → Prop) (K189 : WU → Prop) : Nat → Int32 → WU → Prop
  | 0, _, _ => False
  | n + 1, x2, u =>
  (((u.1 23 0) ≤ x2 → K189 u) ∧ (¬ (u.1 23 0) ≤ x2 → vp_in x2 40 ∧ ((¬ (u.1 14 x2.toNatClampNeg) = 0 → wp_X9_orders_J183 x1 x2 u post (fun (y14 : Int32) (u15 : WU) => wp_X9_orders_L128 x1 post K189 n y14 u15)) ∧ ((u.1 14 x2.toNatClampNeg) = 0 → vp_in x2 40 ∧ vp_in (u.1 5 x2.toNatClampNeg) 24 ∧ (((u.1 17 (u.1 5 x2.toNatClampNeg).toNatClampNeg) = x1 → vp_in (u.1 25 0) 40 ∧ ∀ u16 : WU, u16 = uI u 16 (upd (u.1 16) (u.1 25 0).toNatClampNeg x2) → ∀ u17 : WU, u17 = uI u16 25 (fun _ => (u16.1 25 0) + 1) → wp_X9_orders_J183 x1 x2 u17 post (fun (y18 : Int32) (u19 : WU) => wp_X9_orders_L128 x1 post K189 n y18 u19)) ∧ (¬ (u.1 17 (u.1 5 x2.toNatClampNeg).toNatClampNeg) = x1 → wp_X9_orders_J183 x1 x2 u post (fun (y20 : Int32) (u21 : WU) => wp_X9_orders_L128 x1 post K189 n y20 u21)))))))
def wp_X9_orders_L120  (post : WU → Prop) : Nat → Int32 → WU → Prop
  | 0, _, _ => False
  | n + 1, x1, u =>
  ((24 ≤ x1 → post u) ∧ (¬ 24 ≤ x1 → ∃ nn : Nat, wp_X9_orders_L128 x1 post (fun (u12 : WU) => ∀ y13 : Int32, y13 = x1 + 1 → wp_X9_orders_L120 post n y13 u12) nn 0 u))
def wp_X9_orders  (u : WU) (post : WU → Prop) : Prop :=
  ∃ nn : Nat, wp_X9_orders_L2 post (fun (u24 : WU) => ∃ nn : Nat, wp_X9_orders_L23 post (fun (u25 : WU) => ∀ u26 : WU, u26 = uI u25 25 (fun _ => 0) → ∃ nn : Nat, wp_X9_orders_L120 post nn 0 u26) nn 0 u24) nn 0 u
abbrev rm_X9_orders : Room := { frames := 0, cells := 0, slots := 0, locals := 0 }
def wp_X9_brings (x1 : Int32) (x2 : Int32) (u : WU) (post : Int64 → Prop) : Prop :=
  vp_in x2 24 ∧ vp_in ((4 * (u.1 15 x2.toNatClampNeg)) + x1) 32 ∧ vp_in x2 24 ∧ vp_in x2 24 ∧ post ((jshl ((u.1 0 ((4 * (u.1 15 x2.toNatClampNeg)) + x1).toNatClampNeg).toInt64) (8 * (u.1 15 x2.toNatClampNeg))) &&& ((u.2 1 x2.toNatClampNeg) ^^^ (-1)))
abbrev rm_X9_brings : Room := { frames := 0, cells := 0, slots := 0, locals := 0 }
def wp_X9_comes_L2 (x1 : Int32) (post : WU → Prop) (K28 : WU → Prop) : Nat → Int32 → WU → Prop
  | 0, _, _ => False
  | n + 1, x2, u =>
  (((u.1 21 0) ≤ x2 → K28 u) ∧ (¬ (u.1 21 0) ≤ x2 → wp_X9_brings x1 x2 u (fun r1 => vp_in x2 24 ∧ ∀ u2 : WU, u2 = uJ u 2 (vp_updL (u.2 2) x2.toNatClampNeg r1) → ∀ y3 : Int32, y3 = x2 + 1 → wp_X9_comes_L2 x1 post K28 n y3 u2)))
def wp_X9_comes_L30  (post : WU → Prop) : Nat → Int32 → WU → Prop
  | 0, _, _ => False
  | n + 1, x2, u =>
  (((u.1 25 0) ≤ x2 → post u) ∧ (¬ (u.1 25 0) ≤ x2 → vp_in x2 40 ∧ ∀ y4 : Int32, y4 = u.1 16 x2.toNatClampNeg → vp_in y4 40 ∧ vp_in (u.1 6 y4.toNatClampNeg) 24 ∧ vp_in y4 40 ∧ vp_in (u.1 5 y4.toNatClampNeg) 24 ∧ vp_in y4 40 ∧ vp_in (u.1 7 y4.toNatClampNeg) 4 ∧ vp_in (u.1 6 y4.toNatClampNeg) 24 ∧ ∀ u5 : WU, u5 = uJ u 2 (vp_updL (u.2 2) (u.1 6 y4.toNatClampNeg).toNatClampNeg ((u.2 2 (u.1 6 y4.toNatClampNeg).toNatClampNeg) ||| ((u.2 2 (u.1 5 y4.toNatClampNeg).toNatClampNeg) &&& (u.2 0 (u.1 7 y4.toNatClampNeg).toNatClampNeg)))) → ∀ y6 : Int32, y6 = x2 + 1 → wp_X9_comes_L30 post n y6 u5))
def wp_X9_comes (x1 : Int32) (u : WU) (post : WU → Prop) : Prop :=
  ∃ nn : Nat, wp_X9_comes_L2 x1 post (fun (u7 : WU) => ∃ nn : Nat, wp_X9_comes_L30 post nn 0 u7) nn 0 u
abbrev rm_X9_comes : Room := { frames := 1, cells := 0, slots := 0, locals := 22 }
def wp_X9_works (x1 : Int32) (u : WU) (post : WU → Prop) : Prop :=
  wp_X9_asItIs u (fun u1 => wp_X9_orders u1 (fun u2 => wp_X9_reaches (u2.1 22 0) u2 (fun u3 => wp_X9_comes x1 u3 (fun u4 => post u4))))
abbrev rm_X9_works : Room := { frames := 2, cells := 0, slots := 0, locals := 45 }
def wp_X9_come (x1 : Int32) (x2 : Int32) (x3 : Int32) (u : WU) (post : Int32 → WU → Prop) : Prop :=
  wp_X9_isShipping x1 (fun r1 => ((r1 = 0 → post (-1) u) ∧ (¬ r1 = 0 → wp_X9_isPart x2 u (fun r2 => ((r2 = 0 → post (-1) u) ∧ (¬ r2 = 0 → wp_X9_isLicence x3 (fun r3 => ((¬ r3 = 0 → wp_X9_works x1 u (fun u4 => vp_in x2 24 ∧ post (((jshr (u4.2 2 x2.toNatClampNeg) (8 * x3)) &&& 255).toInt32) u4)) ∧ (r3 = 0 → post (-1) u)))))))))
abbrev rm_X9_come : Room := { frames := 3, cells := 0, slots := 0, locals := 66 }
def wp_X2_foughtAt (x1 : Int32) (x2 : Int32) (u : WU) (post : Int64 → Prop) : Prop :=
  vp_in x1 24 ∧ vp_in x2 8 ∧ post ((u.2 4 x1.toNatClampNeg) &&& (u.2 2 x2.toNatClampNeg))
abbrev rm_X2_foughtAt : Room := { frames := 0, cells := 0, slots := 0, locals := 0 }
def wp_J13_bitCount_95d88 (x0 : Int64) (post : Int32 → Prop) : Prop :=
  ∀ y1 : Int64, y1 = x0 - ((jushr x0 1) &&& 6148914691236517205) → ∀ y2 : Int64, y2 = (y1 &&& 3689348814741910323) + ((jushr y1 2) &&& 3689348814741910323) → ∀ y3 : Int64, y3 = (y2 + (jushr y2 4)) &&& 1085102592571150095 → ∀ y4 : Int64, y4 = y3 + (jushr y3 8) → ∀ y5 : Int64, y5 = y4 + (jushr y4 16) → ∀ y6 : Int64, y6 = y5 + (jushr y5 32) → post (y6.toInt32 &&& 127)
abbrev rm_J13_bitCount_95d88 : Room := { frames := 0, cells := 0, slots := 0, locals := 0 }
def wp_X2_ofProduct (x1 : Int64) (u : WU) (post : Int32 → Prop) : Prop :=
  ((¬ (u.1 20 0) = 0 → wp_X3_allIn (u.1 21 0) x1 u (fun r1 => post r1)) ∧ ((u.1 20 0) = 0 → post 0))
abbrev rm_X2_ofProduct : Room := { frames := 2, cells := 0, slots := 0, locals := 50 }
def wp_X2_quarrelCount_c14_J54 (x4 : Int32) (x5 : Int32) (x6 : Int32) (u : WU) (post : Int32 → Prop) (K13 : Int32 → Int32 → Prop) : Prop :=
  ∀ y9 : Int32, y9 = x6 + 1 → K13 x5 y9
def wp_X2_quarrelCount_c14_L13 (x4 : Int32) (u : WU) (post : Int32 → Prop) : Nat → Int32 → Int32 → Prop
  | 0, _, _ => False
  | n + 1, x5, x6 =>
  (((u.1 20 0) ≤ x6 → post x5) ∧ (¬ (u.1 20 0) ≤ x6 → wp_X8_holds x4.toInt64 x6 (fun r1 => ((r1 = 0 → wp_X2_quarrelCount_c14_J54 x4 x5 x6 u post (fun (y2 : Int32) (y3 : Int32) => wp_X2_quarrelCount_c14_L13 x4 u post n y2 y3)) ∧ (¬ r1 = 0 → vp_in x6 24 ∧ wp_X2_foughtAt x6 (u.1 2 x6.toNatClampNeg) u (fun r4 => wp_J13_bitCount_95d88 r4 (fun r5 => ∀ y6 : Int32, y6 = x5 + r5 → wp_X2_quarrelCount_c14_J54 x4 y6 x6 u post (fun (y7 : Int32) (y8 : Int32) => wp_X2_quarrelCount_c14_L13 x4 u post n y7 y8))))))))
def wp_X2_quarrelCount_c14 (x2 : Int64) (u : WU) (post : Int32 → Prop) : Prop :=
  wp_X2_ofProduct x2 u (fun r10 => ∃ nn : Nat, wp_X2_quarrelCount_c14_L13 r10 u post nn 0 0)
abbrev rm_X2_quarrelCount : Room := { frames := 3, cells := 0, slots := 0, locals := 72 }
def wp_X8_quarrels (x1 : Int32) (u : WU) (post : Int32 → WU → Prop) : Prop :=
  wp_X8_within x1 4 (fun r1 => ((¬ r1 = 0 → wp_X2_run_c14 x1 (u.2 6 0) u (fun u2 => wp_X2_quarrelCount_c14 (u2.2 6 0) u2 (fun r3 => post r3 u2))) ∧ (r1 = 0 → post (-1) u)))
abbrev rm_X8_quarrels : Room := { frames := 4, cells := 0, slots := 0, locals := 98 }
def wp_X9_bars__J34 (x1 : Int32) (x2 : Int64) (x4 : Int32) (u : WU) (post : Int64 → Prop) (K5 : Int64 → Int32 → Prop) : Prop :=
  ∀ y6 : Int32, y6 = x4 + 1 → K5 x2 y6
def wp_X9_bars__L5 (x1 : Int32) (u : WU) (post : Int64 → Prop) : Nat → Int64 → Int32 → Prop
  | 0, _, _ => False
  | n + 1, x2, x4 =>
  ((8 ≤ x4 → post x2) ∧ (¬ 8 ≤ x4 → ((x4 = x1 → wp_X9_bars__J34 x1 x2 x4 u post (fun (y1 : Int64) (y2 : Int32) => wp_X9_bars__L5 x1 u post n y1 y2)) ∧ (¬ x4 = x1 → vp_in x1 8 ∧ ∀ y3 : Int64, y3 = x2 ||| (jshl ((u.1 1 x1.toNatClampNeg).toInt64) (8 * x4)) → wp_X9_bars__J34 x1 y3 x4 u post (fun (y4 : Int64) (y5 : Int32) => wp_X9_bars__L5 x1 u post n y4 y5)))))
def wp_X9_bars_ (x1 : Int32) (u : WU) (post : Int64 → Prop) : Prop :=
  ∃ nn : Nat, wp_X9_bars__L5 x1 u post nn 0 0
abbrev rm_X9_bars_ : Room := { frames := 0, cells := 0, slots := 0, locals := 0 }
def wp_X9_bits_L4  (post : Int32 → Prop) : Nat → Int32 → Int64 → Prop
  | 0, _, _ => False
  | n + 1, x2, x3 =>
  (((lg_cmp x3 0) = 0 → post x2) ∧ (¬ (lg_cmp x3 0) = 0 → ∀ y1 : Int32, y1 = x2 + 1 → ∀ y2 : Int64, y2 = x3 &&& (x3 - 1) → wp_X9_bits_L4 post n y1 y2))
def wp_X9_bits (x0 : Int64) (post : Int32 → Prop) : Prop :=
  ∃ nn : Nat, wp_X9_bits_L4 post nn 0 x0
abbrev rm_X9_bits : Room := { frames := 0, cells := 0, slots := 0, locals := 0 }
def wp_X9_quarrelsNow_J44 (x1 : Int32) (x2 : Int32) (u : WU) (post : Int32 → Prop) (K4 : Int32 → Int32 → Prop) : Prop :=
  ∀ y8 : Int32, y8 = x2 + 1 → K4 x1 y8
def wp_X9_quarrelsNow_L4  (u : WU) (post : Int32 → Prop) : Nat → Int32 → Int32 → Prop
  | 0, _, _ => False
  | n + 1, x1, x2 =>
  (((u.1 21 0) ≤ x2 → post x1) ∧ (¬ (u.1 21 0) ≤ x2 → vp_in x2 24 ∧ (((u.1 13 x2.toNatClampNeg) = 0 → wp_X9_quarrelsNow_J44 x1 x2 u post (fun (y1 : Int32) (y2 : Int32) => wp_X9_quarrelsNow_L4 u post n y1 y2)) ∧ (¬ (u.1 13 x2.toNatClampNeg) = 0 → vp_in x2 24 ∧ vp_in x2 24 ∧ wp_X9_bars_ (u.1 15 x2.toNatClampNeg) u (fun r3 => wp_X9_bits ((u.2 2 x2.toNatClampNeg) &&& r3) (fun r4 => ∀ y5 : Int32, y5 = x1 + r4 → wp_X9_quarrelsNow_J44 y5 x2 u post (fun (y6 : Int32) (y7 : Int32) => wp_X9_quarrelsNow_L4 u post n y6 y7)))))))
def wp_X9_quarrelsNow  (u : WU) (post : Int32 → Prop) : Prop :=
  ∃ nn : Nat, wp_X9_quarrelsNow_L4 u post nn 0 0
abbrev rm_X9_quarrelsNow : Room := { frames := 1, cells := 0, slots := 0, locals := 24 }
def wp_X9_quarrels (x1 : Int32) (u : WU) (post : Int32 → WU → Prop) : Prop :=
  wp_X9_isShipping x1 (fun r1 => ((¬ r1 = 0 → wp_X9_works x1 u (fun u2 => wp_X9_quarrelsNow u2 (fun r3 => post r3 u2))) ∧ (r1 = 0 → post (-1) u)))
abbrev rm_X9_quarrels : Room := { frames := 3, cells := 0, slots := 0, locals := 66 }
def wp_X2_pairAt_J32 (x0 : Int64) (x2 : Int32) (x3 : Int32) (x4 : Int32) (post : Int32 → Prop) (K5 : Int32 → Int32 → Prop) : Prop :=
  ∀ y7 : Int32, y7 = x4 + 1 → K5 x3 y7
def wp_X2_pairAt_L5 (x0 : Int64) (x2 : Int32) (post : Int32 → Prop) : Nat → Int32 → Int32 → Prop
  | 0, _, _ => False
  | n + 1, x3, x4 =>
  ((64 ≤ x4 → post (-1)) ∧ (¬ 64 ≤ x4 → wp_X8_holds x0 x4 (fun r1 => ((r1 = 0 → wp_X2_pairAt_J32 x0 x2 x3 x4 post (fun (y2 : Int32) (y3 : Int32) => wp_X2_pairAt_L5 x0 x2 post n y2 y3)) ∧ (¬ r1 = 0 → ((¬ x3 = x2 → ∀ y4 : Int32, y4 = x3 + 1 → wp_X2_pairAt_J32 x0 x2 y4 x4 post (fun (y5 : Int32) (y6 : Int32) => wp_X2_pairAt_L5 x0 x2 post n y5 y6)) ∧ (x3 = x2 → post x4)))))))
def wp_X2_pairAt (x0 : Int64) (x2 : Int32) (post : Int32 → Prop) : Prop :=
  ∃ nn : Nat, wp_X2_pairAt_L5 x0 x2 post nn 0 0
abbrev rm_X2_pairAt : Room := { frames := 1, cells := 0, slots := 0, locals := 22 }
def wp_X2_quarrelAt_J59 (x1 : Int32) (x2 : Int32) (x3 : Int32) (x4 : Int32) (z0 : Int64) (u : WU) (post : Int32 → Prop) (K17 : Int32 → Int32 → Prop) : Prop :=
  wp_J13_bitCount_95d88 z0 (fun r7 => (((x3 + r7) ≤ x1 → ∀ y8 : Int32, y8 = x3 + r7 → ∀ y9 : Int32, y9 = x4 + 1 → K17 y8 y9) ∧ (¬ (x3 + r7) ≤ x1 → wp_X2_pairAt z0 (x1 - x3) (fun r10 => post ((x4 * 64) + r10)))))
def wp_X2_quarrelAt_L17 (x1 : Int32) (x2 : Int32) (u : WU) (post : Int32 → Prop) : Nat → Int32 → Int32 → Prop
  | 0, _, _ => False
  | n + 1, x3, x4 =>
  (((u.1 20 0) ≤ x4 → post (-1)) ∧ (¬ (u.1 20 0) ≤ x4 → wp_X8_holds x2.toInt64 x4 (fun r1 => ((r1 = 0 → wp_X2_quarrelAt_J59 x1 x2 x3 x4 0 u post (fun (y2 : Int32) (y3 : Int32) => wp_X2_quarrelAt_L17 x1 x2 u post n y2 y3)) ∧ (¬ r1 = 0 → vp_in x4 24 ∧ wp_X2_foughtAt x4 (u.1 2 x4.toNatClampNeg) u (fun r4 => wp_X2_quarrelAt_J59 x1 x2 x3 x4 r4 u post (fun (y5 : Int32) (y6 : Int32) => wp_X2_quarrelAt_L17 x1 x2 u post n y5 y6)))))))
def wp_X2_quarrelAt (x1 : Int32) (u : WU) (post : Int32 → Prop) : Prop :=
  wp_X2_ofProduct (u.2 6 0) u (fun r11 => ∃ nn : Nat, wp_X2_quarrelAt_L17 x1 r11 u post nn 0 0)
abbrev rm_X2_quarrelAt : Room := { frames := 3, cells := 0, slots := 0, locals := 72 }
def wp_X8_quarrel (x1 : Int32) (x2 : Int32) (u : WU) (post : Int32 → WU → Prop) : Prop :=
  wp_X8_within x1 4 (fun r1 => ((r1 = 0 → post (-1) u) ∧ (¬ r1 = 0 → ((0 ≤ x2 → wp_X2_run_c14 x1 (u.2 6 0) u (fun u2 => wp_X2_quarrelAt x2 u2 (fun r3 => post r3 u2))) ∧ (¬ 0 ≤ x2 → post (-1) u)))))
abbrev rm_X8_quarrel : Room := { frames := 4, cells := 0, slots := 0, locals := 99 }
def wp_X9_quarrel_J109 (x2 : Int32) (x3 : Int32) (x4 : Int32) (x5 : Int64) (x7 : Int32) (u : WU) (post : Int32 → WU → Prop) (K70 : Int32 → Int32 → WU → Prop) : Prop :=
  ∀ y18 : Int32, y18 = x7 + 1 → K70 x3 y18 u
def wp_X9_quarrel_L70 (x2 : Int32) (x4 : Int32) (x5 : Int64) (post : Int32 → WU → Prop) (K115 : Int32 → WU → Prop) : Nat → Int32 → Int32 → WU → Prop
  | 0, _, _, _ => False
  | n + 1, x3, x7, u =>
  ((64 ≤ x7 → K115 x3 u) ∧ (¬ 64 ≤ x7 → ((¬ (lg_cmp ((jshr x5 x7) &&& 1) 0) = 0 → ((¬ x3 = x2 → ∀ y8 : Int32, y8 = x3 + 1 → wp_X9_quarrel_J109 x2 y8 x4 x5 x7 u post (fun (y9 : Int32) (y10 : Int32) (u11 : WU) => wp_X9_quarrel_L70 x2 x4 x5 post K115 n y9 y10 u11)) ∧ (x3 = x2 → post ((64 * x4) + x7) u))) ∧ ((lg_cmp ((jshr x5 x7) &&& 1) 0) = 0 → wp_X9_quarrel_J109 x2 x3 x4 x5 x7 u post (fun (y12 : Int32) (y13 : Int32) (u14 : WU) => wp_X9_quarrel_L70 x2 x4 x5 post K115 n y12 y13 u14)))))
def wp_X9_quarrel_J65 (x2 : Int32) (x3 : Int32) (x4 : Int32) (z0 : Int64) (u : WU) (post : Int32 → WU → Prop) (K23 : Int32 → Int32 → WU → Prop) : Prop :=
  ∃ nn : Nat, wp_X9_quarrel_L70 x2 x4 z0 post (fun (y15 : Int32) (u16 : WU) => ∀ y17 : Int32, y17 = x4 + 1 → K23 y15 y17 u16) nn x3 0 u
def wp_X9_quarrel_L23 (x2 : Int32) (post : Int32 → WU → Prop) : Nat → Int32 → Int32 → WU → Prop
  | 0, _, _, _ => False
  | n + 1, x3, x4, u =>
  (((u.1 21 0) ≤ x4 → post (-1) u) ∧ (¬ (u.1 21 0) ≤ x4 → vp_in x4 24 ∧ (((u.1 13 x4.toNatClampNeg) = 0 → wp_X9_quarrel_J65 x2 x3 x4 0 u post (fun (y1 : Int32) (y2 : Int32) (u3 : WU) => wp_X9_quarrel_L23 x2 post n y1 y2 u3)) ∧ (¬ (u.1 13 x4.toNatClampNeg) = 0 → vp_in x4 24 ∧ vp_in x4 24 ∧ wp_X9_bars_ (u.1 15 x4.toNatClampNeg) u (fun r4 => wp_X9_quarrel_J65 x2 x3 x4 ((u.2 2 x4.toNatClampNeg) &&& r4) u post (fun (y5 : Int32) (y6 : Int32) (u7 : WU) => wp_X9_quarrel_L23 x2 post n y5 y6 u7))))))
def wp_X9_quarrel (x1 : Int32) (x2 : Int32) (u : WU) (post : Int32 → WU → Prop) : Prop :=
  wp_X9_isShipping x1 (fun r19 => ((r19 = 0 → post (-1) u) ∧ (¬ r19 = 0 → ((0 ≤ x2 → wp_X9_works x1 u (fun u20 => ∃ nn : Nat, wp_X9_quarrel_L23 x2 post nn 0 0 u20)) ∧ (¬ 0 ≤ x2 → post (-1) u)))))
abbrev rm_X9_quarrel : Room := { frames := 3, cells := 0, slots := 0, locals := 66 }
def wp_X2_wayCount_J48 (x1 : Int32) (x2 : Int32) (x3 : Int32) (u : WU) (post : Int32 → Prop) (K16 : Int32 → Int32 → Prop) : Prop :=
  ((x2 ≤ 6561 → ∀ y7 : Int32, y7 = x3 + 1 → K16 x2 y7) ∧ (¬ x2 ≤ 6561 → post (-1)))
def wp_X2_wayCount_L16 (x1 : Int32) (u : WU) (post : Int32 → Prop) : Nat → Int32 → Int32 → Prop
  | 0, _, _ => False
  | n + 1, x2, x3 =>
  (((u.1 20 0) ≤ x3 → post x2) ∧ (¬ (u.1 20 0) ≤ x3 → wp_X8_holds x1.toInt64 x3 (fun r1 => ((r1 = 0 → wp_X2_wayCount_J48 x1 x2 x3 u post (fun (y2 : Int32) (y3 : Int32) => wp_X2_wayCount_L16 x1 u post n y2 y3)) ∧ (¬ r1 = 0 → vp_in x3 24 ∧ ∀ y4 : Int32, y4 = x2 * (u.1 1 x3.toNatClampNeg) → wp_X2_wayCount_J48 x1 y4 x3 u post (fun (y5 : Int32) (y6 : Int32) => wp_X2_wayCount_L16 x1 u post n y5 y6))))))
def wp_X2_wayCount  (u : WU) (post : Int32 → Prop) : Prop :=
  wp_X2_ofProduct (u.2 6 0) u (fun r8 => ∃ nn : Nat, wp_X2_wayCount_L16 r8 u post nn 1 0)
abbrev rm_X2_wayCount : Room := { frames := 3, cells := 0, slots := 0, locals := 72 }
def wp_X1_settle_L2 (x1 : Int32) (post : Int32 → WU → Prop) : Nat → Int32 → WU → Prop
  | 0, _, _ => False
  | n + 1, x3, u =>
  (((u.1 24 0) ≤ x3 → post (u.1 24 0) u) ∧ (¬ (u.1 24 0) ≤ x3 → vp_in x3 24 ∧ ∀ y1 : Int32, y1 = u.1 14 x3.toNatClampNeg → vp_in y1 24 ∧ wp_X5_choiceOf y1 (u.1 15 y1.toNatClampNeg) u (fun r2 => wp_X2_brought x1 y1 r2 u (fun r3 => wp_X2_arrive y1 r3 (u.2 6 0) u (fun u4 => vp_in x3 25 ∧ wp_X2_foughtAt y1 r2 u4 (fun r5 => wp_J13_bitCount_95d88 r5 (fun r6 => vp_in (x3 + 1) 25 ∧ ∀ u7 : WU, u7 = uI u4 17 (upd (u4.1 17) (x3 + 1).toNatClampNeg ((u4.1 17 x3.toNatClampNeg) + r6)) → vp_in (x3 + 1) 25 ∧ (((u7.1 17 (x3 + 1).toNatClampNeg) ≤ (u7.1 25 0) → ∀ y8 : Int32, y8 = x3 + 1 → wp_X1_settle_L2 x1 post n y8 u7) ∧ (¬ (u7.1 17 (x3 + 1).toNatClampNeg) ≤ (u7.1 25 0) → post x3 u7)))))))))
def wp_X1_settle (x1 : Int32) (x2 : Int32) (u : WU) (post : Int32 → WU → Prop) : Prop :=
  ∃ nn : Nat, wp_X1_settle_L2 x1 post nn x2 u
abbrev rm_X1_settle : Room := { frames := 3, cells := 0, slots := 0, locals := 64 }
def wp_X1_isBetter_L46  (u : WU) (post : Int32 → Prop) (K67 : Int32 → Prop) : Nat → Int32 → Prop
  | 0, _ => False
  | n + 1, x3 =>
  ((24 ≤ x3 → post 0) ∧ (¬ 24 ≤ x3 → vp_in x3 24 ∧ vp_in x3 24 ∧ (((u.1 15 x3.toNatClampNeg) = (u.1 16 x3.toNatClampNeg) → ∀ y1 : Int32, y1 = x3 + 1 → wp_X1_isBetter_L46 u post K67 n y1) ∧ (¬ (u.1 15 x3.toNatClampNeg) = (u.1 16 x3.toNatClampNeg) → K67 x3))))
def wp_X1_isBetter (x1 : Int32) (x2 : Int32) (u : WU) (post : Int32 → Prop) : Prop :=
  ((x1 = (u.1 25 0) → ((x2 = (u.1 26 0) → ∃ nn : Nat, wp_X1_isBetter_L46 u post (fun (y2 : Int32) => vp_in y2 24 ∧ vp_in y2 24 ∧ (((u.1 16 y2.toNatClampNeg) ≤ (u.1 15 y2.toNatClampNeg) → post 0) ∧ (¬ (u.1 16 y2.toNatClampNeg) ≤ (u.1 15 y2.toNatClampNeg) → post 1))) nn 0) ∧ (¬ x2 = (u.1 26 0) → (((u.1 26 0) ≤ x2 → post 0) ∧ (¬ (u.1 26 0) ≤ x2 → post 1))))) ∧ (¬ x1 = (u.1 25 0) → (((u.1 25 0) ≤ x1 → post 0) ∧ (¬ (u.1 25 0) ≤ x1 → post 1))))
abbrev rm_X1_isBetter : Room := { frames := 0, cells := 0, slots := 0, locals := 0 }
def wp_X1_keepIfBetter  (u : WU) (post : WU → Prop) : Prop :=
  vp_in (u.1 24 0) 25 ∧ ∀ y1 : Int32, y1 = u.1 17 (u.1 24 0).toNatClampNeg → vp_in (u.1 21 0) 24 ∧ wp_J13_bitCount_95d88 (u.2 4 (u.1 21 0).toNatClampNeg) (fun r2 => wp_X1_isBetter y1 r2 u (fun r3 => ((r3 = 0 → post u) ∧ (¬ r3 = 0 → ∀ u4 : WU, u4 = uI u 25 (fun _ => y1) → ∀ u5 : WU, u5 = uI u4 26 (fun _ => r2) → ∀ u6 : WU, u6 = uI u5 16 (va_cpy (u5.1 15) (u5.1 16) (0 : Int32).toNatClampNeg (0 : Int32).toNatClampNeg (24 : Int32).toNatClampNeg) → post u6))))
abbrev rm_X1_keepIfBetter : Room := { frames := 1, cells := 0, slots := 0, locals := 40 }
def wp_X1_advance_L2  (post : Int32 → WU → Prop) : Nat → Int32 → WU → Prop
  | 0, _, _ => False
  | n + 1, x2, u =>
  ((x2 < 0 → post (-1) u) ∧ (¬ x2 < 0 → vp_in x2 24 ∧ ∀ y1 : Int32, y1 = u.1 14 x2.toNatClampNeg → vp_in y1 24 ∧ vp_in y1 24 ∧ (((u.1 1 y1.toNatClampNeg) ≤ ((u.1 15 y1.toNatClampNeg) + 1) → vp_in y1 24 ∧ ∀ u2 : WU, u2 = uI u 15 (upd (u.1 15) y1.toNatClampNeg 0) → ∀ y3 : Int32, y3 = x2 + (-1) → wp_X1_advance_L2 post n y3 u2) ∧ (¬ (u.1 1 y1.toNatClampNeg) ≤ ((u.1 15 y1.toNatClampNeg) + 1) → vp_in y1 24 ∧ vp_in y1 24 ∧ ∀ u4 : WU, u4 = uI u 15 (upd (u.1 15) y1.toNatClampNeg ((u.1 15 y1.toNatClampNeg) + 1)) → post x2 u4))))
def wp_X1_advance (x1 : Int32) (u : WU) (post : Int32 → WU → Prop) : Prop :=
  ∃ nn : Nat, wp_X1_advance_L2 post nn x1 u
abbrev rm_X1_advance : Room := { frames := 0, cells := 0, slots := 0, locals := 0 }
def wp_X1_takeKept_L2  (post : WU → Prop) : Nat → Int32 → WU → Prop
  | 0, _, _ => False
  | n + 1, x1, u =>
  (((u.1 24 0) ≤ x1 → post u) ∧ (¬ (u.1 24 0) ≤ x1 → vp_in x1 24 ∧ ∀ y1 : Int32, y1 = u.1 14 x1.toNatClampNeg → vp_in y1 24 ∧ wp_X5_choiceOf y1 (u.1 16 y1.toNatClampNeg) u (fun r2 => vp_in y1 24 ∧ ∀ u3 : WU, u3 = uI u 2 (upd (u.1 2) y1.toNatClampNeg r2) → ∀ y4 : Int32, y4 = x1 + 1 → wp_X1_takeKept_L2 post n y4 u3)))
def wp_X1_takeKept  (u : WU) (post : WU → Prop) : Prop :=
  ∃ nn : Nat, wp_X1_takeKept_L2 post nn 0 u
abbrev rm_X1_takeKept : Room := { frames := 1, cells := 0, slots := 0, locals := 22 }
def wp_X1_lineUp_J68 (x1 : Int32) (x2 : Int32) (u : WU) (post : WU → Prop) (K7 : Int32 → WU → Prop) : Prop :=
  ∀ y12 : Int32, y12 = x2 + 1 → K7 y12 u
def wp_X1_lineUp_L7 (x1 : Int32) (post : WU → Prop) : Nat → Int32 → WU → Prop
  | 0, _, _ => False
  | n + 1, x2, u =>
  ((24 ≤ x2 → post u) ∧ (¬ 24 ≤ x2 → vp_in x2 24 ∧ ∀ y1 : Int32, y1 = u.1 6 x2.toNatClampNeg → vp_in y1 24 ∧ ∀ u2 : WU, u2 = uI u 15 (upd (u.1 15) y1.toNatClampNeg 0) → wp_X8_holds x1.toInt64 y1 (fun r3 => ((r3 = 0 → wp_X1_lineUp_J68 x1 x2 u2 post (fun (y4 : Int32) (u5 : WU) => wp_X1_lineUp_L7 x1 post n y4 u5)) ∧ (¬ r3 = 0 → ((24 ≤ (u2.1 24 0) → wp_X1_lineUp_J68 x1 x2 u2 post (fun (y6 : Int32) (u7 : WU) => wp_X1_lineUp_L7 x1 post n y6 u7)) ∧ (¬ 24 ≤ (u2.1 24 0) → vp_in (u2.1 24 0) 24 ∧ ∀ u8 : WU, u8 = uI u2 14 (upd (u2.1 14) (u2.1 24 0).toNatClampNeg y1) → ∀ u9 : WU, u9 = uI u8 24 (fun _ => (u8.1 24 0) + 1) → wp_X1_lineUp_J68 x1 x2 u9 post (fun (y10 : Int32) (u11 : WU) => wp_X1_lineUp_L7 x1 post n y10 u11))))))))
def wp_X1_lineUp (x1 : Int32) (u : WU) (post : WU → Prop) : Prop :=
  ∀ u13 : WU, u13 = uI u 24 (fun _ => 0) → ∃ nn : Nat, wp_X1_lineUp_L7 x1 post nn 0 u13
abbrev rm_X1_lineUp : Room := { frames := 1, cells := 0, slots := 0, locals := 22 }
def wp_X1_takeBest_J67 (x1 : Int32) (x3 : Int32) (x4 : Int32) (u : WU) (post : Int32 → WU → Prop) (K34 : Int32 → Int32 → WU → Prop) : Prop :=
  wp_X1_advance (if ((u.1 24 0) - 1) < x4 then ((u.1 24 0) - 1) else x4) u (fun r11 u10 => ∀ y12 : Int32, y12 = x3 + 1 → K34 r11 y12 u10)
def wp_X1_takeBest_J89  (u : WU) (post : Int32 → WU → Prop) : Prop :=
  wp_X1_takeKept u (fun u13 => post (u13.1 25 0) u13)
def wp_X1_takeBest_L34 (x1 : Int32) (post : Int32 → WU → Prop) : Nat → Int32 → Int32 → WU → Prop
  | 0, _, _, _ => False
  | n + 1, x2, x3, u =>
  ((6561 ≤ x3 → wp_X1_takeBest_J89 u post) ∧ (¬ 6561 ≤ x3 → ((x2 = (-1) → wp_X1_takeBest_J89 u post) ∧ (¬ x2 = (-1) → wp_X1_settle x1 x2 u (fun r2 u1 => ((¬ r2 = (u1.1 24 0) → wp_X1_takeBest_J67 x1 x3 r2 u1 post (fun (y3 : Int32) (y4 : Int32) (u5 : WU) => wp_X1_takeBest_L34 x1 post n y3 y4 u5)) ∧ (r2 = (u1.1 24 0) → wp_X1_keepIfBetter u1 (fun u6 => wp_X1_takeBest_J67 x1 x3 r2 u6 post (fun (y7 : Int32) (y8 : Int32) (u9 : WU) => wp_X1_takeBest_L34 x1 post n y7 y8 u9)))))))))
def wp_X1_takeBest (x1 : Int32) (u : WU) (post : Int32 → WU → Prop) : Prop :=
  wp_X2_ofProduct (u.2 6 0) u (fun r14 => wp_X1_lineUp r14 u (fun u15 => ∀ u16 : WU, u16 = uI u15 25 (fun _ => 2147483647) → ∀ u17 : WU, u17 = uI u16 26 (fun _ => 2147483647) → ∃ nn : Nat, wp_X1_takeBest_L34 x1 post nn 0 0 u17))
abbrev rm_X1_takeBest : Room := { frames := 4, cells := 0, slots := 0, locals := 89 }
def wp_X8_judge (x1 : Int32) (u : WU) (post : Int32 → WU → Prop) : Prop :=
  wp_X8_within x1 4 (fun r1 => ((r1 = 0 → post (-1) u) ∧ (¬ r1 = 0 → (((u.1 20 0) = 0 → post (-1) u) ∧ (¬ (u.1 20 0) = 0 → wp_X2_wayCount u (fun r2 => ((¬ r2 = (-1) → wp_X1_takeBest x1 u (fun r4 u3 => post r4 u3)) ∧ (r2 = (-1) → post (-1) u))))))))
abbrev rm_X8_judge : Room := { frames := 5, cells := 0, slots := 0, locals := 113 }
def wp_X9_ways_J54 (x3 : Int32) (z0 : Int64) (u : WU) (post : Int32 → WU → Prop) (K16 : Int64 → Int32 → WU → Prop) : Prop :=
  ∀ y13 : Int32, y13 = x3 + 1 → K16 z0 y13 u
def wp_X9_ways_J53 (x1 : Int64) (x3 : Int32) (u : WU) (post : Int32 → WU → Prop) (K16 : Int64 → Int32 → WU → Prop) : Prop :=
  wp_X9_ways_J54 x3 x1 u post (fun (y10 : Int64) (y11 : Int32) (u12 : WU) => K16 y10 y11 u12)
def wp_X9_ways_L16  (post : Int32 → WU → Prop) (K61 : Int64 → WU → Prop) : Nat → Int64 → Int32 → WU → Prop
  | 0, _, _, _ => False
  | n + 1, x1, x3, u =>
  (((u.1 21 0) ≤ x3 → K61 x1 u) ∧ (¬ (u.1 21 0) ≤ x3 → vp_in x3 24 ∧ (((u.1 13 x3.toNatClampNeg) = 0 → wp_X9_ways_J53 x1 x3 u post (fun (y1 : Int64) (y2 : Int32) (u3 : WU) => wp_X9_ways_L16 post K61 n y1 y2 u3)) ∧ (¬ (u.1 13 x3.toNatClampNeg) = 0 → ((0 < (lg_cmp x1 6561) → wp_X9_ways_J53 x1 x3 u post (fun (y4 : Int64) (y5 : Int32) (u6 : WU) => wp_X9_ways_L16 post K61 n y4 y5 u6)) ∧ (¬ 0 < (lg_cmp x1 6561) → vp_in x3 24 ∧ wp_X9_ways_J54 x3 (x1 * ((u.1 3 x3.toNatClampNeg).toInt64)) u post (fun (y7 : Int64) (y8 : Int32) (u9 : WU) => wp_X9_ways_L16 post K61 n y7 y8 u9)))))))
def wp_X9_ways  (u : WU) (post : Int32 → WU → Prop) : Prop :=
  wp_X9_asItIs u (fun u14 => wp_X9_reaches (u14.1 22 0) u14 (fun u15 => ∃ nn : Nat, wp_X9_ways_L16 post (fun (y16 : Int64) (u17 : WU) => (((lg_cmp y16 6561) ≤ 0 → post y16.toInt32 u17) ∧ (¬ (lg_cmp y16 6561) ≤ 0 → post (-1) u17))) nn 1 0 u15))
abbrev rm_X9_ways : Room := { frames := 1, cells := 0, slots := 0, locals := 23 }
def wp_X9_judge_J241 (x1 : Int32) (x2 : Int32) (x3 : Int32) (x4 : Int32) (x5 : Int32) (u : WU) (post : Int32 → WU → Prop) (K41 : Int32 → Int32 → Int32 → WU → Prop) : Prop :=
  ∀ y46 : Int32, y46 = x5 + 1 → K41 x3 x4 y46 u
def wp_X9_judge_L212 (x1 : Int32) (x2 : Int32) (x3 : Int32) (x4 : Int32) (x5 : Int32) (post : Int32 → WU → Prop) (K241 : WU → Prop) : Nat → Int32 → WU → Prop
  | 0, _, _ => False
  | n + 1, x9, u =>
  (((u.1 21 0) ≤ x9 → K241 u) ∧ (¬ (u.1 21 0) ≤ x9 → vp_in x9 24 ∧ vp_in x9 24 ∧ ∀ u36 : WU, u36 = uI u 19 (upd (u.1 19) x9.toNatClampNeg (u.1 18 x9.toNatClampNeg)) → ∀ y37 : Int32, y37 = x9 + 1 → wp_X9_judge_L212 x1 x2 x3 x4 x5 post K241 n y37 u36))
def wp_X9_judge_J202 (x1 : Int32) (x2 : Int32) (x5 : Int32) (x7 : Int32) (x8 : Int32) (u : WU) (post : Int32 → WU → Prop) (K41 : Int32 → Int32 → Int32 → WU → Prop) : Prop :=
  ∃ nn : Nat, wp_X9_judge_L212 x1 x2 x7 x8 x5 post (fun (u41 : WU) => wp_X9_judge_J241 x1 x2 x7 x8 x5 u41 post (fun (y42 : Int32) (y43 : Int32) (y44 : Int32) (u45 : WU) => K41 y42 y43 y44 u45)) nn 0 u
def wp_X9_judge_J144 (x1 : Int32) (x2 : Int32) (x3 : Int32) (x4 : Int32) (x5 : Int32) (x6 : Int32) (x7 : Int32) (u : WU) (post : Int32 → WU → Prop) (K59 : Int32 → Int32 → WU → Prop) : Prop :=
  ∀ y40 : Int32, y40 = x7 + (-1) → K59 x6 y40 u
def wp_X9_judge_L59 (x1 : Int32) (x2 : Int32) (x3 : Int32) (x4 : Int32) (x5 : Int32) (post : Int32 → WU → Prop) (K150 : WU → Prop) : Nat → Int32 → Int32 → WU → Prop
  | 0, _, _, _ => False
  | n + 1, x6, x7, u =>
  ((x7 < 0 → K150 u) ∧ (¬ x7 < 0 → vp_in x7 24 ∧ vp_in x7 24 ∧ ∀ u26 : WU, u26 = uI u 18 (upd (u.1 18) x7.toNatClampNeg (u.1 4 x7.toNatClampNeg)) → vp_in x7 24 ∧ ((¬ (u26.1 13 x7.toNatClampNeg) = 0 → vp_in x7 24 ∧ ¬ (u26.1 3 x7.toNatClampNeg) = 0 ∧ vp_in x7 24 ∧ ∀ u27 : WU, u27 = uI u26 18 (upd (u26.1 18) x7.toNatClampNeg (x6 - x6 / (u26.1 3 x7.toNatClampNeg) * (u26.1 3 x7.toNatClampNeg))) → vp_in x7 24 ∧ ¬ (u27.1 3 x7.toNatClampNeg) = 0 ∧ ∀ y28 : Int32, y28 = x6 / (u27.1 3 x7.toNatClampNeg) → vp_in x7 24 ∧ vp_in ((3 * x7) + (u27.1 18 x7.toNatClampNeg)) 72 ∧ vp_in x7 24 ∧ ∀ u29 : WU, u29 = uI u27 15 (upd (u27.1 15) x7.toNatClampNeg (u27.1 2 ((3 * x7) + (u27.1 18 x7.toNatClampNeg)).toNatClampNeg)) → wp_X9_judge_J144 x1 x2 x3 x4 x5 y28 x7 u29 post (fun (y30 : Int32) (y31 : Int32) (u32 : WU) => wp_X9_judge_L59 x1 x2 x3 x4 x5 post K150 n y30 y31 u32)) ∧ ((u26.1 13 x7.toNatClampNeg) = 0 → wp_X9_judge_J144 x1 x2 x3 x4 x5 x6 x7 u26 post (fun (y33 : Int32) (y34 : Int32) (u35 : WU) => wp_X9_judge_L59 x1 x2 x3 x4 x5 post K150 n y33 y34 u35)))))
def wp_X9_judge_L41 (x1 : Int32) (x2 : Int32) (post : Int32 → WU → Prop) (K247 : Int32 → WU → Prop) : Nat → Int32 → Int32 → Int32 → WU → Prop
  | 0, _, _, _, _ => False
  | n + 1, x3, x4, x5, u =>
  ((x2 ≤ x5 → K247 x3 u) ∧ (¬ x2 ≤ x5 → ∀ y1 : Int32, y1 = (u.1 21 0) - 1 → ∃ nn : Nat, wp_X9_judge_L59 x1 x2 x3 x4 x5 post (fun (u2 : WU) => wp_X9_comes x1 u2 (fun u3 => wp_X9_quarrelsNow u3 (fun r4 => vp_in (u3.1 22 0) 24 ∧ wp_X9_bits (u3.2 2 (u3.1 22 0).toNatClampNeg) (fun r5 => ((x3 = (-1) → wp_X9_judge_J202 x1 x2 x5 r4 r5 u3 post (fun (y6 : Int32) (y7 : Int32) (y8 : Int32) (u9 : WU) => wp_X9_judge_L41 x1 x2 post K247 n y6 y7 y8 u9)) ∧ (¬ x3 = (-1) → ((x3 < r4 → wp_X9_judge_J241 x1 x2 x3 x4 x5 u3 post (fun (y10 : Int32) (y11 : Int32) (y12 : Int32) (u13 : WU) => wp_X9_judge_L41 x1 x2 post K247 n y10 y11 y12 u13)) ∧ (¬ x3 < r4 → ((¬ r4 = x3 → wp_X9_judge_J202 x1 x2 x5 r4 r5 u3 post (fun (y14 : Int32) (y15 : Int32) (y16 : Int32) (u17 : WU) => wp_X9_judge_L41 x1 x2 post K247 n y14 y15 y16 u17)) ∧ (r4 = x3 → ((r5 < x4 → wp_X9_judge_J202 x1 x2 x5 r4 r5 u3 post (fun (y18 : Int32) (y19 : Int32) (y20 : Int32) (u21 : WU) => wp_X9_judge_L41 x1 x2 post K247 n y18 y19 y20 u21)) ∧ (¬ r5 < x4 → wp_X9_judge_J241 x1 x2 x3 x4 x5 u3 post (fun (y22 : Int32) (y23 : Int32) (y24 : Int32) (u25 : WU) => wp_X9_judge_L41 x1 x2 post K247 n y22 y23 y24 u25))))))))))))) nn x5 y1 u))
def wp_X9_judge_L250 (x3 : Int32) (post : Int32 → WU → Prop) : Nat → Int32 → WU → Prop
  | 0, _, _ => False
  | n + 1, x5, u =>
  (((u.1 21 0) ≤ x5 → post x3 u) ∧ (¬ (u.1 21 0) ≤ x5 → vp_in x5 24 ∧ vp_in x5 24 ∧ ∀ u38 : WU, u38 = uI u 4 (upd (u.1 4) x5.toNatClampNeg (u.1 19 x5.toNatClampNeg)) → ∀ y39 : Int32, y39 = x5 + 1 → wp_X9_judge_L250 x3 post n y39 u38))
def wp_X9_judge (x1 : Int32) (u : WU) (post : Int32 → WU → Prop) : Prop :=
  wp_X9_isShipping x1 (fun r47 => ((r47 = 0 → post (-1) u) ∧ (¬ r47 = 0 → ((¬ (u.1 21 0) = 0 → wp_X9_ways u (fun r49 u48 => ((¬ r49 = (-1) → wp_X9_works x1 u48 (fun u50 => ∃ nn : Nat, wp_X9_judge_L41 x1 r49 post (fun (y51 : Int32) (u52 : WU) => ∃ nn : Nat, wp_X9_judge_L250 y51 post nn 0 u52) nn (-1) 0 0 u50)) ∧ (r49 = (-1) → post (-1) u48)))) ∧ ((u.1 21 0) = 0 → post (-1) u)))))
abbrev rm_X9_judge : Room := { frames := 3, cells := 0, slots := 0, locals := 66 }
def wp_X0_priceOf_J30 (x1 : Int32) (x2 : Int32) (x3 : Int32) (u : WU) (post : Int32 → Prop) (K4 : Int32 → Int32 → Prop) : Prop :=
  ∀ y7 : Int32, y7 = x3 + 1 → K4 x2 y7
def wp_X0_priceOf_L4 (x1 : Int32) (u : WU) (post : Int32 → Prop) : Nat → Int32 → Int32 → Prop
  | 0, _, _ => False
  | n + 1, x2, x3 =>
  (((u.1 23 0) ≤ x3 → post x2) ∧ (¬ (u.1 23 0) ≤ x3 → wp_X8_holds x1.toInt64 x3 (fun r1 => ((r1 = 0 → wp_X0_priceOf_J30 x1 x2 x3 u post (fun (y2 : Int32) (y3 : Int32) => wp_X0_priceOf_L4 x1 u post n y2 y3)) ∧ (¬ r1 = 0 → vp_in x3 10 ∧ ∀ y4 : Int32, y4 = x2 + (u.1 13 x3.toNatClampNeg) → wp_X0_priceOf_J30 x1 y4 x3 u post (fun (y5 : Int32) (y6 : Int32) => wp_X0_priceOf_L4 x1 u post n y5 y6))))))
def wp_X0_priceOf (x1 : Int32) (u : WU) (post : Int32 → Prop) : Prop :=
  ∃ nn : Nat, wp_X0_priceOf_L4 x1 u post nn 0 0
abbrev rm_X0_priceOf : Room := { frames := 1, cells := 0, slots := 0, locals := 22 }
def wp_J6_compare_7cf53 (x0 : Int32) (x1 : Int32) (post : Int32 → Prop) : Prop :=
  ((x1 ≤ x0 → ((¬ x0 = x1 → post 1) ∧ (x0 = x1 → post 0))) ∧ (¬ x1 ≤ x0 → post (-1)))
abbrev rm_J6_compare_7cf53 : Room := { frames := 0, cells := 0, slots := 0, locals := 0 }
def wp_J6_bitCount_0f7a4 (x0 : Int32) (post : Int32 → Prop) : Prop :=
  ∀ y1 : Int32, y1 = x0 - ((jiushr x0 1) &&& 1431655765) → ∀ y2 : Int32, y2 = (y1 &&& 858993459) + ((jiushr y1 2) &&& 858993459) → ∀ y3 : Int32, y3 = (y2 + (jiushr y2 4)) &&& 252645135 → ∀ y4 : Int32, y4 = y3 + (jiushr y3 8) → ∀ y5 : Int32, y5 = y4 + (jiushr y4 16) → post (y5 &&& 63)
abbrev rm_J6_bitCount_0f7a4 : Room := { frames := 0, cells := 0, slots := 0, locals := 0 }
def wp_J6_lowestOneBit_0f7a4 (x0 : Int32) (post : Int32 → Prop) : Prop :=
  post (x0 &&& (-x0))
abbrev rm_J6_lowestOneBit_0f7a4 : Room := { frames := 0, cells := 0, slots := 0, locals := 0 }
def wp_X0_isBetter (x1 : Int32) (x2 : Int32) (u : WU) (post : Int32 → Prop) : Prop :=
  wp_X0_priceOf x1 u (fun r1 => wp_X0_priceOf x2 u (fun r2 => wp_J6_compare_7cf53 r1 r2 (fun r3 => ((r3 = 0 → wp_J6_bitCount_0f7a4 x1 (fun r4 => wp_J6_bitCount_0f7a4 x2 (fun r5 => wp_J6_compare_7cf53 r4 r5 (fun r6 => ((r6 = 0 → wp_J6_lowestOneBit_0f7a4 (x1 ^^^ x2) (fun r7 => (((r7 &&& x1) = 0 → post 0) ∧ (¬ (r7 &&& x1) = 0 → post 1)))) ∧ (¬ r6 = 0 → ((0 ≤ r6 → post 0) ∧ (¬ 0 ≤ r6 → post 1)))))))) ∧ (¬ r3 = 0 → ((0 ≤ r3 → post 0) ∧ (¬ 0 ≤ r3 → post 1)))))))
abbrev rm_X0_isBetter : Room := { frames := 2, cells := 0, slots := 0, locals := 45 }
def wp_X2_run_c33_L3 (x1 : Int32) (x3 : Int64) (post : WU → Prop) : Nat → Int32 → WU → Prop
  | 0, _, _ => False
  | n + 1, x5, u =>
  ((24 ≤ x5 → post u) ∧ (¬ 24 ≤ x5 → vp_in x5 24 ∧ ∀ y1 : Int32, y1 = u.1 6 x5.toNatClampNeg → vp_in y1 24 ∧ wp_X2_brought x1 y1 (u.1 18 y1.toNatClampNeg) u (fun r2 => wp_X2_arrive y1 r2 x3 u (fun u3 => ∀ y4 : Int32, y4 = x5 + 1 → wp_X2_run_c33_L3 x1 x3 post n y4 u3))))
def wp_X2_run_c33 (x1 : Int32) (x3 : Int64) (u : WU) (post : WU → Prop) : Prop :=
  ∃ nn : Nat, wp_X2_run_c33_L3 x1 x3 post nn 0 u
def wp_X2_quarrelCount_c33_J54 (x4 : Int32) (x5 : Int32) (x6 : Int32) (u : WU) (post : Int32 → Prop) (K13 : Int32 → Int32 → Prop) : Prop :=
  ∀ y9 : Int32, y9 = x6 + 1 → K13 x5 y9
def wp_X2_quarrelCount_c33_L13 (x4 : Int32) (u : WU) (post : Int32 → Prop) : Nat → Int32 → Int32 → Prop
  | 0, _, _ => False
  | n + 1, x5, x6 =>
  (((u.1 20 0) ≤ x6 → post x5) ∧ (¬ (u.1 20 0) ≤ x6 → wp_X8_holds x4.toInt64 x6 (fun r1 => ((r1 = 0 → wp_X2_quarrelCount_c33_J54 x4 x5 x6 u post (fun (y2 : Int32) (y3 : Int32) => wp_X2_quarrelCount_c33_L13 x4 u post n y2 y3)) ∧ (¬ r1 = 0 → vp_in x6 24 ∧ wp_X2_foughtAt x6 (u.1 18 x6.toNatClampNeg) u (fun r4 => wp_J13_bitCount_95d88 r4 (fun r5 => ∀ y6 : Int32, y6 = x5 + r5 → wp_X2_quarrelCount_c33_J54 x4 y6 x6 u post (fun (y7 : Int32) (y8 : Int32) => wp_X2_quarrelCount_c33_L13 x4 u post n y7 y8))))))))
def wp_X2_quarrelCount_c33 (x2 : Int64) (u : WU) (post : Int32 → Prop) : Prop :=
  wp_X2_ofProduct x2 u (fun r10 => ∃ nn : Nat, wp_X2_quarrelCount_c33_L13 r10 u post nn 0 0)
def wp_X4_endsQuarrels_J114 (x1 : Int32) (x2 : Int32) (x3 : Int64) (x5 : Int32) (u : WU) (post : Int32 → WU → Prop) (K29 : Int64 → Int32 → WU → Prop) : Prop :=
  ∀ y13 : Int32, y13 = x5 + 1 → K29 x3 y13 u
def wp_X4_endsQuarrels_L29 (x1 : Int32) (x2 : Int32) (post : Int32 → WU → Prop) (K120 : Int64 → WU → Prop) : Nat → Int64 → Int32 → WU → Prop
  | 0, _, _, _ => False
  | n + 1, x3, x5, u =>
  (((u.1 23 0) ≤ x5 → K120 x3 u) ∧ (¬ (u.1 23 0) ≤ x5 → wp_X8_holds x2.toInt64 x5 (fun r1 => ((¬ r1 = 0 → vp_in x5 10 ∧ ((¬ (u.1 10 x5.toNatClampNeg) = 0 → vp_in x5 10 ∧ ∀ y2 : Int64, y2 = x3 &&& ((jshl 1 (u.1 11 x5.toNatClampNeg)) ^^^ (-1)) → wp_X4_endsQuarrels_J114 x1 x2 y2 x5 u post (fun (y3 : Int64) (y4 : Int32) (u5 : WU) => wp_X4_endsQuarrels_L29 x1 x2 post K120 n y3 y4 u5)) ∧ ((u.1 10 x5.toNatClampNeg) = 0 → vp_in x5 10 ∧ vp_in x5 10 ∧ vp_in (u.1 11 x5.toNatClampNeg) 24 ∧ ∀ u6 : WU, u6 = uI u 18 (upd (u.1 18) (u.1 11 x5.toNatClampNeg).toNatClampNeg (u.1 12 x5.toNatClampNeg)) → wp_X4_endsQuarrels_J114 x1 x2 x3 x5 u6 post (fun (y7 : Int64) (y8 : Int32) (u9 : WU) => wp_X4_endsQuarrels_L29 x1 x2 post K120 n y7 y8 u9)))) ∧ (r1 = 0 → wp_X4_endsQuarrels_J114 x1 x2 x3 x5 u post (fun (y10 : Int64) (y11 : Int32) (u12 : WU) => wp_X4_endsQuarrels_L29 x1 x2 post K120 n y10 y11 u12))))))
def wp_X4_endsQuarrels (x1 : Int32) (x2 : Int32) (u : WU) (post : Int32 → WU → Prop) : Prop :=
  ∀ u14 : WU, u14 = uI u 18 (va_cpy (u.1 2) (u.1 18) (0 : Int32).toNatClampNeg (0 : Int32).toNatClampNeg (24 : Int32).toNatClampNeg) → ∀ y15 : Int64, y15 = u14.2 6 0 → ∃ nn : Nat, wp_X4_endsQuarrels_L29 x1 x2 post (fun (y16 : Int64) (u17 : WU) => wp_X2_run_c33 x1 y16 u17 (fun u18 => wp_X2_quarrelCount_c33 y16 u18 (fun r19 => ((¬ r19 = 0 → post 0 u18) ∧ (r19 = 0 → post 1 u18))))) nn y15 0 u14
abbrev rm_X4_endsQuarrels : Room := { frames := 4, cells := 0, slots := 0, locals := 98 }
def wp_X4_cheapestSet_J52 (x1 : Int32) (x2 : Int32) (x3 : Int32) (x4 : Int32) (u : WU) (post : Int32 → WU → Prop) (K15 : Int32 → Int32 → WU → Prop) : Prop :=
  ∀ y19 : Int32, y19 = x4 + 1 → K15 x2 y19 u
def wp_X4_cheapestSet_J39 (x1 : Int32) (x2 : Int32) (x3 : Int32) (x4 : Int32) (u : WU) (post : Int32 → WU → Prop) (K15 : Int32 → Int32 → WU → Prop) : Prop :=
  wp_X4_endsQuarrels x1 x4 u (fun r12 u11 => ((r12 = 0 → wp_X4_cheapestSet_J52 x1 x2 x3 x4 u11 post (fun (y13 : Int32) (y14 : Int32) (u15 : WU) => K15 y13 y14 u15)) ∧ (¬ r12 = 0 → wp_X4_cheapestSet_J52 x1 x4 x3 x4 u11 post (fun (y16 : Int32) (y17 : Int32) (u18 : WU) => K15 y16 y17 u18))))
def wp_X4_cheapestSet_L15 (x1 : Int32) (x3 : Int32) (post : Int32 → WU → Prop) : Nat → Int32 → Int32 → WU → Prop
  | 0, _, _, _ => False
  | n + 1, x2, x4, u =>
  ((x3 ≤ x4 → post x2 u) ∧ (¬ x3 ≤ x4 → ((x2 = (-1) → wp_X4_cheapestSet_J39 x1 x2 x3 x4 u post (fun (y1 : Int32) (y2 : Int32) (u3 : WU) => wp_X4_cheapestSet_L15 x1 x3 post n y1 y2 u3)) ∧ (¬ x2 = (-1) → wp_X0_isBetter x4 x2 u (fun r4 => ((r4 = 0 → wp_X4_cheapestSet_J52 x1 x2 x3 x4 u post (fun (y5 : Int32) (y6 : Int32) (u7 : WU) => wp_X4_cheapestSet_L15 x1 x3 post n y5 y6 u7)) ∧ (¬ r4 = 0 → wp_X4_cheapestSet_J39 x1 x2 x3 x4 u post (fun (y8 : Int32) (y9 : Int32) (u10 : WU) => wp_X4_cheapestSet_L15 x1 x3 post n y8 y9 u10))))))))
def wp_X4_cheapestSet (x1 : Int32) (u : WU) (post : Int32 → WU → Prop) : Prop :=
  ∀ y20 : Int32, y20 = 1 <<< ((u.1 23 0) &&& 31) → ∃ nn : Nat, wp_X4_cheapestSet_L15 x1 y20 post nn (-1) 0 u
abbrev rm_X4_cheapestSet : Room := { frames := 5, cells := 0, slots := 0, locals := 123 }
def wp_X8_cheapest (x1 : Int32) (u : WU) (post : Int32 → WU → Prop) : Prop :=
  wp_X8_within x1 4 (fun r1 => ((r1 = 0 → post (-1) u) ∧ (¬ r1 = 0 → wp_X4_cheapestSet x1 u (fun r3 u2 => post r3 u2))))
abbrev rm_X8_cheapest : Room := { frames := 6, cells := 0, slots := 0, locals := 147 }
def wp_X9_priceOf_J32 (x1 : Int32) (x3 : Int32) (z0 : Int32) (z1 : Int32) (u : WU) (post : Int32 → Prop) (K4 : Int32 → Int32 → Prop) : Prop :=
  ∀ y5 : Int32, y5 = z0 + z1 → ∀ y6 : Int32, y6 = x3 + 1 → K4 y5 y6
def wp_X9_priceOf_L4 (x1 : Int32) (u : WU) (post : Int32 → Prop) : Nat → Int32 → Int32 → Prop
  | 0, _, _ => False
  | n + 1, x2, x3 =>
  (((u.1 24 0) ≤ x3 → post x2) ∧ (¬ (u.1 24 0) ≤ x3 → ((¬ ((x1 >>> (x3 &&& 31)) &&& 1) = 1 → wp_X9_priceOf_J32 x1 x3 x2 0 u post (fun (y1 : Int32) (y2 : Int32) => wp_X9_priceOf_L4 x1 u post n y1 y2)) ∧ (((x1 >>> (x3 &&& 31)) &&& 1) = 1 → vp_in x3 10 ∧ wp_X9_priceOf_J32 x1 x3 x2 (u.1 12 x3.toNatClampNeg) u post (fun (y3 : Int32) (y4 : Int32) => wp_X9_priceOf_L4 x1 u post n y3 y4)))))
def wp_X9_priceOf (x1 : Int32) (u : WU) (post : Int32 → Prop) : Prop :=
  ∃ nn : Nat, wp_X9_priceOf_L4 x1 u post nn 0 0
abbrev rm_X9_priceOf : Room := { frames := 0, cells := 0, slots := 0, locals := 0 }
def wp_X9_isAhead (x0 : Int32) (x1 : Int32) (post : Int32 → Prop) : Prop :=
  wp_X9_bits x0.toInt64 (fun r1 => wp_X9_bits x1.toInt64 (fun r2 => ((r1 = r2 → ∀ y3 : Int32, y3 = (x0 ^^^ x1) &&& (-(x0 ^^^ x1)) → (((x0 &&& y3) = 0 → post 0) ∧ (¬ (x0 &&& y3) = 0 → post 1))) ∧ (¬ r1 = r2 → wp_X9_bits x0.toInt64 (fun r4 => wp_X9_bits x1.toInt64 (fun r5 => ((r5 ≤ r4 → post 0) ∧ (¬ r5 ≤ r4 → post 1))))))))
abbrev rm_X9_isAhead : Room := { frames := 1, cells := 0, slots := 0, locals := 24 }
def wp_X9_quarrelsWith_J66 (x1 : Int32) (x2 : Int32) (x3 : Int32) (u : WU) (post : Int32 → WU → Prop) (K6 : Int32 → WU → Prop) : Prop :=
  ∀ y13 : Int32, y13 = x3 + 1 → K6 y13 u
def wp_X9_quarrelsWith_L6 (x1 : Int32) (x2 : Int32) (post : Int32 → WU → Prop) : Nat → Int32 → WU → Prop
  | 0, _, _ => False
  | n + 1, x3, u =>
  (((u.1 24 0) ≤ x3 → wp_X9_orders u (fun u1 => wp_X9_reaches (u1.1 22 0) u1 (fun u2 => wp_X9_comes x1 u2 (fun u3 => wp_X9_quarrelsNow u3 (fun r4 => post r4 u3))))) ∧ (¬ (u.1 24 0) ≤ x3 → ((¬ ((x2 >>> (x3 &&& 31)) &&& 1) = 0 → vp_in x3 10 ∧ ((¬ (u.1 9 x3.toNatClampNeg) = 0 → vp_in x3 10 ∧ vp_in (u.1 10 x3.toNatClampNeg) 40 ∧ ∀ u5 : WU, u5 = uI u 14 (upd (u.1 14) (u.1 10 x3.toNatClampNeg).toNatClampNeg (vp_nar .boolean 1)) → wp_X9_quarrelsWith_J66 x1 x2 x3 u5 post (fun (y6 : Int32) (u7 : WU) => wp_X9_quarrelsWith_L6 x1 x2 post n y6 u7)) ∧ ((u.1 9 x3.toNatClampNeg) = 0 → vp_in x3 10 ∧ vp_in x3 10 ∧ vp_in (u.1 10 x3.toNatClampNeg) 24 ∧ ∀ u8 : WU, u8 = uI u 15 (upd (u.1 15) (u.1 10 x3.toNatClampNeg).toNatClampNeg (u.1 11 x3.toNatClampNeg)) → wp_X9_quarrelsWith_J66 x1 x2 x3 u8 post (fun (y9 : Int32) (u10 : WU) => wp_X9_quarrelsWith_L6 x1 x2 post n y9 u10)))) ∧ (((x2 >>> (x3 &&& 31)) &&& 1) = 0 → wp_X9_quarrelsWith_J66 x1 x2 x3 u post (fun (y11 : Int32) (u12 : WU) => wp_X9_quarrelsWith_L6 x1 x2 post n y11 u12)))))
def wp_X9_quarrelsWith (x1 : Int32) (x2 : Int32) (u : WU) (post : Int32 → WU → Prop) : Prop :=
  wp_X9_asItIs u (fun u14 => ∃ nn : Nat, wp_X9_quarrelsWith_L6 x1 x2 post nn 0 u14)
abbrev rm_X9_quarrelsWith : Room := { frames := 2, cells := 0, slots := 0, locals := 46 }
def wp_X9_cheapest_J77 (x1 : Int32) (x2 : Int32) (x3 : Int32) (u : WU) (post : Int32 → WU → Prop) (K13 : Int32 → Int32 → WU → Prop) : Prop :=
  ∀ y28 : Int32, y28 = x3 + 1 → K13 x2 y28 u
def wp_X9_cheapest_J63 (x1 : Int32) (x2 : Int32) (x3 : Int32) (u : WU) (post : Int32 → WU → Prop) (K13 : Int32 → Int32 → WU → Prop) : Prop :=
  wp_X9_quarrelsWith x1 x3 u (fun r21 u20 => ((r21 ≤ 0 → wp_X9_cheapest_J77 x1 x3 x3 u20 post (fun (y22 : Int32) (y23 : Int32) (u24 : WU) => K13 y22 y23 u24)) ∧ (¬ r21 ≤ 0 → wp_X9_cheapest_J77 x1 x2 x3 u20 post (fun (y25 : Int32) (y26 : Int32) (u27 : WU) => K13 y25 y26 u27))))
def wp_X9_cheapest_L13 (x1 : Int32) (post : Int32 → WU → Prop) : Nat → Int32 → Int32 → WU → Prop
  | 0, _, _, _ => False
  | n + 1, x2, x3, u =>
  (((1 <<< ((u.1 24 0) &&& 31)) ≤ x3 → post x2 u) ∧ (¬ (1 <<< ((u.1 24 0) &&& 31)) ≤ x3 → wp_X9_priceOf x3 u (fun r1 => ((x2 = (-1) → wp_X9_cheapest_J63 x1 x2 x3 u post (fun (y2 : Int32) (y3 : Int32) (u4 : WU) => wp_X9_cheapest_L13 x1 post n y2 y3 u4)) ∧ (¬ x2 = (-1) → wp_X9_priceOf x2 u (fun r5 => ((r5 < r1 → wp_X9_cheapest_J77 x1 x2 x3 u post (fun (y6 : Int32) (y7 : Int32) (u8 : WU) => wp_X9_cheapest_L13 x1 post n y6 y7 u8)) ∧ (¬ r5 < r1 → wp_X9_priceOf x2 u (fun r9 => ((¬ r1 = r9 → wp_X9_cheapest_J63 x1 x2 x3 u post (fun (y10 : Int32) (y11 : Int32) (u12 : WU) => wp_X9_cheapest_L13 x1 post n y10 y11 u12)) ∧ (r1 = r9 → wp_X9_isAhead x3 x2 (fun r13 => ((r13 = 0 → wp_X9_cheapest_J77 x1 x2 x3 u post (fun (y14 : Int32) (y15 : Int32) (u16 : WU) => wp_X9_cheapest_L13 x1 post n y14 y15 u16)) ∧ (¬ r13 = 0 → wp_X9_cheapest_J63 x1 x2 x3 u post (fun (y17 : Int32) (y18 : Int32) (u19 : WU) => wp_X9_cheapest_L13 x1 post n y17 y18 u19)))))))))))))))
def wp_X9_cheapest (x1 : Int32) (u : WU) (post : Int32 → WU → Prop) : Prop :=
  wp_X9_isShipping x1 (fun r29 => ((¬ r29 = 0 → ∃ nn : Nat, wp_X9_cheapest_L13 x1 post nn (-1) 0 u) ∧ (r29 = 0 → post (-1) u)))
abbrev rm_X9_cheapest : Room := { frames := 3, cells := 0, slots := 0, locals := 69 }
def wp_X8_price (x1 : Int32) (u : WU) (post : Int32 → Prop) : Prop :=
  wp_X8_within x1 (1 <<< ((u.1 23 0) &&& 31)) (fun r1 => ((r1 = 0 → post (-1)) ∧ (¬ r1 = 0 → wp_X0_priceOf x1 u (fun r2 => post r2))))
abbrev rm_X8_price : Room := { frames := 2, cells := 0, slots := 0, locals := 45 }
def wp_X9_price (x1 : Int32) (u : WU) (post : Int32 → Prop) : Prop :=
  wp_X9_lies x1 0 ((1 <<< ((u.1 24 0) &&& 31)) - 1) (fun r1 => ((r1 = 0 → post (-1)) ∧ (¬ r1 = 0 → wp_X9_priceOf x1 u (fun r2 => post r2))))
abbrev rm_X9_price : Room := { frames := 1, cells := 0, slots := 0, locals := 23 }
def wp_X7_goes (x1 : Int32) (x2 : Int32) (u : WU) (post : Int32 → Prop) : Prop :=
  vp_in x2 40 ∧ vp_in (u.1 5 x2.toNatClampNeg) 4 ∧ wp_X8_holds (u.2 1 (u.1 5 x2.toNatClampNeg).toNatClampNeg) x1 (fun r1 => bl r1 ∧ post r1)
abbrev rm_X7_goes : Room := { frames := 1, cells := 0, slots := 0, locals := 22 }
def wp_X7_next_J109 (x1 : Int32) (x2 : Int32) (x3 : Int32) (x4 : Int32) (u : WU) (post : Int32 → Prop) (K5 : Int32 → Int32 → Prop) : Prop :=
  ∀ y26 : Int32, y26 = x4 + 1 → K5 x3 y26
def wp_X7_next_J106 (x1 : Int32) (x2 : Int32) (x4 : Int32) (x5 : Int32) (u : WU) (post : Int32 → Prop) (K5 : Int32 → Int32 → Prop) : Prop :=
  wp_X7_next_J109 x1 x2 x5 x4 u post (fun (y24 : Int32) (y25 : Int32) => K5 y24 y25)
def wp_X7_next_J88 (x1 : Int32) (x2 : Int32) (x3 : Int32) (x4 : Int32) (x5 : Int32) (z0 : Int32) (u : WU) (post : Int32 → Prop) (K5 : Int32 → Int32 → Prop) : Prop :=
  ((z0 = 0 → wp_X7_next_J109 x1 x2 x3 x4 u post (fun (y16 : Int32) (y17 : Int32) => K5 y16 y17)) ∧ (¬ z0 = 0 → ((x3 = (-1) → wp_X7_next_J106 x1 x2 x4 x5 u post (fun (y18 : Int32) (y19 : Int32) => K5 y18 y19)) ∧ (¬ x3 = (-1) → ((x3 ≤ x5 → wp_X7_next_J109 x1 x2 x3 x4 u post (fun (y20 : Int32) (y21 : Int32) => K5 y20 y21)) ∧ (¬ x3 ≤ x5 → wp_X7_next_J106 x1 x2 x4 x5 u post (fun (y22 : Int32) (y23 : Int32) => K5 y22 y23)))))))
def wp_X7_next_J87 (x1 : Int32) (x2 : Int32) (x3 : Int32) (x4 : Int32) (x5 : Int32) (u : WU) (post : Int32 → Prop) (K5 : Int32 → Int32 → Prop) : Prop :=
  wp_X7_next_J88 x1 x2 x3 x4 x5 0 u post (fun (y14 : Int32) (y15 : Int32) => K5 y14 y15)
def wp_X7_next_L5 (x1 : Int32) (x2 : Int32) (u : WU) (post : Int32 → Prop) : Nat → Int32 → Int32 → Prop
  | 0, _, _ => False
  | n + 1, x3, x4 =>
  (((u.1 22 0) ≤ x4 → post x3) ∧ (¬ (u.1 22 0) ≤ x4 → vp_in x4 40 ∧ ∀ y1 : Int32, y1 = u.1 4 x4.toNatClampNeg → wp_X3_isThere x4 u (fun r2 => ((r2 = 0 → wp_X7_next_J87 x1 x2 x3 x4 y1 u post (fun (y3 : Int32) (y4 : Int32) => wp_X7_next_L5 x1 x2 u post n y3 y4)) ∧ (¬ r2 = 0 → vp_in x4 40 ∧ ((¬ (u.1 3 x4.toNatClampNeg) = x2 → wp_X7_next_J87 x1 x2 x3 x4 y1 u post (fun (y5 : Int32) (y6 : Int32) => wp_X7_next_L5 x1 x2 u post n y5 y6)) ∧ ((u.1 3 x4.toNatClampNeg) = x2 → wp_X7_goes x1 x4 u (fun r7 => ((r7 = 0 → wp_X7_next_J87 x1 x2 x3 x4 y1 u post (fun (y8 : Int32) (y9 : Int32) => wp_X7_next_L5 x1 x2 u post n y8 y9)) ∧ (¬ r7 = 0 → vp_in y1 24 ∧ vp_in x2 24 ∧ ((¬ (u.1 19 y1.toNatClampNeg) = ((u.1 19 x2.toNatClampNeg) - 1) → wp_X7_next_J87 x1 x2 x3 x4 y1 u post (fun (y10 : Int32) (y11 : Int32) => wp_X7_next_L5 x1 x2 u post n y10 y11)) ∧ ((u.1 19 y1.toNatClampNeg) = ((u.1 19 x2.toNatClampNeg) - 1) → wp_X7_next_J88 x1 x2 x3 x4 y1 1 u post (fun (y12 : Int32) (y13 : Int32) => wp_X7_next_L5 x1 x2 u post n y12 y13)))))))))))))
def wp_X7_next (x1 : Int32) (x2 : Int32) (u : WU) (post : Int32 → Prop) : Prop :=
  ∃ nn : Nat, wp_X7_next_L5 x1 x2 u post nn (-1) 0
abbrev rm_X7_next : Room := { frames := 2, cells := 0, slots := 0, locals := 44 }
def wp_X7_measureInto_J98 (x1 : Int32) (x2 : Int32) (x3 : Int32) (x4 : Int32) (u : WU) (post : WU → Prop) (K20 : Int32 → WU → Prop) : Prop :=
  ∀ y15 : Int32, y15 = x4 + 1 → K20 y15 u
def wp_X7_measureInto_J90 (x1 : Int32) (x2 : Int32) (x3 : Int32) (x4 : Int32) (x6 : Int32) (u : WU) (post : WU → Prop) (K20 : Int32 → WU → Prop) : Prop :=
  vp_in x6 24 ∧ ∀ u12 : WU, u12 = uI u 19 (upd (u.1 19) x6.toNatClampNeg x3) → wp_X7_measureInto_J98 x1 x2 x3 x4 u12 post (fun (y13 : Int32) (u14 : WU) => K20 y13 u14)
def wp_X7_measureInto_L20 (x1 : Int32) (x2 : Int32) (x3 : Int32) (post : WU → Prop) : Nat → Int32 → WU → Prop
  | 0, _, _ => False
  | n + 1, x4, u =>
  vp_in x2 24 ∧ (((u.1 9 x2.toNatClampNeg) ≤ x4 → post u) ∧ (¬ (u.1 9 x2.toNatClampNeg) ≤ x4 → vp_in x4 40 ∧ ∀ y1 : Int32, y1 = u.1 7 x4.toNatClampNeg → vp_in y1 40 ∧ ∀ y2 : Int32, y2 = u.1 3 y1.toNatClampNeg → wp_X7_goes x1 y1 u (fun r3 => ((r3 = 0 → wp_X7_measureInto_J98 x1 x2 x3 x4 u post (fun (y4 : Int32) (u5 : WU) => wp_X7_measureInto_L20 x1 x2 x3 post n y4 u5)) ∧ (¬ r3 = 0 → vp_in y2 24 ∧ (((u.1 19 y2.toNatClampNeg) = (-1) → wp_X7_measureInto_J90 x1 x2 x3 x4 y2 u post (fun (y6 : Int32) (u7 : WU) => wp_X7_measureInto_L20 x1 x2 x3 post n y6 u7)) ∧ (¬ (u.1 19 y2.toNatClampNeg) = (-1) → vp_in y2 24 ∧ (((u.1 19 y2.toNatClampNeg) ≤ x3 → wp_X7_measureInto_J98 x1 x2 x3 x4 u post (fun (y8 : Int32) (u9 : WU) => wp_X7_measureInto_L20 x1 x2 x3 post n y8 u9)) ∧ (¬ (u.1 19 y2.toNatClampNeg) ≤ x3 → wp_X7_measureInto_J90 x1 x2 x3 x4 y2 u post (fun (y10 : Int32) (u11 : WU) => wp_X7_measureInto_L20 x1 x2 x3 post n y10 u11))))))))))
def wp_X7_measureInto (x1 : Int32) (x2 : Int32) (u : WU) (post : WU → Prop) : Prop :=
  vp_in x2 24 ∧ ∀ y16 : Int32, y16 = (u.1 19 x2.toNatClampNeg) + 1 → vp_in x2 24 ∧ ∀ y17 : Int32, y17 = u.1 8 x2.toNatClampNeg → ∃ nn : Nat, wp_X7_measureInto_L20 x1 x2 y16 post nn y17 u
abbrev rm_X7_measureInto : Room := { frames := 2, cells := 0, slots := 0, locals := 44 }
def wp_X7_measure_L2 (x1 : Int32) (x2 : Int32) (post : WU → Prop) (K21 : WU → Prop) : Nat → Int32 → WU → Prop
  | 0, _, _ => False
  | n + 1, x3, u =>
  ((24 ≤ x3 → K21 u) ∧ (¬ 24 ≤ x3 → vp_in x3 24 ∧ ∀ u1 : WU, u1 = uI u 19 (upd (u.1 19) x3.toNatClampNeg (-1)) → ∀ y2 : Int32, y2 = x3 + 1 → wp_X7_measure_L2 x1 x2 post K21 n y2 u1))
def wp_X7_measure_J64 (x1 : Int32) (x3 : Int32) (u : WU) (post : WU → Prop) (K31 : Int32 → WU → Prop) : Prop :=
  ∀ y9 : Int32, y9 = x3 + (-1) → K31 y9 u
def wp_X7_measure_L31 (x1 : Int32) (post : WU → Prop) : Nat → Int32 → WU → Prop
  | 0, _, _ => False
  | n + 1, x3, u =>
  ((x3 < 0 → post u) ∧ (¬ x3 < 0 → vp_in x3 24 ∧ ∀ y3 : Int32, y3 = u.1 6 x3.toNatClampNeg → vp_in y3 24 ∧ (((u.1 19 y3.toNatClampNeg) = (-1) → wp_X7_measure_J64 x1 x3 u post (fun (y4 : Int32) (u5 : WU) => wp_X7_measure_L31 x1 post n y4 u5)) ∧ (¬ (u.1 19 y3.toNatClampNeg) = (-1) → wp_X7_measureInto x1 y3 u (fun u6 => wp_X7_measure_J64 x1 x3 u6 post (fun (y7 : Int32) (u8 : WU) => wp_X7_measure_L31 x1 post n y7 u8))))))
def wp_X7_measure (x1 : Int32) (x2 : Int32) (u : WU) (post : WU → Prop) : Prop :=
  ∃ nn : Nat, wp_X7_measure_L2 x1 x2 post (fun (u10 : WU) => vp_in x2 24 ∧ ∀ u11 : WU, u11 = uI u10 19 (upd (u10.1 19) x2.toNatClampNeg 0) → ∃ nn : Nat, wp_X7_measure_L31 x1 post nn 23 u11) nn 0 u
abbrev rm_X7_measure : Room := { frames := 3, cells := 0, slots := 0, locals := 70 }
def wp_X7_brings (x1 : Int32) (x2 : Int32) (x3 : Int32) (u : WU) (post : Int32 → Prop) : Prop :=
  vp_in x2 24 ∧ wp_X2_brought x1 x2 (u.1 2 x2.toNatClampNeg) u (fun r1 => wp_X8_holds r1 x3 (fun r2 => bl r2 ∧ post r2))
abbrev rm_X7_brings : Room := { frames := 3, cells := 0, slots := 0, locals := 64 }
def wp_X7_source_J75 (x1 : Int32) (x2 : Int32) (x3 : Int32) (x4 : Int32) (u : WU) (post : Int32 → Prop) (K5 : Int32 → Int32 → Prop) : Prop :=
  ∀ y20 : Int32, y20 = x4 + 1 → K5 x3 y20
def wp_X7_source_J54 (x1 : Int32) (x2 : Int32) (x3 : Int32) (x4 : Int32) (z0 : Int32) (u : WU) (post : Int32 → Prop) (K5 : Int32 → Int32 → Prop) : Prop :=
  ((z0 = 0 → wp_X7_source_J75 x1 x2 x3 x4 u post (fun (y13 : Int32) (y14 : Int32) => K5 y13 y14)) ∧ (¬ z0 = 0 → wp_X7_brings x1 x4 x2 u (fun r15 => ((r15 = 0 → wp_X7_source_J75 x1 x2 x3 x4 u post (fun (y16 : Int32) (y17 : Int32) => K5 y16 y17)) ∧ (¬ r15 = 0 → wp_X7_source_J75 x1 x2 x4 x4 u post (fun (y18 : Int32) (y19 : Int32) => K5 y18 y19))))))
def wp_X7_source_J49 (x1 : Int32) (x2 : Int32) (x3 : Int32) (x4 : Int32) (u : WU) (post : Int32 → Prop) (K5 : Int32 → Int32 → Prop) : Prop :=
  wp_X7_source_J54 x1 x2 x3 x4 1 u post (fun (y9 : Int32) (y10 : Int32) => K5 y9 y10)
def wp_X7_source_J53 (x1 : Int32) (x2 : Int32) (x3 : Int32) (x4 : Int32) (u : WU) (post : Int32 → Prop) (K5 : Int32 → Int32 → Prop) : Prop :=
  wp_X7_source_J54 x1 x2 x3 x4 0 u post (fun (y11 : Int32) (y12 : Int32) => K5 y11 y12)
def wp_X7_source_L5 (x1 : Int32) (x2 : Int32) (u : WU) (post : Int32 → Prop) : Nat → Int32 → Int32 → Prop
  | 0, _, _ => False
  | n + 1, x3, x4 =>
  (((u.1 20 0) ≤ x4 → post x3) ∧ (¬ (u.1 20 0) ≤ x4 → vp_in x4 24 ∧ (((u.1 19 x4.toNatClampNeg) = (-1) → wp_X7_source_J53 x1 x2 x3 x4 u post (fun (y1 : Int32) (y2 : Int32) => wp_X7_source_L5 x1 x2 u post n y1 y2)) ∧ (¬ (u.1 19 x4.toNatClampNeg) = (-1) → ((x3 = (-1) → wp_X7_source_J49 x1 x2 x3 x4 u post (fun (y3 : Int32) (y4 : Int32) => wp_X7_source_L5 x1 x2 u post n y3 y4)) ∧ (¬ x3 = (-1) → vp_in x4 24 ∧ vp_in x3 24 ∧ (((u.1 19 x3.toNatClampNeg) ≤ (u.1 19 x4.toNatClampNeg) → wp_X7_source_J53 x1 x2 x3 x4 u post (fun (y5 : Int32) (y6 : Int32) => wp_X7_source_L5 x1 x2 u post n y5 y6)) ∧ (¬ (u.1 19 x3.toNatClampNeg) ≤ (u.1 19 x4.toNatClampNeg) → wp_X7_source_J49 x1 x2 x3 x4 u post (fun (y7 : Int32) (y8 : Int32) => wp_X7_source_L5 x1 x2 u post n y7 y8)))))))))
def wp_X7_source (x1 : Int32) (x2 : Int32) (u : WU) (post : Int32 → Prop) : Prop :=
  ∃ nn : Nat, wp_X7_source_L5 x1 x2 u post nn (-1) 0
abbrev rm_X7_source : Room := { frames := 4, cells := 0, slots := 0, locals := 87 }
def wp_X7_partOnWay_L42 (x2 : Int32) (x4 : Int32) (post : Int32 → WU → Prop) : Nat → Int32 → Int32 → WU → Prop
  | 0, _, _, _ => False
  | n + 1, x5, x6, u =>
  ((x4 ≤ x6 → post x5 u) ∧ (¬ x4 ≤ x6 → ((x5 = (-1) → post x5 u) ∧ (¬ x5 = (-1) → wp_X7_next x2 x5 u (fun r1 => ∀ y2 : Int32, y2 = x6 + 1 → wp_X7_partOnWay_L42 x2 x4 post n r1 y2 u)))))
def wp_X7_partOnWay (x1 : Int32) (x2 : Int32) (x3 : Int32) (x4 : Int32) (u : WU) (post : Int32 → WU → Prop) : Prop :=
  wp_X7_measure x2 x3 u (fun u3 => wp_X7_source x1 x2 u3 (fun r4 => ((r4 = (-1) → post (-1) u3) ∧ (¬ r4 = (-1) → ((x4 < 0 → post (-1) u3) ∧ (¬ x4 < 0 → vp_in r4 24 ∧ ((x4 ≤ (u3.1 19 r4.toNatClampNeg) → ∃ nn : Nat, wp_X7_partOnWay_L42 x2 x4 post nn r4 0 u3) ∧ (¬ x4 ≤ (u3.1 19 r4.toNatClampNeg) → post (-1) u3))))))))
abbrev rm_X7_partOnWay : Room := { frames := 5, cells := 0, slots := 0, locals := 112 }
def wp_X8_way (x1 : Int32) (x2 : Int32) (x3 : Int32) (x4 : Int32) (x5 : Int32) (u : WU) (post : Int32 → WU → Prop) : Prop :=
  wp_X8_within x1 4 (fun r1 => ((r1 = 0 → post (-1) u) ∧ (¬ r1 = 0 → wp_X8_isPair x2 x3 (fun r2 => ((r2 = 0 → post (-1) u) ∧ (¬ r2 = 0 → wp_X5_has x4 u (fun r3 => ((¬ r3 = 0 → wp_X8_pairOf x2 x3 (fun r4 => wp_X7_partOnWay x1 r4 x4 x5 u (fun r6 u5 => post r6 u5))) ∧ (r3 = 0 → post (-1) u)))))))))
abbrev rm_X8_way : Room := { frames := 6, cells := 0, slots := 0, locals := 138 }
def wp_X9_hasBrought (x1 : Int32) (x2 : Int32) (x3 : Int32) (x4 : Int32) (u : WU) (post : Int32 → Prop) : Prop :=
  wp_X9_brings x1 x2 u (fun r1 => wp_X9_bit x3 x4 (fun r2 => (((lg_cmp (r1 &&& r2) 0) = 0 → post 0) ∧ (¬ (lg_cmp (r1 &&& r2) 0) = 0 → post 1))))
abbrev rm_X9_hasBrought : Room := { frames := 1, cells := 0, slots := 0, locals := 22 }
def wp_X9_measures_J28 (x1 : Int32) (x2 : Int32) (x3 : Int32) (x4 : Int32) (z1 : Int32) (z2 : Int32) (u : WU) (post : WU → Prop) (K3 : Int32 → WU → Prop) : Prop :=
  vp_in z1 24 ∧ ∀ u19 : WU, u19 = uI u 20 (upd (u.1 20) z1.toNatClampNeg z2) → ∀ y20 : Int32, y20 = x4 + 1 → K3 y20 u19
def wp_X9_measures_L3 (x1 : Int32) (x2 : Int32) (x3 : Int32) (post : WU → Prop) (K35 : WU → Prop) : Nat → Int32 → WU → Prop
  | 0, _, _ => False
  | n + 1, x4, u =>
  ((24 ≤ x4 → K35 u) ∧ (¬ 24 ≤ x4 → ((¬ x4 = x3 → wp_X9_measures_J28 x1 x2 x3 x4 x4 100 u post (fun (y1 : Int32) (u2 : WU) => wp_X9_measures_L3 x1 x2 x3 post K35 n y1 u2)) ∧ (x4 = x3 → wp_X9_measures_J28 x1 x2 x3 x4 x4 0 u post (fun (y3 : Int32) (u4 : WU) => wp_X9_measures_L3 x1 x2 x3 post K35 n y3 u4)))))
def wp_X9_measures_J142 (x1 : Int32) (x2 : Int32) (x4 : Int32) (x5 : Int32) (u : WU) (post : WU → Prop) (K50 : Int32 → WU → Prop) : Prop :=
  ∀ y21 : Int32, y21 = x5 + 1 → K50 y21 u
def wp_X9_measures_L50 (x1 : Int32) (x2 : Int32) (x4 : Int32) (post : WU → Prop) (K148 : WU → Prop) : Nat → Int32 → WU → Prop
  | 0, _, _ => False
  | n + 1, x5, u =>
  (((u.1 23 0) ≤ x5 → K148 u) ∧ (¬ (u.1 23 0) ≤ x5 → vp_in x5 40 ∧ ((¬ (u.1 14 x5.toNatClampNeg) = 0 → wp_X9_measures_J142 x1 x2 x4 x5 u post (fun (y7 : Int32) (u8 : WU) => wp_X9_measures_L50 x1 x2 x4 post K148 n y7 u8)) ∧ ((u.1 14 x5.toNatClampNeg) = 0 → vp_in x5 40 ∧ vp_in (u.1 7 x5.toNatClampNeg) 4 ∧ wp_X9_bit x1 x2 (fun r9 => (((lg_cmp ((u.2 0 (u.1 7 x5.toNatClampNeg).toNatClampNeg) &&& r9) 0) = 0 → wp_X9_measures_J142 x1 x2 x4 x5 u post (fun (y10 : Int32) (u11 : WU) => wp_X9_measures_L50 x1 x2 x4 post K148 n y10 u11)) ∧ (¬ (lg_cmp ((u.2 0 (u.1 7 x5.toNatClampNeg).toNatClampNeg) &&& r9) 0) = 0 → vp_in x5 40 ∧ vp_in (u.1 6 x5.toNatClampNeg) 24 ∧ ((¬ (u.1 20 (u.1 6 x5.toNatClampNeg).toNatClampNeg) = (x4 - 1) → wp_X9_measures_J142 x1 x2 x4 x5 u post (fun (y12 : Int32) (u13 : WU) => wp_X9_measures_L50 x1 x2 x4 post K148 n y12 u13)) ∧ ((u.1 20 (u.1 6 x5.toNatClampNeg).toNatClampNeg) = (x4 - 1) → vp_in x5 40 ∧ vp_in (u.1 5 x5.toNatClampNeg) 24 ∧ (((u.1 20 (u.1 5 x5.toNatClampNeg).toNatClampNeg) ≤ x4 → wp_X9_measures_J142 x1 x2 x4 x5 u post (fun (y14 : Int32) (u15 : WU) => wp_X9_measures_L50 x1 x2 x4 post K148 n y14 u15)) ∧ (¬ (u.1 20 (u.1 5 x5.toNatClampNeg).toNatClampNeg) ≤ x4 → vp_in x5 40 ∧ vp_in (u.1 5 x5.toNatClampNeg) 24 ∧ ∀ u16 : WU, u16 = uI u 20 (upd (u.1 20) (u.1 5 x5.toNatClampNeg).toNatClampNeg x4) → wp_X9_measures_J142 x1 x2 x4 x5 u16 post (fun (y17 : Int32) (u18 : WU) => wp_X9_measures_L50 x1 x2 x4 post K148 n y17 u18))))))))))))
def wp_X9_measures_L38 (x1 : Int32) (x2 : Int32) (post : WU → Prop) : Nat → Int32 → WU → Prop
  | 0, _, _ => False
  | n + 1, x4, u =>
  (((u.1 21 0) < x4 → post u) ∧ (¬ (u.1 21 0) < x4 → ∃ nn : Nat, wp_X9_measures_L50 x1 x2 x4 post (fun (u5 : WU) => ∀ y6 : Int32, y6 = x4 + 1 → wp_X9_measures_L38 x1 x2 post n y6 u5) nn 0 u))
def wp_X9_measures (x1 : Int32) (x2 : Int32) (x3 : Int32) (u : WU) (post : WU → Prop) : Prop :=
  ∃ nn : Nat, wp_X9_measures_L3 x1 x2 x3 post (fun (u22 : WU) => ∃ nn : Nat, wp_X9_measures_L38 x1 x2 post nn 1 u22) nn 0 u
abbrev rm_X9_measures : Room := { frames := 1, cells := 0, slots := 0, locals := 21 }
def wp_X9_way_J118 (x1 : Int32) (x2 : Int32) (x3 : Int32) (x5 : Int32) (x6 : Int32) (x7 : Int32) (u : WU) (post : Int32 → WU → Prop) (K58 : Int32 → Int32 → WU → Prop) : Prop :=
  ∀ y43 : Int32, y43 = x7 + 1 → K58 x6 y43 u
def wp_X9_way_J114 (x1 : Int32) (x2 : Int32) (x3 : Int32) (x5 : Int32) (x7 : Int32) (u : WU) (post : Int32 → WU → Prop) (K58 : Int32 → Int32 → WU → Prop) : Prop :=
  wp_X9_way_J118 x1 x2 x3 x5 x7 x7 u post (fun (y40 : Int32) (y41 : Int32) (u42 : WU) => K58 y40 y41 u42)
def wp_X9_way_L58 (x1 : Int32) (x2 : Int32) (x3 : Int32) (x5 : Int32) (post : Int32 → WU → Prop) (K124 : Int32 → WU → Prop) : Nat → Int32 → Int32 → WU → Prop
  | 0, _, _, _ => False
  | n + 1, x6, x7, u =>
  (((u.1 21 0) ≤ x7 → K124 x6 u) ∧ (¬ (u.1 21 0) ≤ x7 → wp_X9_hasBrought x1 x7 x2 x3 u (fun r1 => ((r1 = 0 → wp_X9_way_J118 x1 x2 x3 x5 x6 x7 u post (fun (y2 : Int32) (y3 : Int32) (u4 : WU) => wp_X9_way_L58 x1 x2 x3 x5 post K124 n y2 y3 u4)) ∧ (¬ r1 = 0 → vp_in x7 24 ∧ ((100 ≤ (u.1 20 x7.toNatClampNeg) → wp_X9_way_J118 x1 x2 x3 x5 x6 x7 u post (fun (y5 : Int32) (y6 : Int32) (u7 : WU) => wp_X9_way_L58 x1 x2 x3 x5 post K124 n y5 y6 u7)) ∧ (¬ 100 ≤ (u.1 20 x7.toNatClampNeg) → ((x6 = (-1) → wp_X9_way_J114 x1 x2 x3 x5 x7 u post (fun (y8 : Int32) (y9 : Int32) (u10 : WU) => wp_X9_way_L58 x1 x2 x3 x5 post K124 n y8 y9 u10)) ∧ (¬ x6 = (-1) → vp_in x7 24 ∧ vp_in x6 24 ∧ (((u.1 20 x6.toNatClampNeg) ≤ (u.1 20 x7.toNatClampNeg) → wp_X9_way_J118 x1 x2 x3 x5 x6 x7 u post (fun (y11 : Int32) (y12 : Int32) (u13 : WU) => wp_X9_way_L58 x1 x2 x3 x5 post K124 n y11 y12 u13)) ∧ (¬ (u.1 20 x6.toNatClampNeg) ≤ (u.1 20 x7.toNatClampNeg) → wp_X9_way_J114 x1 x2 x3 x5 x7 u post (fun (y14 : Int32) (y15 : Int32) (u16 : WU) => wp_X9_way_L58 x1 x2 x3 x5 post K124 n y14 y15 u16))))))))))))
def wp_X9_way_J260 (x2 : Int32) (x3 : Int32) (x5 : Int32) (x6 : Int32) (x7 : Int32) (x8 : Int32) (x9 : Int32) (u : WU) (post : Int32 → WU → Prop) (K161 : Int32 → Int32 → WU → Prop) : Prop :=
  ∀ y44 : Int32, y44 = x9 + 1 → K161 x8 y44 u
def wp_X9_way_L161 (x2 : Int32) (x3 : Int32) (x5 : Int32) (x6 : Int32) (x7 : Int32) (post : Int32 → WU → Prop) (K266 : Int32 → WU → Prop) : Nat → Int32 → Int32 → WU → Prop
  | 0, _, _, _ => False
  | n + 1, x8, x9, u =>
  (((u.1 23 0) ≤ x9 → K266 x8 u) ∧ (¬ (u.1 23 0) ≤ x9 → vp_in x9 40 ∧ ((¬ (u.1 14 x9.toNatClampNeg) = 0 → wp_X9_way_J260 x2 x3 x5 x6 x7 x8 x9 u post (fun (y20 : Int32) (y21 : Int32) (u22 : WU) => wp_X9_way_L161 x2 x3 x5 x6 x7 post K266 n y20 y21 u22)) ∧ ((u.1 14 x9.toNatClampNeg) = 0 → vp_in x9 40 ∧ ((¬ (u.1 5 x9.toNatClampNeg) = x6 → wp_X9_way_J260 x2 x3 x5 x6 x7 x8 x9 u post (fun (y23 : Int32) (y24 : Int32) (u25 : WU) => wp_X9_way_L161 x2 x3 x5 x6 x7 post K266 n y23 y24 u25)) ∧ ((u.1 5 x9.toNatClampNeg) = x6 → vp_in x9 40 ∧ vp_in (u.1 7 x9.toNatClampNeg) 4 ∧ wp_X9_bit x2 x3 (fun r26 => (((lg_cmp ((u.2 0 (u.1 7 x9.toNatClampNeg).toNatClampNeg) &&& r26) 0) = 0 → wp_X9_way_J260 x2 x3 x5 x6 x7 x8 x9 u post (fun (y27 : Int32) (y28 : Int32) (u29 : WU) => wp_X9_way_L161 x2 x3 x5 x6 x7 post K266 n y27 y28 u29)) ∧ (¬ (lg_cmp ((u.2 0 (u.1 7 x9.toNatClampNeg).toNatClampNeg) &&& r26) 0) = 0 → vp_in x9 40 ∧ vp_in (u.1 6 x9.toNatClampNeg) 24 ∧ vp_in x6 24 ∧ ((¬ (u.1 20 (u.1 6 x9.toNatClampNeg).toNatClampNeg) = ((u.1 20 x6.toNatClampNeg) - 1) → wp_X9_way_J260 x2 x3 x5 x6 x7 x8 x9 u post (fun (y30 : Int32) (y31 : Int32) (u32 : WU) => wp_X9_way_L161 x2 x3 x5 x6 x7 post K266 n y30 y31 u32)) ∧ ((u.1 20 (u.1 6 x9.toNatClampNeg).toNatClampNeg) = ((u.1 20 x6.toNatClampNeg) - 1) → vp_in x9 40 ∧ ((x8 ≤ (u.1 6 x9.toNatClampNeg) → wp_X9_way_J260 x2 x3 x5 x6 x7 x8 x9 u post (fun (y33 : Int32) (y34 : Int32) (u35 : WU) => wp_X9_way_L161 x2 x3 x5 x6 x7 post K266 n y33 y34 u35)) ∧ (¬ x8 ≤ (u.1 6 x9.toNatClampNeg) → vp_in x9 40 ∧ ∀ y36 : Int32, y36 = u.1 6 x9.toNatClampNeg → wp_X9_way_J260 x2 x3 x5 x6 x7 y36 x9 u post (fun (y37 : Int32) (y38 : Int32) (u39 : WU) => wp_X9_way_L161 x2 x3 x5 x6 x7 post K266 n y37 y38 u39))))))))))))))
def wp_X9_way_L147 (x2 : Int32) (x3 : Int32) (x5 : Int32) (post : Int32 → WU → Prop) : Nat → Int32 → Int32 → WU → Prop
  | 0, _, _, _ => False
  | n + 1, x6, x7, u =>
  ((x5 ≤ x7 → post x6 u) ∧ (¬ x5 ≤ x7 → ∃ nn : Nat, wp_X9_way_L161 x2 x3 x5 x6 x7 post (fun (y17 : Int32) (u18 : WU) => ∀ y19 : Int32, y19 = x7 + 1 → wp_X9_way_L147 x2 x3 x5 post n y17 y19 u18) nn 24 0 u))
def wp_X9_way (x1 : Int32) (x2 : Int32) (x3 : Int32) (x4 : Int32) (x5 : Int32) (u : WU) (post : Int32 → WU → Prop) : Prop :=
  wp_X9_isShipping x1 (fun r45 => ((r45 = 0 → post (-1) u) ∧ (¬ r45 = 0 → wp_X9_isLicence x2 (fun r46 => ((r46 = 0 → post (-1) u) ∧ (¬ r46 = 0 → wp_X9_lies x3 0 7 (fun r47 => ((r47 = 0 → post (-1) u) ∧ (¬ r47 = 0 → wp_X9_isPart x4 u (fun r48 => ((r48 = 0 → post (-1) u) ∧ (¬ r48 = 0 → ((0 ≤ x5 → wp_X9_asItIs u (fun u49 => wp_X9_measures x2 x3 x4 u49 (fun u50 => ∃ nn : Nat, wp_X9_way_L58 x1 x2 x3 x5 post (fun (y51 : Int32) (u52 : WU) => ((y51 = (-1) → post (-1) u52) ∧ (¬ y51 = (-1) → vp_in y51 24 ∧ ((x5 ≤ (u52.1 20 y51.toNatClampNeg) → ∃ nn : Nat, wp_X9_way_L147 x2 x3 x5 post nn y51 0 u52) ∧ (¬ x5 ≤ (u52.1 20 y51.toNatClampNeg) → post (-1) u52))))) nn (-1) 0 u50))) ∧ (¬ 0 ≤ x5 → post (-1) u))))))))))))))
abbrev rm_X9_way : Room := { frames := 2, cells := 0, slots := 0, locals := 46 }
def wp_X7_noticed_J75 (x1 : Int32) (x2 : Int32) (x3 : Int32) (x4 : Int32) (x5 : Int32) (u : WU) (post : Int32 → WU → Prop) (K33 : Int32 → Int32 → WU → Prop) : Prop :=
  ∀ y17 : Int32, y17 = x5 + 1 → K33 x2 y17 u
def wp_X7_noticed_L33 (x1 : Int32) (x3 : Int32) (x4 : Int32) (post : Int32 → WU → Prop) (K81 : Int32 → WU → Prop) : Nat → Int32 → Int32 → WU → Prop
  | 0, _, _, _ => False
  | n + 1, x2, x5, u =>
  (((u.1 20 0) ≤ x5 → K81 x2 u) ∧ (¬ (u.1 20 0) ≤ x5 → vp_in x5 24 ∧ (((u.1 19 x5.toNatClampNeg) = (-1) → wp_X7_noticed_J75 x1 x2 x3 x4 x5 u post (fun (y6 : Int32) (y7 : Int32) (u8 : WU) => wp_X7_noticed_L33 x1 x3 x4 post K81 n y6 y7 u8)) ∧ (¬ (u.1 19 x5.toNatClampNeg) = (-1) → wp_X7_brings x1 x5 x4 u (fun r9 => ((r9 = 0 → wp_X7_noticed_J75 x1 x2 x3 x4 x5 u post (fun (y10 : Int32) (y11 : Int32) (u12 : WU) => wp_X7_noticed_L33 x1 x3 x4 post K81 n y10 y11 u12)) ∧ (¬ r9 = 0 → ∀ y13 : Int32, y13 = x2 ||| (1 <<< (x5 &&& 31)) → wp_X7_noticed_J75 x1 y13 x3 x4 x5 u post (fun (y14 : Int32) (y15 : Int32) (u16 : WU) => wp_X7_noticed_L33 x1 x3 x4 post K81 n y14 y15 u16))))))))
def wp_X7_noticed_L4 (x1 : Int32) (post : Int32 → WU → Prop) : Nat → Int32 → Int32 → WU → Prop
  | 0, _, _, _ => False
  | n + 1, x2, x3, u =>
  ((8 ≤ x3 → post x2 u) ∧ (¬ 8 ≤ x3 → wp_X8_pairOf x3 0 (fun r1 => wp_X7_measure r1 (u.1 21 0) u (fun u2 => ∃ nn : Nat, wp_X7_noticed_L33 x1 x3 r1 post (fun (y3 : Int32) (u4 : WU) => ∀ y5 : Int32, y5 = x3 + 1 → wp_X7_noticed_L4 x1 post n y3 y5 u4) nn x2 0 u2))))
def wp_X7_noticed (x1 : Int32) (u : WU) (post : Int32 → WU → Prop) : Prop :=
  ∃ nn : Nat, wp_X7_noticed_L4 x1 post nn 0 0 u
abbrev rm_X7_noticed : Room := { frames := 4, cells := 0, slots := 0, locals := 94 }
def wp_X8_memberAt_J29 (x0 : Int32) (x1 : Int32) (x2 : Int32) (x3 : Int32) (post : Int32 → Prop) (K4 : Int32 → Int32 → Prop) : Prop :=
  ∀ y7 : Int32, y7 = x3 + 1 → K4 x2 y7
def wp_X8_memberAt_L4 (x0 : Int32) (x1 : Int32) (post : Int32 → Prop) : Nat → Int32 → Int32 → Prop
  | 0, _, _ => False
  | n + 1, x2, x3 =>
  ((24 ≤ x3 → post (-1)) ∧ (¬ 24 ≤ x3 → wp_X8_holds x0.toInt64 x3 (fun r1 => ((r1 = 0 → wp_X8_memberAt_J29 x0 x1 x2 x3 post (fun (y2 : Int32) (y3 : Int32) => wp_X8_memberAt_L4 x0 x1 post n y2 y3)) ∧ (¬ r1 = 0 → ((¬ x2 = x1 → ∀ y4 : Int32, y4 = x2 + 1 → wp_X8_memberAt_J29 x0 x1 y4 x3 post (fun (y5 : Int32) (y6 : Int32) => wp_X8_memberAt_L4 x0 x1 post n y5 y6)) ∧ (x2 = x1 → post x3)))))))
def wp_X8_memberAt (x0 : Int32) (x1 : Int32) (post : Int32 → Prop) : Prop :=
  ∃ nn : Nat, wp_X8_memberAt_L4 x0 x1 post nn 0 0
abbrev rm_X8_memberAt : Room := { frames := 1, cells := 0, slots := 0, locals := 22 }
def wp_X8_notice (x1 : Int32) (x2 : Int32) (u : WU) (post : Int32 → WU → Prop) : Prop :=
  wp_X8_within x1 4 (fun r1 => ((r1 = 0 → post (-1) u) ∧ (¬ r1 = 0 → ((¬ (u.1 20 0) = 0 → wp_X7_noticed x1 u (fun r3 u2 => wp_X8_memberAt r3 x2 (fun r4 => post r4 u2))) ∧ ((u.1 20 0) = 0 → post (-1) u)))))
abbrev rm_X8_notice : Room := { frames := 5, cells := 0, slots := 0, locals := 119 }
def wp_X9_notice_J94 (x1 : Int32) (x2 : Int32) (x3 : Int32) (x4 : Int32) (u : WU) (post : Int32 → WU → Prop) (K22 : Int32 → Int32 → WU → Prop) : Prop :=
  ∀ y13 : Int32, y13 = x4 + 1 → K22 x3 y13 u
def wp_X9_notice_L22 (x1 : Int32) (x2 : Int32) (post : Int32 → WU → Prop) : Nat → Int32 → Int32 → WU → Prop
  | 0, _, _, _ => False
  | n + 1, x3, x4, u =>
  (((u.1 21 0) ≤ x4 → post (-1) u) ∧ (¬ (u.1 21 0) ≤ x4 → vp_in x4 24 ∧ wp_X9_hasBrought x1 x4 (u.1 15 x4.toNatClampNeg) 0 u (fun r1 => ((¬ r1 = 0 → vp_in x4 24 ∧ wp_X9_measures (u.1 15 x4.toNatClampNeg) 0 (u.1 22 0) u (fun u2 => vp_in x4 24 ∧ ((¬ (u2.1 20 x4.toNatClampNeg) = 100 → ((¬ x3 = x2 → ∀ y3 : Int32, y3 = x3 + 1 → wp_X9_notice_J94 x1 x2 y3 x4 u2 post (fun (y4 : Int32) (y5 : Int32) (u6 : WU) => wp_X9_notice_L22 x1 x2 post n y4 y5 u6)) ∧ (x3 = x2 → post x4 u2))) ∧ ((u2.1 20 x4.toNatClampNeg) = 100 → wp_X9_notice_J94 x1 x2 x3 x4 u2 post (fun (y7 : Int32) (y8 : Int32) (u9 : WU) => wp_X9_notice_L22 x1 x2 post n y7 y8 u9))))) ∧ (r1 = 0 → wp_X9_notice_J94 x1 x2 x3 x4 u post (fun (y10 : Int32) (y11 : Int32) (u12 : WU) => wp_X9_notice_L22 x1 x2 post n y10 y11 u12))))))
def wp_X9_notice (x1 : Int32) (x2 : Int32) (u : WU) (post : Int32 → WU → Prop) : Prop :=
  wp_X9_isShipping x1 (fun r14 => ((r14 = 0 → post (-1) u) ∧ (¬ r14 = 0 → ((0 ≤ x2 → wp_X9_asItIs u (fun u15 => ∃ nn : Nat, wp_X9_notice_L22 x1 x2 post nn 0 0 u15)) ∧ (¬ 0 ≤ x2 → post (-1) u)))))
abbrev rm_X9_notice : Room := { frames := 2, cells := 0, slots := 0, locals := 46 }
def wp_X2_unlike_J90 (x3 : Int32) (x4 : Int32) (u : WU) (post : Int32 → WU → Prop) (K58 : Int32 → Int32 → WU → Prop) : Prop :=
  ∀ y9 : Int32, y9 = x4 + 1 → K58 x3 y9 u
def wp_X2_unlike_L58  (post : Int32 → WU → Prop) : Nat → Int32 → Int32 → WU → Prop
  | 0, _, _, _ => False
  | n + 1, x3, x4, u =>
  ((24 ≤ x4 → wp_X2_ofProduct (u.2 6 0) u (fun r1 => post (x3 &&& r1) u)) ∧ (¬ 24 ≤ x4 → vp_in x4 24 ∧ vp_in x4 24 ∧ (((lg_cmp (u.2 4 x4.toNatClampNeg) (u.2 5 x4.toNatClampNeg)) = 0 → wp_X2_unlike_J90 x3 x4 u post (fun (y2 : Int32) (y3 : Int32) (u4 : WU) => wp_X2_unlike_L58 post n y2 y3 u4)) ∧ (¬ (lg_cmp (u.2 4 x4.toNatClampNeg) (u.2 5 x4.toNatClampNeg)) = 0 → ∀ y5 : Int32, y5 = x3 ||| (1 <<< (x4 &&& 31)) → wp_X2_unlike_J90 y5 x4 u post (fun (y6 : Int32) (y7 : Int32) (u8 : WU) => wp_X2_unlike_L58 post n y6 y7 u8)))))
def wp_X2_unlike (x1 : Int32) (x2 : Int32) (u : WU) (post : Int32 → WU → Prop) : Prop :=
  wp_X2_run_c14 x1 (u.2 6 0) u (fun u10 => ∀ u11 : WU, u11 = uJ u10 5 (va_cpy (u10.2 4) (u10.2 5) (0 : Int32).toNatClampNeg (0 : Int32).toNatClampNeg (24 : Int32).toNatClampNeg) → wp_X2_run_c14 x2 (u11.2 6 0) u11 (fun u12 => ∃ nn : Nat, wp_X2_unlike_L58 post nn 0 0 u12))
abbrev rm_X2_unlike : Room := { frames := 4, cells := 0, slots := 0, locals := 90 }
def wp_X8_differ (x1 : Int32) (x2 : Int32) (x3 : Int32) (u : WU) (post : Int32 → WU → Prop) : Prop :=
  wp_X8_within x1 4 (fun r1 => ((r1 = 0 → post (-1) u) ∧ (¬ r1 = 0 → wp_X8_within x2 4 (fun r2 => ((¬ r2 = 0 → wp_X2_unlike x1 x2 u (fun r4 u3 => wp_X8_memberAt r4 x3 (fun r5 => post r5 u3))) ∧ (r2 = 0 → post (-1) u))))))
abbrev rm_X8_differ : Room := { frames := 5, cells := 0, slots := 0, locals := 114 }
def wp_X9_differ_L28 (x1 : Int32) (x3 : Int32) (post : Int32 → WU → Prop) (K57 : WU → Prop) : Nat → Int32 → WU → Prop
  | 0, _, _ => False
  | n + 1, x4, u =>
  (((u.1 21 0) ≤ x4 → K57 u) ∧ (¬ (u.1 21 0) ≤ x4 → vp_in x4 24 ∧ vp_in x4 24 ∧ ∀ u1 : WU, u1 = uJ u 3 (vp_updL (u.2 3) x4.toNatClampNeg (u.2 2 x4.toNatClampNeg)) → ∀ y2 : Int32, y2 = x4 + 1 → wp_X9_differ_L28 x1 x3 post K57 n y2 u1))
def wp_X9_differ_J120 (x3 : Int32) (x4 : Int32) (x5 : Int32) (u : WU) (post : Int32 → WU → Prop) (K68 : Int32 → Int32 → WU → Prop) : Prop :=
  ∀ y13 : Int32, y13 = x5 + 1 → K68 x4 y13 u
def wp_X9_differ_L68 (x3 : Int32) (post : Int32 → WU → Prop) : Nat → Int32 → Int32 → WU → Prop
  | 0, _, _, _ => False
  | n + 1, x4, x5, u =>
  (((u.1 21 0) ≤ x5 → post (-1) u) ∧ (¬ (u.1 21 0) ≤ x5 → vp_in x5 24 ∧ (((u.1 13 x5.toNatClampNeg) = 0 → wp_X9_differ_J120 x3 x4 x5 u post (fun (y3 : Int32) (y4 : Int32) (u5 : WU) => wp_X9_differ_L68 x3 post n y3 y4 u5)) ∧ (¬ (u.1 13 x5.toNatClampNeg) = 0 → vp_in x5 24 ∧ vp_in x5 24 ∧ ((¬ (lg_cmp (u.2 2 x5.toNatClampNeg) (u.2 3 x5.toNatClampNeg)) = 0 → ((¬ x4 = x3 → ∀ y6 : Int32, y6 = x4 + 1 → wp_X9_differ_J120 x3 y6 x5 u post (fun (y7 : Int32) (y8 : Int32) (u9 : WU) => wp_X9_differ_L68 x3 post n y7 y8 u9)) ∧ (x4 = x3 → post x5 u))) ∧ ((lg_cmp (u.2 2 x5.toNatClampNeg) (u.2 3 x5.toNatClampNeg)) = 0 → wp_X9_differ_J120 x3 x4 x5 u post (fun (y10 : Int32) (y11 : Int32) (u12 : WU) => wp_X9_differ_L68 x3 post n y10 y11 u12)))))))
def wp_X9_differ (x1 : Int32) (x2 : Int32) (x3 : Int32) (u : WU) (post : Int32 → WU → Prop) : Prop :=
  wp_X9_isShipping x1 (fun r14 => ((r14 = 0 → post (-1) u) ∧ (¬ r14 = 0 → wp_X9_isShipping x2 (fun r15 => ((r15 = 0 → post (-1) u) ∧ (¬ r15 = 0 → ((0 ≤ x3 → wp_X9_works x2 u (fun u16 => ∃ nn : Nat, wp_X9_differ_L28 x1 x3 post (fun (u17 : WU) => wp_X9_works x1 u17 (fun u18 => ∃ nn : Nat, wp_X9_differ_L68 x3 post nn 0 0 u18)) nn 0 u16)) ∧ (¬ 0 ≤ x3 → post (-1) u))))))))
abbrev rm_X9_differ : Room := { frames := 3, cells := 0, slots := 0, locals := 66 }
def wp_X3_countInto (x1 : Int32) (u : WU) (post : Int32 → Prop) : Prop :=
  vp_in x1 24 ∧ vp_in x1 24 ∧ post ((u.1 9 x1.toNatClampNeg) - (u.1 8 x1.toNatClampNeg))
abbrev rm_X3_countInto : Room := { frames := 0, cells := 0, slots := 0, locals := 0 }
def wp_X3_countOutOf_J36 (x1 : Int32) (x2 : Int32) (x3 : Int32) (u : WU) (post : Int32 → Prop) (K4 : Int32 → Int32 → Prop) : Prop :=
  ∀ y9 : Int32, y9 = x3 + 1 → K4 x2 y9
def wp_X3_countOutOf_L4 (x1 : Int32) (u : WU) (post : Int32 → Prop) : Nat → Int32 → Int32 → Prop
  | 0, _, _ => False
  | n + 1, x2, x3 =>
  (((u.1 22 0) ≤ x3 → post x2) ∧ (¬ (u.1 22 0) ≤ x3 → vp_in x3 40 ∧ ((¬ (u.1 3 x3.toNatClampNeg) = x1 → wp_X3_countOutOf_J36 x1 x2 x3 u post (fun (y1 : Int32) (y2 : Int32) => wp_X3_countOutOf_L4 x1 u post n y1 y2)) ∧ ((u.1 3 x3.toNatClampNeg) = x1 → wp_X8_holds (u.2 6 0) x3 (fun r3 => ((r3 = 0 → wp_X3_countOutOf_J36 x1 x2 x3 u post (fun (y4 : Int32) (y5 : Int32) => wp_X3_countOutOf_L4 x1 u post n y4 y5)) ∧ (¬ r3 = 0 → ∀ y6 : Int32, y6 = x2 + 1 → wp_X3_countOutOf_J36 x1 y6 x3 u post (fun (y7 : Int32) (y8 : Int32) => wp_X3_countOutOf_L4 x1 u post n y7 y8))))))))
def wp_X3_countOutOf (x1 : Int32) (u : WU) (post : Int32 → Prop) : Prop :=
  ∃ nn : Nat, wp_X3_countOutOf_L4 x1 u post nn 0 0
abbrev rm_X3_countOutOf : Room := { frames := 1, cells := 0, slots := 0, locals := 22 }
def wp_X8_choiceOrNone (x1 : Int32) (x2 : Int32) (u : WU) (post : Int32 → Prop) : Prop :=
  ((x2 < 5 → post (-1)) ∧ (¬ x2 < 5 → vp_in x1 24 ∧ (((x2 - 5) < (u.1 1 x1.toNatClampNeg) → wp_X5_choiceOf x1 (x2 - 5) u (fun r1 => post r1)) ∧ (¬ (x2 - 5) < (u.1 1 x1.toNatClampNeg) → post (-1)))))
abbrev rm_X8_choiceOrNone : Room := { frames := 1, cells := 0, slots := 0, locals := 22 }
def wp_X8_look (x1 : Int32) (x2 : Int32) (u : WU) (post : Int32 → Prop) : Prop :=
  wp_X5_has x1 u (fun r1 => ((¬ r1 = 0 → ((x2 = 0 → vp_in x1 24 ∧ post (u.1 2 x1.toNatClampNeg)) ∧ (x2 = 1 → vp_in x1 24 ∧ post (u.1 1 x1.toNatClampNeg)) ∧ (x2 = 2 → wp_X2_ofProduct (u.2 6 0) u (fun r2 => wp_X8_holds r2.toInt64 x1 (fun r3 => ((r3 = 0 → post 0) ∧ (¬ r3 = 0 → post 1))))) ∧ (x2 = 3 → wp_X3_countInto x1 u (fun r4 => post r4)) ∧ (x2 = 4 → wp_X3_countOutOf x1 u (fun r5 => post r5)) ∧ (¬ x2 = 0 → ¬ x2 = 1 → ¬ x2 = 2 → ¬ x2 = 3 → ¬ x2 = 4 → wp_X8_choiceOrNone x1 x2 u (fun r6 => post r6)))) ∧ (r1 = 0 → post (-1))))
abbrev rm_X8_look : Room := { frames := 3, cells := 0, slots := 0, locals := 72 }
def wp_X9_look_J169 (x1 : Int32) (x4 : Int32) (z0 : Int32) (z1 : Int32) (u : WU) (post : Int32 → WU → Prop) (K133 : Int32 → Int32 → WU → Prop) : Prop :=
  ∀ y22 : Int32, y22 = z0 + z1 → ∀ y23 : Int32, y23 = x4 + 1 → K133 y22 y23 u
def wp_X9_look_J168 (x1 : Int32) (x4 : Int32) (z0 : Int32) (u : WU) (post : Int32 → WU → Prop) (K133 : Int32 → Int32 → WU → Prop) : Prop :=
  wp_X9_look_J169 x1 x4 z0 0 u post (fun (y19 : Int32) (y20 : Int32) (u21 : WU) => K133 y19 y20 u21)
def wp_X9_look_L133 (x1 : Int32) (post : Int32 → WU → Prop) : Nat → Int32 → Int32 → WU → Prop
  | 0, _, _, _ => False
  | n + 1, x3, x4, u =>
  (((u.1 23 0) ≤ x4 → post x3 u) ∧ (¬ (u.1 23 0) ≤ x4 → vp_in x4 40 ∧ ((¬ (u.1 8 x4.toNatClampNeg) = 0 → wp_X9_look_J168 x1 x4 x3 u post (fun (y1 : Int32) (y2 : Int32) (u3 : WU) => wp_X9_look_L133 x1 post n y1 y2 u3)) ∧ ((u.1 8 x4.toNatClampNeg) = 0 → vp_in x4 40 ∧ ((¬ (u.1 6 x4.toNatClampNeg) = x1 → wp_X9_look_J168 x1 x4 x3 u post (fun (y4 : Int32) (y5 : Int32) (u6 : WU) => wp_X9_look_L133 x1 post n y4 y5 u6)) ∧ ((u.1 6 x4.toNatClampNeg) = x1 → wp_X9_look_J169 x1 x4 x3 1 u post (fun (y7 : Int32) (y8 : Int32) (u9 : WU) => wp_X9_look_L133 x1 post n y7 y8 u9)))))))
def wp_X9_look_J218 (x1 : Int32) (x4 : Int32) (z0 : Int32) (z1 : Int32) (u : WU) (post : Int32 → WU → Prop) (K182 : Int32 → Int32 → WU → Prop) : Prop :=
  ∀ y27 : Int32, y27 = z0 + z1 → ∀ y28 : Int32, y28 = x4 + 1 → K182 y27 y28 u
def wp_X9_look_J217 (x1 : Int32) (x4 : Int32) (z0 : Int32) (u : WU) (post : Int32 → WU → Prop) (K182 : Int32 → Int32 → WU → Prop) : Prop :=
  wp_X9_look_J218 x1 x4 z0 0 u post (fun (y24 : Int32) (y25 : Int32) (u26 : WU) => K182 y24 y25 u26)
def wp_X9_look_L182 (x1 : Int32) (post : Int32 → WU → Prop) : Nat → Int32 → Int32 → WU → Prop
  | 0, _, _, _ => False
  | n + 1, x3, x4, u =>
  (((u.1 23 0) ≤ x4 → post x3 u) ∧ (¬ (u.1 23 0) ≤ x4 → vp_in x4 40 ∧ ((¬ (u.1 8 x4.toNatClampNeg) = 0 → wp_X9_look_J217 x1 x4 x3 u post (fun (y10 : Int32) (y11 : Int32) (u12 : WU) => wp_X9_look_L182 x1 post n y10 y11 u12)) ∧ ((u.1 8 x4.toNatClampNeg) = 0 → vp_in x4 40 ∧ ((¬ (u.1 5 x4.toNatClampNeg) = x1 → wp_X9_look_J217 x1 x4 x3 u post (fun (y13 : Int32) (y14 : Int32) (u15 : WU) => wp_X9_look_L182 x1 post n y13 y14 u15)) ∧ ((u.1 5 x4.toNatClampNeg) = x1 → wp_X9_look_J218 x1 x4 x3 1 u post (fun (y16 : Int32) (y17 : Int32) (u18 : WU) => wp_X9_look_L182 x1 post n y16 y17 u18)))))))
def wp_X9_look (x1 : Int32) (x2 : Int32) (u : WU) (post : Int32 → WU → Prop) : Prop :=
  wp_X9_isPart x1 u (fun r29 => ((¬ r29 = 0 → vp_in x1 24 ∧ wp_X9_lies (x2 - 5) 0 ((u.1 3 x1.toNatClampNeg) - 1) (fun r30 => ((r30 = 0 → ((x2 = 0 → vp_in x1 24 ∧ vp_in ((3 * x1) + (u.1 4 x1.toNatClampNeg)) 72 ∧ post (u.1 2 ((3 * x1) + (u.1 4 x1.toNatClampNeg)).toNatClampNeg) u) ∧ (x2 = 1 → vp_in x1 24 ∧ post (u.1 3 x1.toNatClampNeg) u) ∧ (x2 = 2 → wp_X9_asItIs u (fun u31 => wp_X9_reaches (u31.1 22 0) u31 (fun u32 => vp_in x1 24 ∧ (((u32.1 13 x1.toNatClampNeg) = 0 → post 0 u32) ∧ (¬ (u32.1 13 x1.toNatClampNeg) = 0 → post 1 u32))))) ∧ (x2 = 3 → ∃ nn : Nat, wp_X9_look_L133 x1 post nn 0 0 u) ∧ (x2 = 4 → ∃ nn : Nat, wp_X9_look_L182 x1 post nn 0 0 u) ∧ (¬ x2 = 0 → ¬ x2 = 1 → ¬ x2 = 2 → ¬ x2 = 3 → ¬ x2 = 4 → post (-1) u))) ∧ (¬ r30 = 0 → vp_in (((3 * x1) + x2) - 5) 72 ∧ post (u.1 2 (((3 * x1) + x2) - 5).toNatClampNeg) u)))) ∧ (r29 = 0 → post (-1) u)))
abbrev rm_X9_look : Room := { frames := 2, cells := 0, slots := 0, locals := 43 }
def wp_X8_count (x1 : Int32) (u : WU) (post : Int32 → Prop) : Prop :=
  ((x1 = 0 → post (u.1 20 0)) ∧ (x1 = 1 → post (u.1 22 0)) ∧ (x1 = 2 → wp_J13_bitCount_95d88 (u.2 6 0) (fun r1 => post r1)) ∧ (x1 = 3 → wp_X2_ofProduct (u.2 6 0) u (fun r2 => wp_J6_bitCount_0f7a4 r2 (fun r3 => post r3))) ∧ (x1 = 4 → post (u.1 23 0)) ∧ (x1 = 5 → post (u.1 21 0)) ∧ (x1 = 6 → wp_X2_wayCount u (fun r4 => post r4)) ∧ (¬ x1 = 0 → ¬ x1 = 1 → ¬ x1 = 2 → ¬ x1 = 3 → ¬ x1 = 4 → ¬ x1 = 5 → ¬ x1 = 6 → post (-1)))
abbrev rm_X8_count : Room := { frames := 4, cells := 0, slots := 0, locals := 95 }
def wp_X9_count_J79 (x3 : Int32) (z0 : Int32) (z1 : Int32) (u : WU) (post : Int32 → WU → Prop) (K56 : Int32 → Int32 → WU → Prop) : Prop :=
  ∀ y13 : Int32, y13 = z0 + z1 → ∀ y14 : Int32, y14 = x3 + 1 → K56 y13 y14 u
def wp_X9_count_L56  (post : Int32 → WU → Prop) : Nat → Int32 → Int32 → WU → Prop
  | 0, _, _, _ => False
  | n + 1, x2, x3, u =>
  (((u.1 23 0) ≤ x3 → post x2 u) ∧ (¬ (u.1 23 0) ≤ x3 → vp_in x3 40 ∧ (((u.1 8 x3.toNatClampNeg) = 0 → wp_X9_count_J79 x3 x2 1 u post (fun (y1 : Int32) (y2 : Int32) (u3 : WU) => wp_X9_count_L56 post n y1 y2 u3)) ∧ (¬ (u.1 8 x3.toNatClampNeg) = 0 → wp_X9_count_J79 x3 x2 0 u post (fun (y4 : Int32) (y5 : Int32) (u6 : WU) => wp_X9_count_L56 post n y4 y5 u6)))))
def wp_X9_count_J126 (x3 : Int32) (z0 : Int32) (z1 : Int32) (u : WU) (post : Int32 → WU → Prop) (K103 : Int32 → Int32 → WU → Prop) : Prop :=
  ∀ y15 : Int32, y15 = z0 + z1 → ∀ y16 : Int32, y16 = x3 + 1 → K103 y15 y16 u
def wp_X9_count_L103  (post : Int32 → WU → Prop) : Nat → Int32 → Int32 → WU → Prop
  | 0, _, _, _ => False
  | n + 1, x2, x3, u =>
  (((u.1 21 0) ≤ x3 → post x2 u) ∧ (¬ (u.1 21 0) ≤ x3 → vp_in x3 24 ∧ (((u.1 13 x3.toNatClampNeg) = 0 → wp_X9_count_J126 x3 x2 0 u post (fun (y7 : Int32) (y8 : Int32) (u9 : WU) => wp_X9_count_L103 post n y7 y8 u9)) ∧ (¬ (u.1 13 x3.toNatClampNeg) = 0 → wp_X9_count_J126 x3 x2 1 u post (fun (y10 : Int32) (y11 : Int32) (u12 : WU) => wp_X9_count_L103 post n y10 y11 u12)))))
def wp_X9_count (x1 : Int32) (u : WU) (post : Int32 → WU → Prop) : Prop :=
  ((x1 = 0 → post (u.1 21 0) u) ∧ (x1 = 1 → post (u.1 23 0) u) ∧ (x1 = 2 → ∃ nn : Nat, wp_X9_count_L56 post nn 0 0 u) ∧ (x1 = 3 → wp_X9_asItIs u (fun u17 => wp_X9_reaches (u17.1 22 0) u17 (fun u18 => ∃ nn : Nat, wp_X9_count_L103 post nn 0 0 u18))) ∧ (x1 = 4 → post (u.1 24 0) u) ∧ (x1 = 5 → post (u.1 22 0) u) ∧ (x1 = 6 → wp_X9_ways u (fun r20 u19 => post r20 u19)) ∧ (¬ x1 = 0 → ¬ x1 = 1 → ¬ x1 = 2 → ¬ x1 = 3 → ¬ x1 = 4 → ¬ x1 = 5 → ¬ x1 = 6 → post (-1) u))
abbrev rm_X9_count : Room := { frames := 2, cells := 0, slots := 0, locals := 46 }
end
section
set_option maxHeartbeats 4000000 in
set_option maxRecDepth 100000 in
theorem c_X8_within (l : Launch) (x0 : Int32) (x1 : Int32) (post : Int32 → Prop) (hw : wp_X8_within x0 x1 post) : Met l yX8_within wsX8_within rm_X8_within (va_Pc [.int x0, .int x1] NW) (vp_Si post) 0 0 (fun _ => False) := by
  refine Met.ofW (cc := cX8_within) (maxL := 2) (ret := (some .boolean)) (by decide) rfl ?_
  intro p e s m args below meth c s₁ B hml hv
  obtain ⟨hargs, hN⟩ := hv
  have hx := B.exec
  have hb := B.bytes
  have hr := B.returns
  have hts := atoms_spec (ws := wsX8_within) B.pre
  have hown : s.vm.findClass RX8 = some m.cls := findClass_of_methodNamed B.named
  have hlocks := B.notSynchronized
  have hent := lg_entry_eq m ([.int x0, .int x1]) 2
  rw [← hargs] at hent
  rw [hent]
  have hl := lv_entry ([.int x0, .int x1]) (n := 2) (Nat.le_of_ble_eq_true rfl)
  generalize (lg_sl ([.int x0, .int x1]) ++ List.replicate (2 - (lg_sl ([.int x0, .int x1])).length) Slot.unset).toArray = ls at hl ⊢
  have hl : lv_has ls 2 [(0, .int x0), (1, .int x1)] := hl
  unfold wp_X8_within at hw
  refine lv_iload_n hx hb dX8_within_0 rfl (lv_at hl 0 rfl) ?_
  refine lv_if_lt (tgt := 13) hx hb dX8_within_1 (by decide) (fun hc => ?_) (fun hc => ?_)
  · have hw := hw.1 hc
    refine lv_iconst (v := 0) hx hb dX8_within_13 (by decide) ?_
    exact W.zret (v := 0) hx hb hr rfl (fun t ht hW => ⟨0, rfl, hw, ht⟩) (fun _ h => by cases h) dX8_within_14
  · have hw := hw.2 hc
    refine lv_iload_n hx hb dX8_within_4 rfl (lv_at hl 0 rfl) ?_
    refine lv_iload_n hx hb dX8_within_5 rfl (lv_at hl 1 rfl) ?_
    refine lv_icmp_ge (tgt := 13) hx hb dX8_within_6 (by decide) (fun hc => ?_) (fun hc => ?_)
    · have hw := hw.1 hc
      refine lv_iconst (v := 0) hx hb dX8_within_13 (by decide) ?_
      exact W.zret (v := 0) hx hb hr rfl (fun t ht hW => ⟨0, rfl, hw, ht⟩) (fun _ h => by cases h) dX8_within_14
    · have hw := hw.2 hc
      refine lv_iconst (v := 1) hx hb dX8_within_9 (by decide) ?_
      refine lv_goto (tgt := 14) hx hb dX8_within_10 (by decide) ?_
      exact W.zret (v := 1) hx hb hr rfl (fun t ht hW => ⟨1, rfl, hw, ht⟩) (fun _ h => by cases h) dX8_within_14
set_option maxHeartbeats 4000000 in
set_option maxRecDepth 100000 in
theorem c_X8_isPair (l : Launch) (x0 : Int32) (x1 : Int32) (post : Int32 → Prop) (hw : wp_X8_isPair x0 x1 post) : Met l yX8_isPair wsX8_isPair rm_X8_isPair (va_Pc [.int x0, .int x1] NW) (vp_Si post) 0 0 (fun _ => False) := by
  refine Met.ofW (cc := cX8_isPair) (maxL := 2) (ret := (some .boolean)) (by decide) rfl ?_
  intro p e s m args below meth c s₁ B hml hv
  obtain ⟨hargs, hN⟩ := hv
  have hx := B.exec
  have hb := B.bytes
  have hr := B.returns
  have hts := atoms_spec (ws := wsX8_isPair) B.pre
  have hown : s.vm.findClass RX8 = some m.cls := findClass_of_methodNamed B.named
  have hlocks := B.notSynchronized
  have hent := lg_entry_eq m ([.int x0, .int x1]) 2
  rw [← hargs] at hent
  rw [hent]
  have hl := lv_entry ([.int x0, .int x1]) (n := 2) (Nat.le_of_ble_eq_true rfl)
  generalize (lg_sl ([.int x0, .int x1]) ++ List.replicate (2 - (lg_sl ([.int x0, .int x1])).length) Slot.unset).toArray = ls at hl ⊢
  have hl : lv_has ls 2 [(0, .int x0), (1, .int x1)] := hl
  unfold wp_X8_isPair at hw
  refine lv_iload_n hx hb dX8_isPair_0 rfl (lv_at hl 0 rfl) ?_
  refine lv_bipush (v := 8) hx hb dX8_isPair_1 (by decide) ?_
  refine vp_callSi (va_Run.run (va_runS (As := [.int x0, .int 8]) (rest := []) ⟨hx, hb, hml, hown, hts⟩ (c_X8_within l x0 8 _ hw) (va_cwS 2 hts gX8_isPair_X8_within rfl rfl rfl (by decide +kernel) ⟨Nat.le_of_ble_eq_true rfl, Nat.le_of_ble_eq_true rfl⟩) (psS hN) rfl rfl hl.1 rfl (lv_room (Nat.le_of_ble_eq_true rfl)) dX8_isPair_3 ⟨Nat.zero_le _, Nat.zero_le _⟩)) (fun r1 hw => ?_)
  refine lv_if_eq (tgt := 22) hx hb dX8_isPair_6 (by decide) (fun hc => ?_) (fun hc => ?_)
  · have hw := hw.1 hc
    refine lv_iconst (v := 0) hx hb dX8_isPair_22 (by decide) ?_
    exact W.zret (v := 0) hx hb hr rfl (fun t ht hW => ⟨0, rfl, hw, ht⟩) (fun _ h => by cases h) dX8_isPair_23
  · have hw := hw.2 hc
    refine lv_iload_n hx hb dX8_isPair_9 rfl (lv_at hl 1 rfl) ?_
    refine lv_bipush (v := 8) hx hb dX8_isPair_10 (by decide) ?_
    refine vp_callSi (va_Run.run (va_runS (As := [.int x1, .int 8]) (rest := []) ⟨hx, hb, hml, hown, hts⟩ (c_X8_within l x1 8 _ hw) (va_cwS 2 hts gX8_isPair_X8_within rfl rfl rfl (by decide +kernel) ⟨Nat.le_of_ble_eq_true rfl, Nat.le_of_ble_eq_true rfl⟩) (psS hN) rfl rfl hl.1 rfl (lv_room (Nat.le_of_ble_eq_true rfl)) dX8_isPair_12 ⟨Nat.zero_le _, Nat.zero_le _⟩)) (fun r2 hw => ?_)
    refine lv_if_eq (tgt := 22) hx hb dX8_isPair_15 (by decide) (fun hc => ?_) (fun hc => ?_)
    · have hw := hw.1 hc
      refine lv_iconst (v := 0) hx hb dX8_isPair_22 (by decide) ?_
      exact W.zret (v := 0) hx hb hr rfl (fun t ht hW => ⟨0, rfl, hw, ht⟩) (fun _ h => by cases h) dX8_isPair_23
    · have hw := hw.2 hc
      refine lv_iconst (v := 1) hx hb dX8_isPair_18 (by decide) ?_
      refine lv_goto (tgt := 23) hx hb dX8_isPair_19 (by decide) ?_
      exact W.zret (v := 1) hx hb hr rfl (fun t ht hW => ⟨1, rfl, hw, ht⟩) (fun _ h => by cases h) dX8_isPair_23
set_option maxHeartbeats 4000000 in
set_option maxRecDepth 100000 in
theorem c_X8_pairOf (l : Launch) (x0 : Int32) (x1 : Int32) (post : Int32 → Prop) (hw : wp_X8_pairOf x0 x1 post) : Met l yX8_pairOf wsX8_pairOf rm_X8_pairOf (va_Pc [.int x0, .int x1] NW) (vp_Si post) 0 0 (fun _ => False) := by
  refine Met.ofW (cc := cX8_pairOf) (maxL := 2) (ret := (some .int)) (by decide) rfl ?_
  intro p e s m args below meth c s₁ B hml hv
  obtain ⟨hargs, hN⟩ := hv
  have hx := B.exec
  have hb := B.bytes
  have hr := B.returns
  have hts := atoms_spec (ws := wsX8_pairOf) B.pre
  have hown : s.vm.findClass RX8 = some m.cls := findClass_of_methodNamed B.named
  have hlocks := B.notSynchronized
  have hent := lg_entry_eq m ([.int x0, .int x1]) 2
  rw [← hargs] at hent
  rw [hent]
  have hl := lv_entry ([.int x0, .int x1]) (n := 2) (Nat.le_of_ble_eq_true rfl)
  generalize (lg_sl ([.int x0, .int x1]) ++ List.replicate (2 - (lg_sl ([.int x0, .int x1])).length) Slot.unset).toArray = ls at hl ⊢
  have hl : lv_has ls 2 [(0, .int x0), (1, .int x1)] := hl
  unfold wp_X8_pairOf at hw
  refine lv_iload_n hx hb dX8_pairOf_0 rfl (lv_at hl 0 rfl) ?_
  refine lv_bipush (v := 8) hx hb dX8_pairOf_1 (by decide) ?_
  refine lv_imul hx hb dX8_pairOf_3 ?_
  refine lv_iload_n hx hb dX8_pairOf_4 rfl (lv_at hl 1 rfl) ?_
  refine lv_iadd hx hb dX8_pairOf_5 ?_
  exact W.iret (v := (x0 * 8) + x1) hx hb hr (fun t ht hW => ⟨(x0 * 8) + x1, rfl, hw, ht⟩) (fun _ h => by cases h) dX8_pairOf_6
set_option maxHeartbeats 4000000 in
set_option maxRecDepth 100000 in
theorem c_X8_holds (l : Launch) (x0 : Int64) (x2 : Int32) (post : Int32 → Prop) (hw : wp_X8_holds x0 x2 post) : Met l yX8_holds wsX8_holds rm_X8_holds (va_Pc [.long x0, .int x2] NW) (vp_Si post) 0 0 (fun _ => False) := by
  refine Met.ofW (cc := cX8_holds) (maxL := 3) (ret := (some .boolean)) (by decide) rfl ?_
  intro p e s m args below meth c s₁ B hml hv
  obtain ⟨hargs, hN⟩ := hv
  have hx := B.exec
  have hb := B.bytes
  have hr := B.returns
  have hts := atoms_spec (ws := wsX8_holds) B.pre
  have hown : s.vm.findClass RX8 = some m.cls := findClass_of_methodNamed B.named
  have hlocks := B.notSynchronized
  have hent := lg_entry_eq m ([.long x0, .int x2]) 3
  rw [← hargs] at hent
  rw [hent]
  have hl := lv_entry ([.long x0, .int x2]) (n := 3) (Nat.le_of_ble_eq_true rfl)
  generalize (lg_sl ([.long x0, .int x2]) ++ List.replicate (3 - (lg_sl ([.long x0, .int x2])).length) Slot.unset).toArray = ls at hl ⊢
  have hl : lv_has ls 3 [(0, .long x0), (2, .int x2)] := hl
  unfold wp_X8_holds at hw
  refine lv_lload_n hx hb dX8_holds_0 rfl (lv_at hl 0 rfl) ?_
  refine lv_iload_n hx hb dX8_holds_1 rfl (lv_at hl 1 rfl) ?_
  refine lv_lushr (v := jushr x0 x2) hx hb dX8_holds_2 rfl ?_
  refine lv_lconst (v := 1) hx hb dX8_holds_3 (by decide) ?_
  refine lv_land hx hb dX8_holds_4 ?_
  refine lv_lconst (v := 0) hx hb dX8_holds_5 (by decide) ?_
  refine W.lcmp hx hb dX8_holds_6 ?_
  refine lv_if_eq (tgt := 14) hx hb dX8_holds_7 (by decide) (fun hc => ?_) (fun hc => ?_)
  · have hw := hw.1 hc
    refine lv_iconst (v := 0) hx hb dX8_holds_14 (by decide) ?_
    exact W.zret (v := 0) hx hb hr rfl (fun t ht hW => ⟨0, rfl, hw, ht⟩) (fun _ h => by cases h) dX8_holds_15
  · have hw := hw.2 hc
    refine lv_iconst (v := 1) hx hb dX8_holds_10 (by decide) ?_
    refine lv_goto (tgt := 15) hx hb dX8_holds_11 (by decide) ?_
    exact W.zret (v := 1) hx hb hr rfl (fun t ht hW => ⟨1, rfl, hw, ht⟩) (fun _ h => by cases h) dX8_holds_15
set_option maxHeartbeats 4000000 in
set_option maxRecDepth 100000 in
theorem c_X6_spread_c9 (l : Launch) (D : va_G) (q : Nat → Nat) (cI cJ cZ : ClassId) (sz : Nat) (u : WU) (x1 : Int32) (x2 : Int32) (post : WU → Prop) (hw : wp_X6_spread_c9 x1 x2 u post) : Met l yX6_spread wsX6_spread rm_X6_spread (va_Pc [.ref (q 9), .int x1, .int x2] (MW D (ty3 cI cJ cZ) (wX q cI cJ cZ u) sz)) (va_Qv post (fun u' t => va_P D vwCl (wX q cI cJ cZ u') t.heap) (va_A (wX q cI cJ cZ u00) sz)) 0 0 (va_A (wX q cI cJ cZ u00) sz) := by
  refine Met.ofW (cc := cX6_spread) (maxL := 6) (ret := none) (by decide) rfl ?_
  intro p e s m args below meth c s₁ B hml hv
  obtain ⟨hargs, hsz, hP, hK, hD0, hN⟩ := hv
  have hx := B.exec
  have hb := B.bytes
  have hr := B.returns
  have hts := atoms_spec (ws := wsX6_spread) B.pre
  have hown : s.vm.findClass RX6 = some m.cls := findClass_of_methodNamed B.named
  have hlocks := B.notSynchronized
  subst hsz
  have hD := shw_self (sz := s.heap.size) (sh_wX q cI cJ cZ) hD0
  have hA : ∀ a : Nat, s.heap.size ≤ a → va_A (wX q cI cJ cZ u00) s.heap.size a := fun _ h => Or.inr h
  have hS : va_S (va_A (wX q cI cJ cZ u00) s.heap.size) s.heap s.heap [] := va_S.rf
  have hc25 := hts (.constantLong RX6 25 (-1)) (by decide +kernel)
  have hi_RX8 := hts (.initialized RX8) (by decide +kernel)
  have hs_X8_holds := hts (.static yX8_holds) (by decide +kernel)
  have J43 : ∀ {K2 : Int32 → WU → Prop} (x1 : Int32) (x2 : Int32) (x3 : Int32) (z1 : Int32) (z2 : Int64) (u : WU) (H : Heap) (locs : List Loc), wp_X6_spread_c9_J43 x1 x2 x3 z1 z2 u post K2 → va_P D vwCl (wX q cI cJ cZ u) H → va_D (va_A (wX q cI cJ cZ u00) s.heap.size) (wX q cI cJ cZ u) → va_S (va_A (wX q cI cJ cZ u00) s.heap.size) s.heap H locs → ∀ ls : Array Slot, lv_has ls 6 [(0, .ref (q 9)), (1, .int x1), (2, .int x2), (3, .int x3)] → (∀ (x3 : Int32) (u : WU) (H : Heap) (locs : List Loc), K2 x3 u → va_P D vwCl (wX q cI cJ cZ u) H → va_D (va_A (wX q cI cJ cZ u00) s.heap.size) (wX q cI cJ cZ u) → va_S (va_A (wX q cI cJ cZ u00) s.heap.size) s.heap H locs → ∀ ls : Array Slot, lv_has ls 6 [(0, .ref (q 9)), (1, .int x1), (2, .int x2), (3, .int x3)] → W p l e (headSpec wsX6_spread rm_X6_spread).room s m args below meth c H locs 0 0 (MQ below (va_Qv post (fun u' t => va_P D vwCl (wX q cI cJ cZ u') t.heap) (va_A (wX q cI cJ cZ u00) s.heap.size)) args s 0 0 (va_A (wX q cI cJ cZ u00) s.heap.size)) (F0 m 2 ls [])) → W p l e (headSpec wsX6_spread rm_X6_spread).room s m args below meth c H locs 0 0 (MQ below (va_Qv post (fun u' t => va_P D vwCl (wX q cI cJ cZ u') t.heap) (va_A (wX q cI cJ cZ u00) s.heap.size)) args s 0 0 (va_A (wX q cI cJ cZ u00) s.heap.size)) (F0 m 43 ls [.long z2, .int z1, .ref (q 9)]) := by
    intro K2 x1 x2 x3 z1 z2 u H locs hw hP hD hS ls hl k2
    unfold wp_X6_spread_c9_J43 at hw
    obtain ⟨hin, hw⟩ := hw
    refine sLast (w := wX q cI cJ cZ) hx hb hK hP hD hS 9 1 0 rfl rfl (wXa_9 q cI cJ cZ u) hin dX6_spread_43 (fun u7 H locs eu7 hP hD hS => ?_)
    have hw := hw u7 eu7
    obtain ⟨y8, ey8⟩ : ∃ z : Int32, z = x3 + 1 := ⟨_, rfl⟩
    have hw := hw y8 ey8
    refine lv_iinc (v := y8) (lv' := [(3, .int y8), (0, .ref (q 9)), (1, .int x1), (2, .int x2)]) hx hb dX6_spread_44 hl (k := 3) rfl (by rw [ey8]; rfl) (by decide) rfl (fun ls hl => ?_)
    refine lv_goto (tgt := 2) hx hb dX6_spread_47 (by decide) ?_
    exact k2 y8 u7 _ _ hw hP hD hS ls (lv_sub hl [1, 2, 3, 0] rfl)
  have L2 : ∀ (x1 : Int32) (x2 : Int32) (n : Nat) (x3 : Int32) (u : WU) (H : Heap) (locs : List Loc), wp_X6_spread_c9_L2 x1 x2 post n x3 u → va_P D vwCl (wX q cI cJ cZ u) H → va_D (va_A (wX q cI cJ cZ u00) s.heap.size) (wX q cI cJ cZ u) → va_S (va_A (wX q cI cJ cZ u00) s.heap.size) s.heap H locs → ∀ ls : Array Slot, lv_has ls 6 [(0, .ref (q 9)), (1, .int x1), (2, .int x2), (3, .int x3)] → W p l e (headSpec wsX6_spread rm_X6_spread).room s m args below meth c H locs 0 0 (MQ below (va_Qv post (fun u' t => va_P D vwCl (wX q cI cJ cZ u') t.heap) (va_A (wX q cI cJ cZ u00) s.heap.size)) args s 0 0 (va_A (wX q cI cJ cZ u00) s.heap.size)) (F0 m 2 ls []) := by
    intro x1 x2 n
    induction n with
    | zero =>
      intro x3 u H locs hw
      exact hw.elim
    | succ n ih =>
      intro x3 u H locs hw hP hD hS ls hl 
      unfold wp_X6_spread_c9_L2 at hw
      refine lv_iload_n hx hb dX6_spread_2 rfl (lv_at hl 3 rfl) ?_
      refine lv_aload_n hx hb dX6_spread_3 rfl (lv_at hl 0 rfl) ?_
      refine va_alen hx hb hK hP 9 1 rfl rfl (v := 4) rfl dX6_spread_4 ?_
      refine lv_icmp_ge (tgt := 50) hx hb dX6_spread_5 (by decide) (fun hc => ?_) (fun hc => ?_)
      · have hw := hw.1 hc
        exact W.vret hx hb hr (fun t ht hW => ⟨⟨u, rfl, hw, by show va_P D vwCl _ t.heap; rw [ht]; exact hP⟩, hS.F ht⟩) hS.2.2 dX6_spread_50
      · have hw := hw.2 hc
        refine lv_aload_n hx hb dX6_spread_8 rfl (lv_at hl 0 rfl) ?_
        refine lv_iload_n hx hb dX6_spread_9 rfl (lv_at hl 3 rfl) ?_
        obtain ⟨hin, hw⟩ := hw
        refine va_lald hx hb hK hP 9 1 rfl rfl hin dX6_spread_10 ?_
        refine lv_lconst (v := 1) hx hb dX6_spread_11 (by decide) ?_
        refine lv_iload_n hx hb dX6_spread_12 rfl (lv_at hl 1 rfl) ?_
        refine lv_lshl (v := jshl 1 x1) hx hb dX6_spread_13 rfl ?_
        refine lv_ldc2 (v := (-1)) hx hb hown hc25 dX6_spread_14 ?_
        refine lv_lxor hx hb dX6_spread_17 ?_
        refine lv_land hx hb dX6_spread_18 ?_
        refine lv_topl (fun y1 ey1 => ?_)
        have hw := hw y1 ey1
        refine lv_lstore (lv' := [(4, .long y1), (0, .ref (q 9)), (1, .int x1), (2, .int x2), (3, .int x3)]) hx hb dX6_spread_19 hl (by decide) rfl (fun ls hl => ?_)
        refine lv_aload_n hx hb dX6_spread_21 rfl (lv_at hl 1 rfl) ?_
        refine lv_iload_n hx hb dX6_spread_22 rfl (lv_at hl 4 rfl) ?_
        refine lv_iload_n hx hb dX6_spread_23 rfl (lv_at hl 3 rfl) ?_
        refine lv_i2l (v := x2.toInt64) hx hb dX6_spread_24 rfl ?_
        refine lv_iload_n hx hb dX6_spread_25 rfl (lv_at hl 4 rfl) ?_
        refine vp_callSi (va_Run.run (va_runSN (As := [.long x2.toInt64, .int x3]) (rest := [.int x3, .ref (q 9)]) ⟨hx, hb, hml, hown, hts⟩ (c_X8_holds l x2.toInt64 x3 _ hw) ⟨va_cnB 2 hts ggX6_spread_X8_holds rfl rfl rfl (nm_RX6_27 hN) hi_RX8 (by decide +kernel) ⟨Nat.le_of_ble_eq_true rfl, Nat.le_of_ble_eq_true rfl⟩, hs_X8_holds, trivial⟩ (psS hN) rfl rfl hl.1 rfl (lv_room (Nat.le_of_ble_eq_true rfl)) dX6_spread_26 ⟨Nat.zero_le _, Nat.zero_le _⟩)) (fun r2 hw => ?_)
        refine lv_if_eq (tgt := 41) hx hb dX6_spread_29 (by decide) (fun hc => ?_) (fun hc => ?_)
        · have hw := hw.1 hc
          refine lv_lload hx hb dX6_spread_41 (lv_at hl 0 rfl) ?_
          refine J43 x1 x2 x3 x3 y1 u _ _ hw hP hD hS ls (lv_sub hl [1, 2, 3, 4] rfl) (fun y3 u4 H locs hw hP hD hS ls hl => ?_)
          exact ih y3 u4 _ _ hw hP hD hS ls (lv_sub hl [0, 1, 2, 3] rfl)
        · have hw := hw.2 hc
          refine lv_lload hx hb dX6_spread_32 (lv_at hl 0 rfl) ?_
          refine lv_lconst (v := 1) hx hb dX6_spread_34 (by decide) ?_
          refine lv_iload_n hx hb dX6_spread_35 rfl (lv_at hl 2 rfl) ?_
          refine lv_lshl (v := jshl 1 x1) hx hb dX6_spread_36 rfl ?_
          refine lv_lor hx hb dX6_spread_37 ?_
          refine lv_goto (tgt := 43) hx hb dX6_spread_38 (by decide) ?_
          refine J43 x1 x2 x3 x3 (y1 ||| (jshl 1 x1)) u _ _ hw hP hD hS ls (lv_sub hl [1, 2, 3, 4] rfl) (fun y5 u6 H locs hw hP hD hS ls hl => ?_)
          exact ih y5 u6 _ _ hw hP hD hS ls (lv_sub hl [0, 1, 2, 3] rfl)
  have hent := lg_entry_eq m ([.ref (q 9), .int x1, .int x2]) 6
  rw [← hargs] at hent
  rw [hent]
  have hl := lv_entry ([.ref (q 9), .int x1, .int x2]) (n := 6) (Nat.le_of_ble_eq_true rfl)
  generalize (lg_sl ([.ref (q 9), .int x1, .int x2]) ++ List.replicate (6 - (lg_sl ([.ref (q 9), .int x1, .int x2])).length) Slot.unset).toArray = ls at hl ⊢
  have hl : lv_has ls 6 [(0, .ref (q 9)), (1, .int x1), (2, .int x2)] := hl
  unfold wp_X6_spread_c9 at hw
  refine lv_iconst (v := 0) hx hb dX6_spread_0 (by decide) ?_
  refine lv_istore_n (lv' := [(3, .int 0), (0, .ref (q 9)), (1, .int x1), (2, .int x2)]) hx hb dX6_spread_1 rfl hl (by decide) rfl (fun ls hl => ?_)
  obtain ⟨nn, hw⟩ := hw
  refine L2 x1 x2 nn 0 u _ _ hw hP hD hS ls (lv_sub hl [1, 2, 3, 0] rfl)
set_option maxHeartbeats 4000000 in
set_option maxRecDepth 100000 in
theorem c_X6_spread_c10 (l : Launch) (D : va_G) (q : Nat → Nat) (cI cJ cZ : ClassId) (sz : Nat) (u : WU) (x1 : Int32) (x2 : Int32) (post : WU → Prop) (hw : wp_X6_spread_c10 x1 x2 u post) : Met l yX6_spread wsX6_spread rm_X6_spread (va_Pc [.ref (q 10), .int x1, .int x2] (MW D (ty3 cI cJ cZ) (wX q cI cJ cZ u) sz)) (va_Qv post (fun u' t => va_P D vwCl (wX q cI cJ cZ u') t.heap) (va_A (wX q cI cJ cZ u00) sz)) 0 0 (va_A (wX q cI cJ cZ u00) sz) := by
  refine Met.ofW (cc := cX6_spread) (maxL := 6) (ret := none) (by decide) rfl ?_
  intro p e s m args below meth c s₁ B hml hv
  obtain ⟨hargs, hsz, hP, hK, hD0, hN⟩ := hv
  have hx := B.exec
  have hb := B.bytes
  have hr := B.returns
  have hts := atoms_spec (ws := wsX6_spread) B.pre
  have hown : s.vm.findClass RX6 = some m.cls := findClass_of_methodNamed B.named
  have hlocks := B.notSynchronized
  subst hsz
  have hD := shw_self (sz := s.heap.size) (sh_wX q cI cJ cZ) hD0
  have hA : ∀ a : Nat, s.heap.size ≤ a → va_A (wX q cI cJ cZ u00) s.heap.size a := fun _ h => Or.inr h
  have hS : va_S (va_A (wX q cI cJ cZ u00) s.heap.size) s.heap s.heap [] := va_S.rf
  have hc25 := hts (.constantLong RX6 25 (-1)) (by decide +kernel)
  have hi_RX8 := hts (.initialized RX8) (by decide +kernel)
  have hs_X8_holds := hts (.static yX8_holds) (by decide +kernel)
  have J43 : ∀ {K2 : Int32 → WU → Prop} (x1 : Int32) (x2 : Int32) (x3 : Int32) (z1 : Int32) (z2 : Int64) (u : WU) (H : Heap) (locs : List Loc), wp_X6_spread_c10_J43 x1 x2 x3 z1 z2 u post K2 → va_P D vwCl (wX q cI cJ cZ u) H → va_D (va_A (wX q cI cJ cZ u00) s.heap.size) (wX q cI cJ cZ u) → va_S (va_A (wX q cI cJ cZ u00) s.heap.size) s.heap H locs → ∀ ls : Array Slot, lv_has ls 6 [(0, .ref (q 10)), (1, .int x1), (2, .int x2), (3, .int x3)] → (∀ (x3 : Int32) (u : WU) (H : Heap) (locs : List Loc), K2 x3 u → va_P D vwCl (wX q cI cJ cZ u) H → va_D (va_A (wX q cI cJ cZ u00) s.heap.size) (wX q cI cJ cZ u) → va_S (va_A (wX q cI cJ cZ u00) s.heap.size) s.heap H locs → ∀ ls : Array Slot, lv_has ls 6 [(0, .ref (q 10)), (1, .int x1), (2, .int x2), (3, .int x3)] → W p l e (headSpec wsX6_spread rm_X6_spread).room s m args below meth c H locs 0 0 (MQ below (va_Qv post (fun u' t => va_P D vwCl (wX q cI cJ cZ u') t.heap) (va_A (wX q cI cJ cZ u00) s.heap.size)) args s 0 0 (va_A (wX q cI cJ cZ u00) s.heap.size)) (F0 m 2 ls [])) → W p l e (headSpec wsX6_spread rm_X6_spread).room s m args below meth c H locs 0 0 (MQ below (va_Qv post (fun u' t => va_P D vwCl (wX q cI cJ cZ u') t.heap) (va_A (wX q cI cJ cZ u00) s.heap.size)) args s 0 0 (va_A (wX q cI cJ cZ u00) s.heap.size)) (F0 m 43 ls [.long z2, .int z1, .ref (q 10)]) := by
    intro K2 x1 x2 x3 z1 z2 u H locs hw hP hD hS ls hl k2
    unfold wp_X6_spread_c10_J43 at hw
    obtain ⟨hin, hw⟩ := hw
    refine sLast (w := wX q cI cJ cZ) hx hb hK hP hD hS 10 1 1 rfl rfl (wXa_10 q cI cJ cZ u) hin dX6_spread_43 (fun u7 H locs eu7 hP hD hS => ?_)
    have hw := hw u7 eu7
    obtain ⟨y8, ey8⟩ : ∃ z : Int32, z = x3 + 1 := ⟨_, rfl⟩
    have hw := hw y8 ey8
    refine lv_iinc (v := y8) (lv' := [(3, .int y8), (0, .ref (q 10)), (1, .int x1), (2, .int x2)]) hx hb dX6_spread_44 hl (k := 3) rfl (by rw [ey8]; rfl) (by decide) rfl (fun ls hl => ?_)
    refine lv_goto (tgt := 2) hx hb dX6_spread_47 (by decide) ?_
    exact k2 y8 u7 _ _ hw hP hD hS ls (lv_sub hl [1, 2, 3, 0] rfl)
  have L2 : ∀ (x1 : Int32) (x2 : Int32) (n : Nat) (x3 : Int32) (u : WU) (H : Heap) (locs : List Loc), wp_X6_spread_c10_L2 x1 x2 post n x3 u → va_P D vwCl (wX q cI cJ cZ u) H → va_D (va_A (wX q cI cJ cZ u00) s.heap.size) (wX q cI cJ cZ u) → va_S (va_A (wX q cI cJ cZ u00) s.heap.size) s.heap H locs → ∀ ls : Array Slot, lv_has ls 6 [(0, .ref (q 10)), (1, .int x1), (2, .int x2), (3, .int x3)] → W p l e (headSpec wsX6_spread rm_X6_spread).room s m args below meth c H locs 0 0 (MQ below (va_Qv post (fun u' t => va_P D vwCl (wX q cI cJ cZ u') t.heap) (va_A (wX q cI cJ cZ u00) s.heap.size)) args s 0 0 (va_A (wX q cI cJ cZ u00) s.heap.size)) (F0 m 2 ls []) := by
    intro x1 x2 n
    induction n with
    | zero =>
      intro x3 u H locs hw
      exact hw.elim
    | succ n ih =>
      intro x3 u H locs hw hP hD hS ls hl 
      unfold wp_X6_spread_c10_L2 at hw
      refine lv_iload_n hx hb dX6_spread_2 rfl (lv_at hl 3 rfl) ?_
      refine lv_aload_n hx hb dX6_spread_3 rfl (lv_at hl 0 rfl) ?_
      refine va_alen hx hb hK hP 10 1 rfl rfl (v := 4) rfl dX6_spread_4 ?_
      refine lv_icmp_ge (tgt := 50) hx hb dX6_spread_5 (by decide) (fun hc => ?_) (fun hc => ?_)
      · have hw := hw.1 hc
        exact W.vret hx hb hr (fun t ht hW => ⟨⟨u, rfl, hw, by show va_P D vwCl _ t.heap; rw [ht]; exact hP⟩, hS.F ht⟩) hS.2.2 dX6_spread_50
      · have hw := hw.2 hc
        refine lv_aload_n hx hb dX6_spread_8 rfl (lv_at hl 0 rfl) ?_
        refine lv_iload_n hx hb dX6_spread_9 rfl (lv_at hl 3 rfl) ?_
        obtain ⟨hin, hw⟩ := hw
        refine va_lald hx hb hK hP 10 1 rfl rfl hin dX6_spread_10 ?_
        refine lv_lconst (v := 1) hx hb dX6_spread_11 (by decide) ?_
        refine lv_iload_n hx hb dX6_spread_12 rfl (lv_at hl 1 rfl) ?_
        refine lv_lshl (v := jshl 1 x1) hx hb dX6_spread_13 rfl ?_
        refine lv_ldc2 (v := (-1)) hx hb hown hc25 dX6_spread_14 ?_
        refine lv_lxor hx hb dX6_spread_17 ?_
        refine lv_land hx hb dX6_spread_18 ?_
        refine lv_topl (fun y1 ey1 => ?_)
        have hw := hw y1 ey1
        refine lv_lstore (lv' := [(4, .long y1), (0, .ref (q 10)), (1, .int x1), (2, .int x2), (3, .int x3)]) hx hb dX6_spread_19 hl (by decide) rfl (fun ls hl => ?_)
        refine lv_aload_n hx hb dX6_spread_21 rfl (lv_at hl 1 rfl) ?_
        refine lv_iload_n hx hb dX6_spread_22 rfl (lv_at hl 4 rfl) ?_
        refine lv_iload_n hx hb dX6_spread_23 rfl (lv_at hl 3 rfl) ?_
        refine lv_i2l (v := x2.toInt64) hx hb dX6_spread_24 rfl ?_
        refine lv_iload_n hx hb dX6_spread_25 rfl (lv_at hl 4 rfl) ?_
        refine vp_callSi (va_Run.run (va_runSN (As := [.long x2.toInt64, .int x3]) (rest := [.int x3, .ref (q 10)]) ⟨hx, hb, hml, hown, hts⟩ (c_X8_holds l x2.toInt64 x3 _ hw) ⟨va_cnB 2 hts ggX6_spread_X8_holds rfl rfl rfl (nm_RX6_27 hN) hi_RX8 (by decide +kernel) ⟨Nat.le_of_ble_eq_true rfl, Nat.le_of_ble_eq_true rfl⟩, hs_X8_holds, trivial⟩ (psS hN) rfl rfl hl.1 rfl (lv_room (Nat.le_of_ble_eq_true rfl)) dX6_spread_26 ⟨Nat.zero_le _, Nat.zero_le _⟩)) (fun r2 hw => ?_)
        refine lv_if_eq (tgt := 41) hx hb dX6_spread_29 (by decide) (fun hc => ?_) (fun hc => ?_)
        · have hw := hw.1 hc
          refine lv_lload hx hb dX6_spread_41 (lv_at hl 0 rfl) ?_
          refine J43 x1 x2 x3 x3 y1 u _ _ hw hP hD hS ls (lv_sub hl [1, 2, 3, 4] rfl) (fun y3 u4 H locs hw hP hD hS ls hl => ?_)
          exact ih y3 u4 _ _ hw hP hD hS ls (lv_sub hl [0, 1, 2, 3] rfl)
        · have hw := hw.2 hc
          refine lv_lload hx hb dX6_spread_32 (lv_at hl 0 rfl) ?_
          refine lv_lconst (v := 1) hx hb dX6_spread_34 (by decide) ?_
          refine lv_iload_n hx hb dX6_spread_35 rfl (lv_at hl 2 rfl) ?_
          refine lv_lshl (v := jshl 1 x1) hx hb dX6_spread_36 rfl ?_
          refine lv_lor hx hb dX6_spread_37 ?_
          refine lv_goto (tgt := 43) hx hb dX6_spread_38 (by decide) ?_
          refine J43 x1 x2 x3 x3 (y1 ||| (jshl 1 x1)) u _ _ hw hP hD hS ls (lv_sub hl [1, 2, 3, 4] rfl) (fun y5 u6 H locs hw hP hD hS ls hl => ?_)
          exact ih y5 u6 _ _ hw hP hD hS ls (lv_sub hl [0, 1, 2, 3] rfl)
  have hent := lg_entry_eq m ([.ref (q 10), .int x1, .int x2]) 6
  rw [← hargs] at hent
  rw [hent]
  have hl := lv_entry ([.ref (q 10), .int x1, .int x2]) (n := 6) (Nat.le_of_ble_eq_true rfl)
  generalize (lg_sl ([.ref (q 10), .int x1, .int x2]) ++ List.replicate (6 - (lg_sl ([.ref (q 10), .int x1, .int x2])).length) Slot.unset).toArray = ls at hl ⊢
  have hl : lv_has ls 6 [(0, .ref (q 10)), (1, .int x1), (2, .int x2)] := hl
  unfold wp_X6_spread_c10 at hw
  refine lv_iconst (v := 0) hx hb dX6_spread_0 (by decide) ?_
  refine lv_istore_n (lv' := [(3, .int 0), (0, .ref (q 10)), (1, .int x1), (2, .int x2)]) hx hb dX6_spread_1 rfl hl (by decide) rfl (fun ls hl => ?_)
  obtain ⟨nn, hw⟩ := hw
  refine L2 x1 x2 nn 0 u _ _ hw hP hD hS ls (lv_sub hl [1, 2, 3, 0] rfl)
set_option maxHeartbeats 4000000 in
set_option maxRecDepth 100000 in
theorem c_X6_tellAsk (l : Launch) (D : va_G) (q : Nat → Nat) (cI cJ cZ : ClassId) (sz : Nat) (u : WU) (x1 : Int32) (x2 : Int32) (x3 : Int32) (post : WU → Prop) (hw : wp_X6_tellAsk x1 x2 x3 u post) : Met l yX6_tellAsk wsX6_tellAsk rm_X6_tellAsk (va_Pc [.ref (q 1), .int x1, .int x2, .int x3] (MW D (ty3 cI cJ cZ) (wX q cI cJ cZ u) sz)) (va_Qv post (fun u' t => va_P D vwCl (wX q cI cJ cZ u') t.heap) (va_A (wX q cI cJ cZ u00) sz)) 0 0 (va_A (wX q cI cJ cZ u00) sz) := by
  refine Met.ofW (cc := cX6_tellAsk) (maxL := 4) (ret := none) (by decide) rfl ?_
  intro p e s m args below meth c s₁ B hml hv
  obtain ⟨hargs, hsz, hP, hK, hD0, hN⟩ := hv
  have hx := B.exec
  have hb := B.bytes
  have hr := B.returns
  have hts := atoms_spec (ws := wsX6_tellAsk) B.pre
  have hown : s.vm.findClass RX6 = some m.cls := findClass_of_methodNamed B.named
  have hlocks := B.notSynchronized
  subst hsz
  have hD := shw_self (sz := s.heap.size) (sh_wX q cI cJ cZ) hD0
  have hA : ∀ a : Nat, s.heap.size ≤ a → va_A (wX q cI cJ cZ u00) s.heap.size a := fun _ h => Or.inr h
  have hS : va_S (va_A (wX q cI cJ cZ u00) s.heap.size) s.heap s.heap [] := va_S.rf
  have hiX6 : ∀ w ∈ u_ws RX6 TX6 3, w ∈ wsX6_tellAsk := by decide +kernel
  have hf15 := hts (.fieldLink RX6 15 "TermsDesk$Terms" "along" "[J") (by decide +kernel)
  have hf9 := hts (.fieldLink RX6 9 "TermsDesk$Terms" "asked" "[J") (by decide +kernel)
  have hent := lg_entry_eq m ([.ref (q 1), .int x1, .int x2, .int x3]) 4
  rw [← hargs] at hent
  rw [hent]
  have hl := lv_entry ([.ref (q 1), .int x1, .int x2, .int x3]) (n := 4) (Nat.le_of_ble_eq_true rfl)
  generalize (lg_sl ([.ref (q 1), .int x1, .int x2, .int x3]) ++ List.replicate (4 - (lg_sl ([.ref (q 1), .int x1, .int x2, .int x3])).length) Slot.unset).toArray = ls at hl ⊢
  have hl : lv_has ls 4 [(0, .ref (q 1)), (1, .int x1), (2, .int x2), (3, .int x3)] := hl
  unfold wp_X6_tellAsk at hw
  refine lv_aload_n hx hb dX6_tellAsk_0 rfl (lv_at hl 0 rfl) ?_
  refine va_get (D := D) (ci := 6) (v := .ref (q 9)) (C := RX6) (T := TX6) (N := 3) hx hb hts hiX6 hown hK hP 1 rfl rfl 0 (by decide) hf9 (fun _ h9 => h9) rfl dX6_tellAsk_1 ?_
  refine lv_iload_n hx hb dX6_tellAsk_4 rfl (lv_at hl 1 rfl) ?_
  refine lv_iload_n hx hb dX6_tellAsk_5 rfl (lv_at hl 2 rfl) ?_
  refine cMv (sh_wX q cI cJ cZ) (u := u) (va_runS (As := [.ref (q 9), .int x1, .int x2]) (rest := []) ⟨hx, hb, hml, hown, hts⟩ (c_X6_spread_c9 l D q cI cJ cZ _ u x1 x2 _ hw) (va_cwS 3 hts gX6_tellAsk_X6_spread rfl rfl rfl (by decide +kernel) ⟨Nat.le_of_ble_eq_true rfl, Nat.le_of_ble_eq_true rfl⟩) (psM hK hP hD hN) rfl rfl hl.1 rfl (lv_room (Nat.le_of_ble_eq_true rfl)) dX6_tellAsk_6 ⟨Nat.zero_le _, Nat.zero_le _⟩) hA hD hS (fun u1 H locs hw hP hD hS => ?_)
  refine lv_aload_n hx hb dX6_tellAsk_9 rfl (lv_at hl 0 rfl) ?_
  refine va_get (D := D) (ci := 6) (v := .ref (q 10)) (C := RX6) (T := TX6) (N := 3) hx hb hts hiX6 hown hK hP 1 rfl rfl 1 (by decide) hf15 (fun _ h9 => h9) rfl dX6_tellAsk_10 ?_
  refine lv_iload_n hx hb dX6_tellAsk_13 rfl (lv_at hl 1 rfl) ?_
  refine lv_iload_n hx hb dX6_tellAsk_14 rfl (lv_at hl 3 rfl) ?_
  refine cMv (sh_wX q cI cJ cZ) (u := u1) (va_runS (As := [.ref (q 10), .int x1, .int x3]) (rest := []) ⟨hx, hb, hml, hown, hts⟩ (c_X6_spread_c10 l D q cI cJ cZ _ u1 x1 x3 _ hw) (va_cwS 3 hts gX6_tellAsk_X6_spread rfl rfl rfl (by decide +kernel) ⟨Nat.le_of_ble_eq_true rfl, Nat.le_of_ble_eq_true rfl⟩) (psM hK hP hD hN) rfl rfl hl.1 rfl (lv_room (Nat.le_of_ble_eq_true rfl)) dX6_tellAsk_15 ⟨Nat.zero_le _, Nat.zero_le _⟩) hA hD hS (fun u2 H locs hw hP hD hS => ?_)
  exact W.vret hx hb hr (fun t ht hW => ⟨⟨u2, rfl, hw, by show va_P D vwCl _ t.heap; rw [ht]; exact hP⟩, hS.F ht⟩) hS.2.2 dX6_tellAsk_18
set_option maxHeartbeats 4000000 in
set_option maxRecDepth 100000 in
theorem c_X8_asks (l : Launch) (D : va_G) (q : Nat → Nat) (cI cJ cZ : ClassId) (sz : Nat) (u : WU) (x1 : Int32) (x2 : Int32) (x3 : Int32) (x4 : Int32) (post : Int32 → WU → Prop) (hw : wp_X8_asks x1 x2 x3 x4 u post) : Met l yX8_asks wsX8_asks rm_X8_asks (va_Pc [.ref (q 0), .int x1, .int x2, .int x3, .int x4] (MW D (ty3 cI cJ cZ) (wX q cI cJ cZ u) sz)) (va_Qi post (fun u' t => va_P D vwCl (wX q cI cJ cZ u') t.heap) (va_A (wX q cI cJ cZ u00) sz)) 0 0 (va_A (wX q cI cJ cZ u00) sz) := by
  refine Met.ofW (cc := cX8_asks) (maxL := 5) (ret := (some .boolean)) (by decide) rfl ?_
  intro p e s m args below meth c s₁ B hml hv
  obtain ⟨hargs, hsz, hP, hK, hD0, hN⟩ := hv
  have hx := B.exec
  have hb := B.bytes
  have hr := B.returns
  have hts := atoms_spec (ws := wsX8_asks) B.pre
  have hown : s.vm.findClass RX8 = some m.cls := findClass_of_methodNamed B.named
  have hlocks := B.notSynchronized
  subst hsz
  have hD := shw_self (sz := s.heap.size) (sh_wX q cI cJ cZ) hD0
  have hA : ∀ a : Nat, s.heap.size ≤ a → va_A (wX q cI cJ cZ u00) s.heap.size a := fun _ h => Or.inr h
  have hS : va_S (va_A (wX q cI cJ cZ u00) s.heap.size) s.heap s.heap [] := va_S.rf
  have hiX8 : ∀ w ∈ u_ws RX8 TX8 8, w ∈ wsX8_asks := by decide +kernel
  have hf10 := hts (.fieldLink RX8 10 "TermsDesk" "terms" "LTermsDesk$Terms;") (by decide +kernel)
  have hent := lg_entry_eq m ([.ref (q 0), .int x1, .int x2, .int x3, .int x4]) 5
  rw [← hargs] at hent
  rw [hent]
  have hl := lv_entry ([.ref (q 0), .int x1, .int x2, .int x3, .int x4]) (n := 5) (Nat.le_of_ble_eq_true rfl)
  generalize (lg_sl ([.ref (q 0), .int x1, .int x2, .int x3, .int x4]) ++ List.replicate (5 - (lg_sl ([.ref (q 0), .int x1, .int x2, .int x3, .int x4])).length) Slot.unset).toArray = ls at hl ⊢
  have hl : lv_has ls 5 [(0, .ref (q 0)), (1, .int x1), (2, .int x2), (3, .int x3), (4, .int x4)] := hl
  unfold wp_X8_asks at hw
  refine lv_iload_n hx hb dX8_asks_0 rfl (lv_at hl 1 rfl) ?_
  refine lv_iload_n hx hb dX8_asks_1 rfl (lv_at hl 2 rfl) ?_
  refine vp_callSi (va_Run.run (va_runS (As := [.int x1, .int x2]) (rest := []) ⟨hx, hb, hml, hown, hts⟩ (c_X8_isPair l x1 x2 _ hw) (va_cwS 2 hts gX8_asks_X8_isPair rfl rfl rfl (by decide +kernel) ⟨Nat.le_of_ble_eq_true rfl, Nat.le_of_ble_eq_true rfl⟩) (psS hN) rfl rfl hl.1 rfl (lv_room (Nat.le_of_ble_eq_true rfl)) dX8_asks_2 ⟨Nat.zero_le _, Nat.zero_le _⟩)) (fun r1 hw => ?_)
  refine lv_if_eq (tgt := 27) hx hb dX8_asks_5 (by decide) (fun hc => ?_) (fun hc => ?_)
  · have hw := hw.1 hc
    refine lv_iconst (v := 0) hx hb dX8_asks_27 (by decide) ?_
    exact W.zret (v := 0) hx hb hr rfl (fun t ht hW => ⟨⟨0, u, rfl, hw, by show va_P D vwCl _ t.heap; rw [ht]; exact hP⟩, hS.F ht⟩) hS.2.2 dX8_asks_28
  · have hw := hw.2 hc
    refine lv_iload_n hx hb dX8_asks_8 rfl (lv_at hl 3 rfl) ?_
    refine lv_bipush (v := 16) hx hb dX8_asks_9 (by decide) ?_
    refine vp_callSi (va_Run.run (va_runS (As := [.int x3, .int 16]) (rest := []) ⟨hx, hb, hml, hown, hts⟩ (c_X8_within l x3 16 _ hw) (va_cwS 2 hts gX8_asks_X8_within rfl rfl rfl (by decide +kernel) ⟨Nat.le_of_ble_eq_true rfl, Nat.le_of_ble_eq_true rfl⟩) (psS hN) rfl rfl hl.1 rfl (lv_room (Nat.le_of_ble_eq_true rfl)) dX8_asks_11 ⟨Nat.zero_le _, Nat.zero_le _⟩)) (fun r2 hw => ?_)
    refine lv_if_eq (tgt := 27) hx hb dX8_asks_14 (by decide) (fun hc => ?_) (fun hc => ?_)
    · have hw := hw.1 hc
      refine lv_iconst (v := 0) hx hb dX8_asks_27 (by decide) ?_
      exact W.zret (v := 0) hx hb hr rfl (fun t ht hW => ⟨⟨0, u, rfl, hw, by show va_P D vwCl _ t.heap; rw [ht]; exact hP⟩, hS.F ht⟩) hS.2.2 dX8_asks_28
    · have hw := hw.2 hc
      refine lv_iload hx hb dX8_asks_17 (lv_at hl 4 rfl) ?_
      refine lv_bipush (v := 16) hx hb dX8_asks_19 (by decide) ?_
      refine vp_callSi (va_Run.run (va_runS (As := [.int x4, .int 16]) (rest := []) ⟨hx, hb, hml, hown, hts⟩ (c_X8_within l x4 16 _ hw) (va_cwS 2 hts gX8_asks_X8_within rfl rfl rfl (by decide +kernel) ⟨Nat.le_of_ble_eq_true rfl, Nat.le_of_ble_eq_true rfl⟩) (psS hN) rfl rfl hl.1 rfl (lv_room (Nat.le_of_ble_eq_true rfl)) dX8_asks_21 ⟨Nat.zero_le _, Nat.zero_le _⟩)) (fun r3 hw => ?_)
      refine lv_if_ne (tgt := 29) hx hb dX8_asks_24 (by decide) (fun hc => ?_) (fun hc => ?_)
      · have hw := hw.1 hc
        refine lv_aload_n hx hb dX8_asks_29 rfl (lv_at hl 0 rfl) ?_
        refine va_get (D := D) (ci := 8) (v := .ref (q 1)) (C := RX8) (T := TX8) (N := 8) hx hb hts hiX8 hown hK hP 0 rfl rfl 0 (by decide) hf10 (fun _ h9 => h9) rfl dX8_asks_30 ?_
        refine lv_iload_n hx hb dX8_asks_33 rfl (lv_at hl 1 rfl) ?_
        refine lv_iload_n hx hb dX8_asks_34 rfl (lv_at hl 2 rfl) ?_
        refine vp_callSi (va_Run.run (va_runS (As := [.int x1, .int x2]) (rest := [.ref (q 1)]) ⟨hx, hb, hml, hown, hts⟩ (c_X8_pairOf l x1 x2 _ hw) (va_cwS 2 hts gX8_asks_X8_pairOf rfl rfl rfl (by decide +kernel) ⟨Nat.le_of_ble_eq_true rfl, Nat.le_of_ble_eq_true rfl⟩) (psS hN) rfl rfl hl.1 rfl (lv_room (Nat.le_of_ble_eq_true rfl)) dX8_asks_35 ⟨Nat.zero_le _, Nat.zero_le _⟩)) (fun r4 hw => ?_)
        refine lv_iload_n hx hb dX8_asks_38 rfl (lv_at hl 3 rfl) ?_
        refine lv_iload hx hb dX8_asks_39 (lv_at hl 4 rfl) ?_
        refine cMv (sh_wX q cI cJ cZ) (u := u) (va_runV (As := [.int r4, .int x3, .int x4]) (rest := []) ⟨hx, hb, hml, hown, hts⟩ (c_X6_tellAsk l D q cI cJ cZ _ u r4 x3 x4 _ hw) (cwV 3 hts gX8_asks_X6_tellAsk rfl rfl rfl (by decide +kernel) ⟨Nat.le_of_ble_eq_true rfl, Nat.le_of_ble_eq_true rfl⟩) (pvM (va_recv hK hP (ci := 6) (q0 := 1) (q := (RX6, TX6, 3)) rfl rfl) hK hP hD hN) rfl rfl hl.1 rfl (lv_room (Nat.le_of_ble_eq_true rfl)) dX8_asks_41 ⟨Nat.zero_le _, Nat.zero_le _⟩) hA hD hS (fun u5 H locs hw hP hD hS => ?_)
        refine lv_iconst (v := 1) hx hb dX8_asks_44 (by decide) ?_
        exact W.zret (v := 1) hx hb hr rfl (fun t ht hW => ⟨⟨1, u5, rfl, hw, by show va_P D vwCl _ t.heap; rw [ht]; exact hP⟩, hS.F ht⟩) hS.2.2 dX8_asks_45
      · have hw := hw.2 hc
        refine lv_iconst (v := 0) hx hb dX8_asks_27 (by decide) ?_
        exact W.zret (v := 0) hx hb hr rfl (fun t ht hW => ⟨⟨0, u, rfl, hw, by show va_P D vwCl _ t.heap; rw [ht]; exact hP⟩, hS.F ht⟩) hS.2.2 dX8_asks_28
set_option maxHeartbeats 4000000 in
set_option maxRecDepth 100000 in
theorem c_X9_bit (l : Launch) (x0 : Int32) (x1 : Int32) (post : Int64 → Prop) (hw : wp_X9_bit x0 x1 post) : Met l yX9_bit wsX9_bit rm_X9_bit (va_Pc [.int x0, .int x1] NW) (vp_Sl post) 0 0 (fun _ => False) := by
  refine Met.ofW (cc := cX9_bit) (maxL := 2) (ret := (some .long)) (by decide) rfl ?_
  intro p e s m args below meth c s₁ B hml hv
  obtain ⟨hargs, hN⟩ := hv
  have hx := B.exec
  have hb := B.bytes
  have hr := B.returns
  have hts := atoms_spec (ws := wsX9_bit) B.pre
  have hown : s.vm.findClass RX9 = some m.cls := findClass_of_methodNamed B.named
  have hlocks := B.notSynchronized
  have hent := lg_entry_eq m ([.int x0, .int x1]) 2
  rw [← hargs] at hent
  rw [hent]
  have hl := lv_entry ([.int x0, .int x1]) (n := 2) (Nat.le_of_ble_eq_true rfl)
  generalize (lg_sl ([.int x0, .int x1]) ++ List.replicate (2 - (lg_sl ([.int x0, .int x1])).length) Slot.unset).toArray = ls at hl ⊢
  have hl : lv_has ls 2 [(0, .int x0), (1, .int x1)] := hl
  unfold wp_X9_bit at hw
  refine lv_lconst (v := 1) hx hb dX9_bit_0 (by decide) ?_
  refine lv_bipush (v := 8) hx hb dX9_bit_1 (by decide) ?_
  refine lv_iload_n hx hb dX9_bit_3 rfl (lv_at hl 0 rfl) ?_
  refine lv_imul hx hb dX9_bit_4 ?_
  refine lv_iload_n hx hb dX9_bit_5 rfl (lv_at hl 1 rfl) ?_
  refine lv_iadd hx hb dX9_bit_6 ?_
  refine lv_lshl (v := jshl 1 ((8 * x0) + x1)) hx hb dX9_bit_7 rfl ?_
  exact W.lret (v := jshl 1 ((8 * x0) + x1)) hx hb hr (fun t ht hW => ⟨jshl 1 ((8 * x0) + x1), rfl, hw, ht⟩) (fun _ h => by cases h) dX9_bit_8
set_option maxHeartbeats 4000000 in
set_option maxRecDepth 100000 in
theorem c_X9_lies (l : Launch) (x0 : Int32) (x1 : Int32) (x2 : Int32) (post : Int32 → Prop) (hw : wp_X9_lies x0 x1 x2 post) : Met l yX9_lies wsX9_lies rm_X9_lies (va_Pc [.int x0, .int x1, .int x2] NW) (vp_Si post) 0 0 (fun _ => False) := by
  refine Met.ofW (cc := cX9_lies) (maxL := 3) (ret := (some .boolean)) (by decide) rfl ?_
  intro p e s m args below meth c s₁ B hml hv
  obtain ⟨hargs, hN⟩ := hv
  have hx := B.exec
  have hb := B.bytes
  have hr := B.returns
  have hts := atoms_spec (ws := wsX9_lies) B.pre
  have hown : s.vm.findClass RX9 = some m.cls := findClass_of_methodNamed B.named
  have hlocks := B.notSynchronized
  have hent := lg_entry_eq m ([.int x0, .int x1, .int x2]) 3
  rw [← hargs] at hent
  rw [hent]
  have hl := lv_entry ([.int x0, .int x1, .int x2]) (n := 3) (Nat.le_of_ble_eq_true rfl)
  generalize (lg_sl ([.int x0, .int x1, .int x2]) ++ List.replicate (3 - (lg_sl ([.int x0, .int x1, .int x2])).length) Slot.unset).toArray = ls at hl ⊢
  have hl : lv_has ls 3 [(0, .int x0), (1, .int x1), (2, .int x2)] := hl
  unfold wp_X9_lies at hw
  refine lv_iload_n hx hb dX9_lies_0 rfl (lv_at hl 0 rfl) ?_
  refine lv_iload_n hx hb dX9_lies_1 rfl (lv_at hl 1 rfl) ?_
  refine lv_icmp_lt (tgt := 14) hx hb dX9_lies_2 (by decide) (fun hc => ?_) (fun hc => ?_)
  · have hw := hw.1 hc
    refine lv_iconst (v := 0) hx hb dX9_lies_14 (by decide) ?_
    exact W.zret (v := 0) hx hb hr rfl (fun t ht hW => ⟨0, rfl, hw, ht⟩) (fun _ h => by cases h) dX9_lies_15
  · have hw := hw.2 hc
    refine lv_iload_n hx hb dX9_lies_5 rfl (lv_at hl 0 rfl) ?_
    refine lv_iload_n hx hb dX9_lies_6 rfl (lv_at hl 2 rfl) ?_
    refine lv_icmp_gt (tgt := 14) hx hb dX9_lies_7 (by decide) (fun hc => ?_) (fun hc => ?_)
    · have hw := hw.1 hc
      refine lv_iconst (v := 0) hx hb dX9_lies_14 (by decide) ?_
      exact W.zret (v := 0) hx hb hr rfl (fun t ht hW => ⟨0, rfl, hw, ht⟩) (fun _ h => by cases h) dX9_lies_15
    · have hw := hw.2 hc
      refine lv_iconst (v := 1) hx hb dX9_lies_10 (by decide) ?_
      refine lv_goto (tgt := 15) hx hb dX9_lies_11 (by decide) ?_
      exact W.zret (v := 1) hx hb hr rfl (fun t ht hW => ⟨1, rfl, hw, ht⟩) (fun _ h => by cases h) dX9_lies_15
set_option maxHeartbeats 4000000 in
set_option maxRecDepth 100000 in
theorem c_X9_isLicence (l : Launch) (x0 : Int32) (post : Int32 → Prop) (hw : wp_X9_isLicence x0 post) : Met l yX9_isLicence wsX9_isLicence rm_X9_isLicence (va_Pc [.int x0] NW) (vp_Si post) 0 0 (fun _ => False) := by
  refine Met.ofW (cc := cX9_isLicence) (maxL := 1) (ret := (some .boolean)) (by decide) rfl ?_
  intro p e s m args below meth c s₁ B hml hv
  obtain ⟨hargs, hN⟩ := hv
  have hx := B.exec
  have hb := B.bytes
  have hr := B.returns
  have hts := atoms_spec (ws := wsX9_isLicence) B.pre
  have hown : s.vm.findClass RX9 = some m.cls := findClass_of_methodNamed B.named
  have hlocks := B.notSynchronized
  have hent := lg_entry_eq m ([.int x0]) 1
  rw [← hargs] at hent
  rw [hent]
  have hl := lv_entry ([.int x0]) (n := 1) (Nat.le_of_ble_eq_true rfl)
  generalize (lg_sl ([.int x0]) ++ List.replicate (1 - (lg_sl ([.int x0])).length) Slot.unset).toArray = ls at hl ⊢
  have hl : lv_has ls 1 [(0, .int x0)] := hl
  unfold wp_X9_isLicence at hw
  refine lv_iload_n hx hb dX9_isLicence_0 rfl (lv_at hl 0 rfl) ?_
  refine lv_iconst (v := 0) hx hb dX9_isLicence_1 (by decide) ?_
  refine lv_bipush (v := 7) hx hb dX9_isLicence_2 (by decide) ?_
  refine vp_callSi (va_Run.run (va_runS (As := [.int x0, .int 0, .int 7]) (rest := []) ⟨hx, hb, hml, hown, hts⟩ (c_X9_lies l x0 0 7 _ hw) (va_cwS 3 hts gX9_isLicence_X9_lies rfl rfl rfl (by decide +kernel) ⟨Nat.le_of_ble_eq_true rfl, Nat.le_of_ble_eq_true rfl⟩) (psS hN) rfl rfl hl.1 rfl (lv_room (Nat.le_of_ble_eq_true rfl)) dX9_isLicence_4 ⟨Nat.zero_le _, Nat.zero_le _⟩)) (fun r1 hw => ?_)
  obtain ⟨hn, hw⟩ := hw
  exact W.zret (v := r1) hx hb hr hn (fun t ht hW => ⟨r1, rfl, hw, ht⟩) (fun _ h => by cases h) dX9_isLicence_7
set_option maxHeartbeats 4000000 in
set_option maxRecDepth 100000 in
theorem c_X9_asks (l : Launch) (D : va_G) (q : Nat → Nat) (cI cJ cZ : ClassId) (sz : Nat) (u : WU) (x1 : Int32) (x2 : Int32) (x3 : Int32) (x4 : Int32) (post : Int32 → WU → Prop) (hw : wp_X9_asks x1 x2 x3 x4 u post) : Met l yX9_asks wsX9_asks rm_X9_asks (va_Pc [.ref (q 0), .int x1, .int x2, .int x3, .int x4] (MW D (ty3 cI cJ cZ) (wM q cI cJ cZ u) sz)) (va_Qi post (fun u' t => va_P D vwCl (wM q cI cJ cZ u') t.heap) (va_A (wM q cI cJ cZ u00) sz)) 0 0 (va_A (wM q cI cJ cZ u00) sz) := by
  refine Met.ofW (cc := cX9_asks) (maxL := 6) (ret := (some .boolean)) (by decide) rfl ?_
  intro p e s m args below meth c s₁ B hml hv
  obtain ⟨hargs, hsz, hP, hK, hD0, hN⟩ := hv
  have hx := B.exec
  have hb := B.bytes
  have hr := B.returns
  have hts := atoms_spec (ws := wsX9_asks) B.pre
  have hown : s.vm.findClass RX9 = some m.cls := findClass_of_methodNamed B.named
  have hlocks := B.notSynchronized
  subst hsz
  have hD := shw_self (sz := s.heap.size) (sh_wM q cI cJ cZ) hD0
  have hA : ∀ a : Nat, s.heap.size ≤ a → va_A (wM q cI cJ cZ u00) s.heap.size a := fun _ h => Or.inr h
  have hS : va_S (va_A (wM q cI cJ cZ u00) s.heap.size) s.heap s.heap [] := va_S.rf
  have hiX9 : ∀ w ∈ u_ws RX9 TX9 30, w ∈ wsX9_asks := by decide +kernel
  have hc103 := hts (.constantLong RX9 103 (-1)) (by decide +kernel)
  have hf13 := hts (.fieldLink RX9 13 "TermsDeskModel" "along" "[J") (by decide +kernel)
  have hf7 := hts (.fieldLink RX9 7 "TermsDeskModel" "asked" "[I") (by decide +kernel)
  have J140 : ∀ {K43 : Int32 → WU → Prop} (x1 : Int32) (x2 : Int32) (x3 : Int32) (x4 : Int32) (x5 : Int32) (u : WU) (H : Heap) (locs : List Loc), wp_X9_asks_J140 x1 x2 x3 x4 x5 u post K43 → va_P D vwCl (wM q cI cJ cZ u) H → va_D (va_A (wM q cI cJ cZ u00) s.heap.size) (wM q cI cJ cZ u) → va_S (va_A (wM q cI cJ cZ u00) s.heap.size) s.heap H locs → ∀ ls : Array Slot, lv_has ls 6 [(0, .ref (q 0)), (1, .int x1), (2, .int x2), (3, .int x3), (4, .int x4), (5, .int x5)] → (∀ (x5 : Int32) (u : WU) (H : Heap) (locs : List Loc), K43 x5 u → va_P D vwCl (wM q cI cJ cZ u) H → va_D (va_A (wM q cI cJ cZ u00) s.heap.size) (wM q cI cJ cZ u) → va_S (va_A (wM q cI cJ cZ u00) s.heap.size) s.heap H locs → ∀ ls : Array Slot, lv_has ls 6 [(0, .ref (q 0)), (1, .int x1), (2, .int x2), (3, .int x3), (4, .int x4), (5, .int x5)] → W p l e (headSpec wsX9_asks rm_X9_asks).room s m args below meth c H locs 0 0 (MQ below (va_Qi post (fun u' t => va_P D vwCl (wM q cI cJ cZ u') t.heap) (va_A (wM q cI cJ cZ u00) s.heap.size)) args s 0 0 (va_A (wM q cI cJ cZ u00) s.heap.size)) (F0 m 43 ls [])) → W p l e (headSpec wsX9_asks rm_X9_asks).room s m args below meth c H locs 0 0 (MQ below (va_Qi post (fun u' t => va_P D vwCl (wM q cI cJ cZ u') t.heap) (va_A (wM q cI cJ cZ u00) s.heap.size)) args s 0 0 (va_A (wM q cI cJ cZ u00) s.heap.size)) (F0 m 140 ls []) := by
    intro K43 x1 x2 x3 x4 x5 u H locs hw hP hD hS ls hl k43
    unfold wp_X9_asks_J140 at hw
    obtain ⟨y15, ey15⟩ : ∃ z : Int32, z = x5 + 1 := ⟨_, rfl⟩
    have hw := hw y15 ey15
    refine lv_iinc (v := y15) (lv' := [(5, .int y15), (0, .ref (q 0)), (1, .int x1), (2, .int x2), (3, .int x3), (4, .int x4)]) hx hb dX9_asks_140 hl (k := 5) rfl (by rw [ey15]; rfl) (by decide) rfl (fun ls hl => ?_)
    refine lv_goto (tgt := 43) hx hb dX9_asks_143 (by decide) ?_
    exact k43 y15 u _ _ hw hP hD hS ls (lv_sub hl [1, 2, 3, 4, 5, 0] rfl)
  have J95 : ∀ {K43 : Int32 → WU → Prop} (x1 : Int32) (x2 : Int32) (x3 : Int32) (x4 : Int32) (x5 : Int32) (u : WU) (H : Heap) (locs : List Loc), wp_X9_asks_J95 x1 x2 x3 x4 x5 u post K43 → va_P D vwCl (wM q cI cJ cZ u) H → va_D (va_A (wM q cI cJ cZ u00) s.heap.size) (wM q cI cJ cZ u) → va_S (va_A (wM q cI cJ cZ u00) s.heap.size) s.heap H locs → ∀ ls : Array Slot, lv_has ls 6 [(0, .ref (q 0)), (1, .int x1), (2, .int x2), (3, .int x3), (4, .int x4), (5, .int x5)] → (∀ (x5 : Int32) (u : WU) (H : Heap) (locs : List Loc), K43 x5 u → va_P D vwCl (wM q cI cJ cZ u) H → va_D (va_A (wM q cI cJ cZ u00) s.heap.size) (wM q cI cJ cZ u) → va_S (va_A (wM q cI cJ cZ u00) s.heap.size) s.heap H locs → ∀ ls : Array Slot, lv_has ls 6 [(0, .ref (q 0)), (1, .int x1), (2, .int x2), (3, .int x3), (4, .int x4), (5, .int x5)] → W p l e (headSpec wsX9_asks rm_X9_asks).room s m args below meth c H locs 0 0 (MQ below (va_Qi post (fun u' t => va_P D vwCl (wM q cI cJ cZ u') t.heap) (va_A (wM q cI cJ cZ u00) s.heap.size)) args s 0 0 (va_A (wM q cI cJ cZ u00) s.heap.size)) (F0 m 43 ls [])) → W p l e (headSpec wsX9_asks rm_X9_asks).room s m args below meth c H locs 0 0 (MQ below (va_Qi post (fun u' t => va_P D vwCl (wM q cI cJ cZ u') t.heap) (va_A (wM q cI cJ cZ u00) s.heap.size)) args s 0 0 (va_A (wM q cI cJ cZ u00) s.heap.size)) (F0 m 95 ls []) := by
    intro K43 x1 x2 x3 x4 x5 u H locs hw hP hD hS ls hl k43
    unfold wp_X9_asks_J95 at hw
    refine lv_aload_n hx hb dX9_asks_95 rfl (lv_at hl 0 rfl) ?_
    refine va_get (D := D) (ci := 9) (v := .ref (q 2)) (C := RX9) (T := TX9) (N := 30) hx hb hts hiX9 hown hK hP 0 rfl rfl 1 (by decide) hf13 (fun _ h9 => h9) rfl dX9_asks_96 ?_
    refine lv_iload hx hb dX9_asks_99 (lv_at hl 5 rfl) ?_
    refine lv_dup2_11 hx hb dX9_asks_101 rfl rfl ?_
    obtain ⟨hin, hw⟩ := hw
    refine va_lald hx hb hK hP 2 1 rfl rfl hin dX9_asks_102 ?_
    refine lv_iload_n hx hb dX9_asks_103 rfl (lv_at hl 1 rfl) ?_
    refine lv_iload_n hx hb dX9_asks_104 rfl (lv_at hl 2 rfl) ?_
    refine vp_callSl (va_Run.run (va_runS (As := [.int x1, .int x2]) (rest := [.long (u.2 0 x5.toNatClampNeg), .int x5, .ref (q 2)]) ⟨hx, hb, hml, hown, hts⟩ (c_X9_bit l x1 x2 _ hw) (va_cwS 2 hts gX9_asks_X9_bit rfl rfl rfl (by decide +kernel) ⟨Nat.le_of_ble_eq_true rfl, Nat.le_of_ble_eq_true rfl⟩) (psS hN) rfl rfl hl.1 rfl (lv_room (Nat.le_of_ble_eq_true rfl)) dX9_asks_105 ⟨Nat.zero_le _, Nat.zero_le _⟩)) (fun r7 hw => ?_)
    refine lv_ldc2 (v := (-1)) hx hb hown hc103 dX9_asks_108 ?_
    refine lv_lxor hx hb dX9_asks_111 ?_
    refine lv_land hx hb dX9_asks_112 ?_
    obtain ⟨hin, hw⟩ := hw
    refine sLast (w := wM q cI cJ cZ) hx hb hK hP hD hS 2 1 0 rfl rfl (wMa_2 q cI cJ cZ u) hin dX9_asks_113 (fun u8 H locs eu8 hP hD hS => ?_)
    have hw := hw u8 eu8
    refine lv_iload hx hb dX9_asks_114 (lv_at hl 4 rfl) ?_
    refine lv_iload hx hb dX9_asks_116 (lv_at hl 5 rfl) ?_
    refine lv_ishr hx hb dX9_asks_118 ?_
    refine lv_iconst (v := 1) hx hb dX9_asks_119 (by decide) ?_
    refine lv_iand hx hb dX9_asks_120 ?_
    refine lv_iconst (v := 1) hx hb dX9_asks_121 (by decide) ?_
    refine lv_icmp_ne (tgt := 140) hx hb dX9_asks_122 (by decide) (fun hc => ?_) (fun hc => ?_)
    · have hw := hw.1 hc
      refine J140 x1 x2 x3 x4 x5 u8 _ _ hw hP hD hS ls (lv_sub hl [0, 1, 2, 3, 4, 5] rfl) (fun y9 u10 H locs hw hP hD hS ls hl => ?_)
      exact k43 y9 u10 _ _ hw hP hD hS ls (lv_sub hl [0, 1, 2, 3, 4, 5] rfl)
    · have hw := hw.2 hc
      refine lv_aload_n hx hb dX9_asks_125 rfl (lv_at hl 0 rfl) ?_
      refine va_get (D := D) (ci := 9) (v := .ref (q 2)) (C := RX9) (T := TX9) (N := 30) hx hb hts hiX9 hown hK hP 0 rfl rfl 1 (by decide) hf13 (fun _ h9 => h9) rfl dX9_asks_126 ?_
      refine lv_iload hx hb dX9_asks_129 (lv_at hl 5 rfl) ?_
      refine lv_dup2_11 hx hb dX9_asks_131 rfl rfl ?_
      obtain ⟨hin, hw⟩ := hw
      refine va_lald hx hb hK hP 2 1 rfl rfl hin dX9_asks_132 ?_
      refine lv_iload_n hx hb dX9_asks_133 rfl (lv_at hl 1 rfl) ?_
      refine lv_iload_n hx hb dX9_asks_134 rfl (lv_at hl 2 rfl) ?_
      refine vp_callSl (va_Run.run (va_runS (As := [.int x1, .int x2]) (rest := [.long (u8.2 0 x5.toNatClampNeg), .int x5, .ref (q 2)]) ⟨hx, hb, hml, hown, hts⟩ (c_X9_bit l x1 x2 _ hw) (va_cwS 2 hts gX9_asks_X9_bit rfl rfl rfl (by decide +kernel) ⟨Nat.le_of_ble_eq_true rfl, Nat.le_of_ble_eq_true rfl⟩) (psS hN) rfl rfl hl.1 rfl (lv_room (Nat.le_of_ble_eq_true rfl)) dX9_asks_135 ⟨Nat.zero_le _, Nat.zero_le _⟩)) (fun r11 hw => ?_)
      refine lv_lor hx hb dX9_asks_138 ?_
      obtain ⟨hin, hw⟩ := hw
      refine sLast (w := wM q cI cJ cZ) hx hb hK hP hD hS 2 1 0 rfl rfl (wMa_2 q cI cJ cZ u8) hin dX9_asks_139 (fun u12 H locs eu12 hP hD hS => ?_)
      have hw := hw u12 eu12
      refine J140 x1 x2 x3 x4 x5 u12 _ _ hw hP hD hS ls (lv_sub hl [0, 1, 2, 3, 4, 5] rfl) (fun y13 u14 H locs hw hP hD hS ls hl => ?_)
      exact k43 y13 u14 _ _ hw hP hD hS ls (lv_sub hl [0, 1, 2, 3, 4, 5] rfl)
  have L43 : ∀ (x1 : Int32) (x2 : Int32) (x3 : Int32) (x4 : Int32) (n : Nat) (x5 : Int32) (u : WU) (H : Heap) (locs : List Loc), wp_X9_asks_L43 x1 x2 x3 x4 post n x5 u → va_P D vwCl (wM q cI cJ cZ u) H → va_D (va_A (wM q cI cJ cZ u00) s.heap.size) (wM q cI cJ cZ u) → va_S (va_A (wM q cI cJ cZ u00) s.heap.size) s.heap H locs → ∀ ls : Array Slot, lv_has ls 6 [(0, .ref (q 0)), (1, .int x1), (2, .int x2), (3, .int x3), (4, .int x4), (5, .int x5)] → W p l e (headSpec wsX9_asks rm_X9_asks).room s m args below meth c H locs 0 0 (MQ below (va_Qi post (fun u' t => va_P D vwCl (wM q cI cJ cZ u') t.heap) (va_A (wM q cI cJ cZ u00) s.heap.size)) args s 0 0 (va_A (wM q cI cJ cZ u00) s.heap.size)) (F0 m 43 ls []) := by
    intro x1 x2 x3 x4 n
    induction n with
    | zero =>
      intro x5 u H locs hw
      exact hw.elim
    | succ n ih =>
      intro x5 u H locs hw hP hD hS ls hl 
      unfold wp_X9_asks_L43 at hw
      refine lv_iload hx hb dX9_asks_43 (lv_at hl 5 rfl) ?_
      refine lv_iconst (v := 4) hx hb dX9_asks_45 (by decide) ?_
      refine lv_icmp_ge (tgt := 146) hx hb dX9_asks_46 (by decide) (fun hc => ?_) (fun hc => ?_)
      · have hw := hw.1 hc
        refine lv_iconst (v := 1) hx hb dX9_asks_146 (by decide) ?_
        exact W.zret (v := 1) hx hb hr rfl (fun t ht hW => ⟨⟨1, u, rfl, hw, by show va_P D vwCl _ t.heap; rw [ht]; exact hP⟩, hS.F ht⟩) hS.2.2 dX9_asks_147
      · have hw := hw.2 hc
        refine lv_aload_n hx hb dX9_asks_49 rfl (lv_at hl 0 rfl) ?_
        refine va_get (D := D) (ci := 9) (v := .ref (q 1)) (C := RX9) (T := TX9) (N := 30) hx hb hts hiX9 hown hK hP 0 rfl rfl 0 (by decide) hf7 (fun _ h9 => h9) rfl dX9_asks_50 ?_
        refine lv_iconst (v := 4) hx hb dX9_asks_53 (by decide) ?_
        refine lv_iload_n hx hb dX9_asks_54 rfl (lv_at hl 1 rfl) ?_
        refine lv_imul hx hb dX9_asks_55 ?_
        refine lv_iload hx hb dX9_asks_56 (lv_at hl 5 rfl) ?_
        refine lv_iadd hx hb dX9_asks_58 ?_
        refine lv_dup2_11 hx hb dX9_asks_59 rfl rfl ?_
        obtain ⟨hin, hw⟩ := hw
        refine va_iald hx hb hK hP 1 0 rfl rfl hin dX9_asks_60 ?_
        refine lv_iconst (v := 1) hx hb dX9_asks_61 (by decide) ?_
        refine lv_iload_n hx hb dX9_asks_62 rfl (lv_at hl 2 rfl) ?_
        refine lv_ishl hx hb dX9_asks_63 ?_
        refine lv_iconst (v := (-1)) hx hb dX9_asks_64 (by decide) ?_
        refine lv_ixor hx hb dX9_asks_65 ?_
        refine lv_iand hx hb dX9_asks_66 ?_
        obtain ⟨hin, hw⟩ := hw
        refine sIast (w := wM q cI cJ cZ) hx hb hK hP hD hS 1 0 0 rfl rfl (wMa_1 q cI cJ cZ u) hin dX9_asks_67 (fun u1 H locs eu1 hP hD hS => ?_)
        have hw := hw u1 eu1
        refine lv_iload_n hx hb dX9_asks_68 rfl (lv_at hl 3 rfl) ?_
        refine lv_iload hx hb dX9_asks_69 (lv_at hl 5 rfl) ?_
        refine lv_ishr hx hb dX9_asks_71 ?_
        refine lv_iconst (v := 1) hx hb dX9_asks_72 (by decide) ?_
        refine lv_iand hx hb dX9_asks_73 ?_
        refine lv_iconst (v := 1) hx hb dX9_asks_74 (by decide) ?_
        refine lv_icmp_ne (tgt := 95) hx hb dX9_asks_75 (by decide) (fun hc => ?_) (fun hc => ?_)
        · have hw := hw.1 hc
          refine J95 x1 x2 x3 x4 x5 u1 _ _ hw hP hD hS ls (lv_sub hl [0, 1, 2, 3, 4, 5] rfl) (fun y2 u3 H locs hw hP hD hS ls hl => ?_)
          exact ih y2 u3 _ _ hw hP hD hS ls (lv_sub hl [0, 1, 2, 3, 4, 5] rfl)
        · have hw := hw.2 hc
          refine lv_aload_n hx hb dX9_asks_78 rfl (lv_at hl 0 rfl) ?_
          refine va_get (D := D) (ci := 9) (v := .ref (q 1)) (C := RX9) (T := TX9) (N := 30) hx hb hts hiX9 hown hK hP 0 rfl rfl 0 (by decide) hf7 (fun _ h9 => h9) rfl dX9_asks_79 ?_
          refine lv_iconst (v := 4) hx hb dX9_asks_82 (by decide) ?_
          refine lv_iload_n hx hb dX9_asks_83 rfl (lv_at hl 1 rfl) ?_
          refine lv_imul hx hb dX9_asks_84 ?_
          refine lv_iload hx hb dX9_asks_85 (lv_at hl 5 rfl) ?_
          refine lv_iadd hx hb dX9_asks_87 ?_
          refine lv_dup2_11 hx hb dX9_asks_88 rfl rfl ?_
          obtain ⟨hin, hw⟩ := hw
          refine va_iald hx hb hK hP 1 0 rfl rfl hin dX9_asks_89 ?_
          refine lv_iconst (v := 1) hx hb dX9_asks_90 (by decide) ?_
          refine lv_iload_n hx hb dX9_asks_91 rfl (lv_at hl 2 rfl) ?_
          refine lv_ishl hx hb dX9_asks_92 ?_
          refine lv_ior hx hb dX9_asks_93 ?_
          obtain ⟨hin, hw⟩ := hw
          refine sIast (w := wM q cI cJ cZ) hx hb hK hP hD hS 1 0 0 rfl rfl (wMa_1 q cI cJ cZ u1) hin dX9_asks_94 (fun u4 H locs eu4 hP hD hS => ?_)
          have hw := hw u4 eu4
          refine J95 x1 x2 x3 x4 x5 u4 _ _ hw hP hD hS ls (lv_sub hl [0, 1, 2, 3, 4, 5] rfl) (fun y5 u6 H locs hw hP hD hS ls hl => ?_)
          exact ih y5 u6 _ _ hw hP hD hS ls (lv_sub hl [0, 1, 2, 3, 4, 5] rfl)
  have hent := lg_entry_eq m ([.ref (q 0), .int x1, .int x2, .int x3, .int x4]) 6
  rw [← hargs] at hent
  rw [hent]
  have hl := lv_entry ([.ref (q 0), .int x1, .int x2, .int x3, .int x4]) (n := 6) (Nat.le_of_ble_eq_true rfl)
  generalize (lg_sl ([.ref (q 0), .int x1, .int x2, .int x3, .int x4]) ++ List.replicate (6 - (lg_sl ([.ref (q 0), .int x1, .int x2, .int x3, .int x4])).length) Slot.unset).toArray = ls at hl ⊢
  have hl : lv_has ls 6 [(0, .ref (q 0)), (1, .int x1), (2, .int x2), (3, .int x3), (4, .int x4)] := hl
  unfold wp_X9_asks at hw
  refine lv_iload_n hx hb dX9_asks_0 rfl (lv_at hl 1 rfl) ?_
  refine vp_callSi (va_Run.run (va_runS (As := [.int x1]) (rest := []) ⟨hx, hb, hml, hown, hts⟩ (c_X9_isLicence l x1 _ hw) (va_cwS 1 hts gX9_asks_X9_isLicence rfl rfl rfl (by decide +kernel) ⟨Nat.le_of_ble_eq_true rfl, Nat.le_of_ble_eq_true rfl⟩) (psS hN) rfl rfl hl.1 rfl (lv_room (Nat.le_of_ble_eq_true rfl)) dX9_asks_1 ⟨Nat.zero_le _, Nat.zero_le _⟩)) (fun r16 hw => ?_)
  refine lv_if_eq (tgt := 38) hx hb dX9_asks_4 (by decide) (fun hc => ?_) (fun hc => ?_)
  · have hw := hw.1 hc
    refine lv_iconst (v := 0) hx hb dX9_asks_38 (by decide) ?_
    exact W.zret (v := 0) hx hb hr rfl (fun t ht hW => ⟨⟨0, u, rfl, hw, by show va_P D vwCl _ t.heap; rw [ht]; exact hP⟩, hS.F ht⟩) hS.2.2 dX9_asks_39
  · have hw := hw.2 hc
    refine lv_iload_n hx hb dX9_asks_7 rfl (lv_at hl 2 rfl) ?_
    refine lv_iconst (v := 0) hx hb dX9_asks_8 (by decide) ?_
    refine lv_bipush (v := 7) hx hb dX9_asks_9 (by decide) ?_
    refine vp_callSi (va_Run.run (va_runS (As := [.int x2, .int 0, .int 7]) (rest := []) ⟨hx, hb, hml, hown, hts⟩ (c_X9_lies l x2 0 7 _ hw) (va_cwS 3 hts gX9_asks_X9_lies rfl rfl rfl (by decide +kernel) ⟨Nat.le_of_ble_eq_true rfl, Nat.le_of_ble_eq_true rfl⟩) (psS hN) rfl rfl hl.1 rfl (lv_room (Nat.le_of_ble_eq_true rfl)) dX9_asks_11 ⟨Nat.zero_le _, Nat.zero_le _⟩)) (fun r17 hw => ?_)
    refine lv_if_eq (tgt := 38) hx hb dX9_asks_14 (by decide) (fun hc => ?_) (fun hc => ?_)
    · have hw := hw.1 hc
      refine lv_iconst (v := 0) hx hb dX9_asks_38 (by decide) ?_
      exact W.zret (v := 0) hx hb hr rfl (fun t ht hW => ⟨⟨0, u, rfl, hw, by show va_P D vwCl _ t.heap; rw [ht]; exact hP⟩, hS.F ht⟩) hS.2.2 dX9_asks_39
    · have hw := hw.2 hc
      refine lv_iload_n hx hb dX9_asks_17 rfl (lv_at hl 3 rfl) ?_
      refine lv_iconst (v := 0) hx hb dX9_asks_18 (by decide) ?_
      refine lv_bipush (v := 15) hx hb dX9_asks_19 (by decide) ?_
      refine vp_callSi (va_Run.run (va_runS (As := [.int x3, .int 0, .int 15]) (rest := []) ⟨hx, hb, hml, hown, hts⟩ (c_X9_lies l x3 0 15 _ hw) (va_cwS 3 hts gX9_asks_X9_lies rfl rfl rfl (by decide +kernel) ⟨Nat.le_of_ble_eq_true rfl, Nat.le_of_ble_eq_true rfl⟩) (psS hN) rfl rfl hl.1 rfl (lv_room (Nat.le_of_ble_eq_true rfl)) dX9_asks_21 ⟨Nat.zero_le _, Nat.zero_le _⟩)) (fun r18 hw => ?_)
      refine lv_if_eq (tgt := 38) hx hb dX9_asks_24 (by decide) (fun hc => ?_) (fun hc => ?_)
      · have hw := hw.1 hc
        refine lv_iconst (v := 0) hx hb dX9_asks_38 (by decide) ?_
        exact W.zret (v := 0) hx hb hr rfl (fun t ht hW => ⟨⟨0, u, rfl, hw, by show va_P D vwCl _ t.heap; rw [ht]; exact hP⟩, hS.F ht⟩) hS.2.2 dX9_asks_39
      · have hw := hw.2 hc
        refine lv_iload hx hb dX9_asks_27 (lv_at hl 4 rfl) ?_
        refine lv_iconst (v := 0) hx hb dX9_asks_29 (by decide) ?_
        refine lv_bipush (v := 15) hx hb dX9_asks_30 (by decide) ?_
        refine vp_callSi (va_Run.run (va_runS (As := [.int x4, .int 0, .int 15]) (rest := []) ⟨hx, hb, hml, hown, hts⟩ (c_X9_lies l x4 0 15 _ hw) (va_cwS 3 hts gX9_asks_X9_lies rfl rfl rfl (by decide +kernel) ⟨Nat.le_of_ble_eq_true rfl, Nat.le_of_ble_eq_true rfl⟩) (psS hN) rfl rfl hl.1 rfl (lv_room (Nat.le_of_ble_eq_true rfl)) dX9_asks_32 ⟨Nat.zero_le _, Nat.zero_le _⟩)) (fun r19 hw => ?_)
        refine lv_if_ne (tgt := 40) hx hb dX9_asks_35 (by decide) (fun hc => ?_) (fun hc => ?_)
        · have hw := hw.1 hc
          refine lv_iconst (v := 0) hx hb dX9_asks_40 (by decide) ?_
          refine lv_istore (lv' := [(5, .int 0), (0, .ref (q 0)), (1, .int x1), (2, .int x2), (3, .int x3), (4, .int x4)]) hx hb dX9_asks_41 hl (by decide) rfl (fun ls hl => ?_)
          obtain ⟨nn, hw⟩ := hw
          refine L43 x1 x2 x3 x4 nn 0 u _ _ hw hP hD hS ls (lv_sub hl [1, 2, 3, 4, 5, 0] rfl)
        · have hw := hw.2 hc
          refine lv_iconst (v := 0) hx hb dX9_asks_38 (by decide) ?_
          exact W.zret (v := 0) hx hb hr rfl (fun t ht hW => ⟨⟨0, u, rfl, hw, by show va_P D vwCl _ t.heap; rw [ht]; exact hP⟩, hS.F ht⟩) hS.2.2 dX9_asks_39
end

section
-- ===== PART A: goes FIRST, ahead of the names: the tables' words, and 'selects' of the private methods out of them =====
/-- a private method of a class that the tables say can be made, by its rows of tables_1 -/
def lw_okq (q : MethodName × Nat) : Prop := (q.1.cls ≠ "java/lang/invoke/MethodHandle" ∧ q.1.cls ≠ "java/lang/invoke/VarHandle") ∧ Cond.instantiable q.1.cls q.2 ∈ tables_1 ∧ Cond.privateMethod q.1 ∈ tables_1 ∧ Cond.instanceMethod q.1 ∈ tables_1
theorem lw_p0 : lw_okq (⟨"FlakyBounds", "find", "(I)LFlakyBounds$History;"⟩, 6) := ⟨⟨by decide +kernel, by decide +kernel⟩, List.mem_of_getElem? (i := 7) (by decide +kernel), List.mem_of_getElem? (i := 124) (by decide +kernel), List.mem_of_getElem? (i := 125) (by decide +kernel)⟩
theorem lw_p1 : lw_okq (⟨"FlakyBounds", "take", "(LFlakyBounds$History;IZ)V"⟩, 6) := ⟨⟨by decide +kernel, by decide +kernel⟩, List.mem_of_getElem? (i := 7) (by decide +kernel), List.mem_of_getElem? (i := 131) (by decide +kernel), List.mem_of_getElem? (i := 132) (by decide +kernel)⟩
theorem lw_p2 : lw_okq (⟨"FlakyBounds$History", "recount", "()V"⟩, 11) := ⟨⟨by decide +kernel, by decide +kernel⟩, List.mem_of_getElem? (i := 63) (by decide +kernel), List.mem_of_getElem? (i := 139) (by decide +kernel), List.mem_of_getElem? (i := 140) (by decide +kernel)⟩
theorem lw_p3 : lw_okq (⟨"FlakyBounds$History", "has", "(IZ)Z"⟩, 11) := ⟨⟨by decide +kernel, by decide +kernel⟩, List.mem_of_getElem? (i := 63) (by decide +kernel), List.mem_of_getElem? (i := 143) (by decide +kernel), List.mem_of_getElem? (i := 144) (by decide +kernel)⟩
theorem lw_p4 : lw_okq (⟨"FlakyBounds", "atMost", "(LFlakyBounds$History;I)LFlakyBounds$Decimal;"⟩, 6) := ⟨⟨by decide +kernel, by decide +kernel⟩, List.mem_of_getElem? (i := 7) (by decide +kernel), List.mem_of_getElem? (i := 147) (by decide +kernel), List.mem_of_getElem? (i := 148) (by decide +kernel)⟩
theorem lw_p5 : lw_okq (⟨"FlakyBounds", "atLeast", "(LFlakyBounds$History;I)LFlakyBounds$Decimal;"⟩, 6) := ⟨⟨by decide +kernel, by decide +kernel⟩, List.mem_of_getElem? (i := 7) (by decide +kernel), List.mem_of_getElem? (i := 178) (by decide +kernel), List.mem_of_getElem? (i := 179) (by decide +kernel)⟩
theorem lw_p6 : lw_okq (⟨"FlakyBounds$History", "verdictOfPass", "()I"⟩, 11) := ⟨⟨by decide +kernel, by decide +kernel⟩, List.mem_of_getElem? (i := 63) (by decide +kernel), List.mem_of_getElem? (i := 190) (by decide +kernel), List.mem_of_getElem? (i := 191) (by decide +kernel)⟩
theorem lw_p7 : lw_okq (⟨"FlakyBounds$History", "verdictOfFail", "()I"⟩, 11) := ⟨⟨by decide +kernel, by decide +kernel⟩, List.mem_of_getElem? (i := 63) (by decide +kernel), List.mem_of_getElem? (i := 194) (by decide +kernel), List.mem_of_getElem? (i := 195) (by decide +kernel)⟩
theorem lw_p8 : lw_okq (⟨"FlakyBounds", "greatestAbove", "(III)I"⟩, 6) := ⟨⟨by decide +kernel, by decide +kernel⟩, List.mem_of_getElem? (i := 7) (by decide +kernel), List.mem_of_getElem? (i := 206) (by decide +kernel), List.mem_of_getElem? (i := 207) (by decide +kernel)⟩
theorem lw_p9 : lw_okq (⟨"FlakyBoundsModel", "isTest", "(I)Z"⟩, 14) := ⟨⟨by decide +kernel, by decide +kernel⟩, List.mem_of_getElem? (i := 232) (by decide +kernel), List.mem_of_getElem? (i := 293) (by decide +kernel), List.mem_of_getElem? (i := 294) (by decide +kernel)⟩
theorem lw_p10 : lw_okq (⟨"FlakyBoundsModel", "runs", "(IIZ)V"⟩, 14) := ⟨⟨by decide +kernel, by decide +kernel⟩, List.mem_of_getElem? (i := 232) (by decide +kernel), List.mem_of_getElem? (i := 300) (by decide +kernel), List.mem_of_getElem? (i := 301) (by decide +kernel)⟩
theorem lw_p11 : lw_okq (⟨"FlakyBoundsModel", "boundOf", "(IIZ)I"⟩, 14) := ⟨⟨by decide +kernel, by decide +kernel⟩, List.mem_of_getElem? (i := 232) (by decide +kernel), List.mem_of_getElem? (i := 304) (by decide +kernel), List.mem_of_getElem? (i := 305) (by decide +kernel)⟩
theorem lw_p12 : lw_okq (⟨"FlakyBoundsModel", "shareOf", "(IIZ)V"⟩, 14) := ⟨⟨by decide +kernel, by decide +kernel⟩, List.mem_of_getElem? (i := 232) (by decide +kernel), List.mem_of_getElem? (i := 308) (by decide +kernel), List.mem_of_getElem? (i := 309) (by decide +kernel)⟩
theorem lw_p13 : lw_okq (⟨"FlakyBoundsModel", "throwsOf", "(I)I"⟩, 14) := ⟨⟨by decide +kernel, by decide +kernel⟩, List.mem_of_getElem? (i := 232) (by decide +kernel), List.mem_of_getElem? (i := 312) (by decide +kernel), List.mem_of_getElem? (i := 313) (by decide +kernel)⟩
theorem lw_p14 : lw_okq (⟨"FlakyBoundsModel", "edition", "(II)I"⟩, 14) := ⟨⟨by decide +kernel, by decide +kernel⟩, List.mem_of_getElem? (i := 232) (by decide +kernel), List.mem_of_getElem? (i := 316) (by decide +kernel), List.mem_of_getElem? (i := 317) (by decide +kernel)⟩
theorem lw_p15 : lw_okq (⟨"FlakyBoundsModel", "isBadFor", "(II)Z"⟩, 14) := ⟨⟨by decide +kernel, by decide +kernel⟩, List.mem_of_getElem? (i := 232) (by decide +kernel), List.mem_of_getElem? (i := 320) (by decide +kernel), List.mem_of_getElem? (i := 321) (by decide +kernel)⟩
def lw_privs_1 : List (MethodName × Nat) := [(⟨"FlakyBounds", "find", "(I)LFlakyBounds$History;"⟩, 6), (⟨"FlakyBounds", "take", "(LFlakyBounds$History;IZ)V"⟩, 6), (⟨"FlakyBounds$History", "recount", "()V"⟩, 11), (⟨"FlakyBounds$History", "has", "(IZ)Z"⟩, 11), (⟨"FlakyBounds", "atMost", "(LFlakyBounds$History;I)LFlakyBounds$Decimal;"⟩, 6), (⟨"FlakyBounds", "atLeast", "(LFlakyBounds$History;I)LFlakyBounds$Decimal;"⟩, 6), (⟨"FlakyBounds$History", "verdictOfPass", "()I"⟩, 11), (⟨"FlakyBounds$History", "verdictOfFail", "()I"⟩, 11), (⟨"FlakyBounds", "greatestAbove", "(III)I"⟩, 6), (⟨"FlakyBoundsModel", "isTest", "(I)Z"⟩, 14), (⟨"FlakyBoundsModel", "runs", "(IIZ)V"⟩, 14), (⟨"FlakyBoundsModel", "boundOf", "(IIZ)I"⟩, 14), (⟨"FlakyBoundsModel", "shareOf", "(IIZ)V"⟩, 14), (⟨"FlakyBoundsModel", "throwsOf", "(I)I"⟩, 14), (⟨"FlakyBoundsModel", "edition", "(II)I"⟩, 14), (⟨"FlakyBoundsModel", "isBadFor", "(II)Z"⟩, 14)]
theorem lw_r1 : ∀ q ∈ lw_privs_1, lw_okq q := List.forall_mem_cons.mpr ⟨lw_p0, List.forall_mem_cons.mpr ⟨lw_p1, List.forall_mem_cons.mpr ⟨lw_p2, List.forall_mem_cons.mpr ⟨lw_p3, List.forall_mem_cons.mpr ⟨lw_p4, List.forall_mem_cons.mpr ⟨lw_p5, List.forall_mem_cons.mpr ⟨lw_p6, List.forall_mem_cons.mpr ⟨lw_p7, List.forall_mem_cons.mpr ⟨lw_p8, List.forall_mem_cons.mpr ⟨lw_p9, List.forall_mem_cons.mpr ⟨lw_p10, List.forall_mem_cons.mpr ⟨lw_p11, List.forall_mem_cons.mpr ⟨lw_p12, List.forall_mem_cons.mpr ⟨lw_p13, List.forall_mem_cons.mpr ⟨lw_p14, List.forall_mem_cons.mpr ⟨lw_p15, fun _ h => absurd h List.not_mem_nil⟩⟩⟩⟩⟩⟩⟩⟩⟩⟩⟩⟩⟩⟩⟩⟩
theorem lw_p16 : lw_okq (⟨"FlakyBoundsModel", "isPass", "(II)Z"⟩, 14) := ⟨⟨by decide +kernel, by decide +kernel⟩, List.mem_of_getElem? (i := 232) (by decide +kernel), List.mem_of_getElem? (i := 324) (by decide +kernel), List.mem_of_getElem? (i := 325) (by decide +kernel)⟩
theorem lw_p17 : lw_okq (⟨"FlakyBoundsModel", "hitsOf", "(I)I"⟩, 14) := ⟨⟨by decide +kernel, by decide +kernel⟩, List.mem_of_getElem? (i := 232) (by decide +kernel), List.mem_of_getElem? (i := 328) (by decide +kernel), List.mem_of_getElem? (i := 329) (by decide +kernel)⟩
theorem lw_p18 : lw_okq (⟨"FlakyBoundsModel", "add", "(IIII)V"⟩, 14) := ⟨⟨by decide +kernel, by decide +kernel⟩, List.mem_of_getElem? (i := 232) (by decide +kernel), List.mem_of_getElem? (i := 332) (by decide +kernel), List.mem_of_getElem? (i := 333) (by decide +kernel)⟩
theorem lw_p19 : lw_okq (⟨"FlakyBoundsModel", "isAboveLevel", "(II)Z"⟩, 14) := ⟨⟨by decide +kernel, by decide +kernel⟩, List.mem_of_getElem? (i := 232) (by decide +kernel), List.mem_of_getElem? (i := 349) (by decide +kernel), List.mem_of_getElem? (i := 350) (by decide +kernel)⟩
theorem lw_p20 : lw_okq (⟨"FlakyBoundsModel", "doubtful", "(I)I"⟩, 14) := ⟨⟨by decide +kernel, by decide +kernel⟩, List.mem_of_getElem? (i := 232) (by decide +kernel), List.mem_of_getElem? (i := 365) (by decide +kernel), List.mem_of_getElem? (i := 366) (by decide +kernel)⟩
theorem lw_p21 : lw_okq (⟨"FlakyBoundsModel", "digit", "(I)I"⟩, 14) := ⟨⟨by decide +kernel, by decide +kernel⟩, List.mem_of_getElem? (i := 232) (by decide +kernel), List.mem_of_getElem? (i := 379) (by decide +kernel), List.mem_of_getElem? (i := 380) (by decide +kernel)⟩
def lw_privs_2 : List (MethodName × Nat) := [(⟨"FlakyBoundsModel", "isPass", "(II)Z"⟩, 14), (⟨"FlakyBoundsModel", "hitsOf", "(I)I"⟩, 14), (⟨"FlakyBoundsModel", "add", "(IIII)V"⟩, 14), (⟨"FlakyBoundsModel", "isAboveLevel", "(II)Z"⟩, 14), (⟨"FlakyBoundsModel", "doubtful", "(I)I"⟩, 14), (⟨"FlakyBoundsModel", "digit", "(I)I"⟩, 14)]
theorem lw_r2 : ∀ q ∈ lw_privs_2, lw_okq q := List.forall_mem_cons.mpr ⟨lw_p16, List.forall_mem_cons.mpr ⟨lw_p17, List.forall_mem_cons.mpr ⟨lw_p18, List.forall_mem_cons.mpr ⟨lw_p19, List.forall_mem_cons.mpr ⟨lw_p20, List.forall_mem_cons.mpr ⟨lw_p21, fun _ h => absurd h List.not_mem_nil⟩⟩⟩⟩⟩⟩
def lw_privs : List (MethodName × Nat) := lw_privs_1 ++ (lw_privs_2)
def lw_tbl : List Cond := k2_sels lw_privs ++ tables_1
theorem lw_privs_ok : ∀ q ∈ lw_privs, lw_okq q := by
  show ∀ q ∈ lw_privs_1 ++ (lw_privs_2), lw_okq q
  exact List.forall_mem_append.mpr ⟨lw_r1, lw_r2⟩
/-! ===== BEGIN words of one list among another's, by their places ===== -/
theorem goodIn_r {big : List Cond} (ws : List Cond) (ps : List Nat) (hp : ws = ps.filterMap (fun i => big[i]?)) (h : ws.all goodWord = true) : GoodIn big ws := by
  intro w hw
  have h1 := List.all_eq_true.mp h w hw
  rw [hp] at hw
  obtain ⟨i, -, hi⟩ := List.mem_filterMap.mp hw
  have hm : w ∈ big := by first | exact List.mem_of_getElem? hi | exact List.getElem?_mem hi
  exact ⟨hm, good_of_word h1⟩
theorem goodIn_app {big a b : List Cond} (ha : GoodIn big a) (hb : GoodIn big b) : GoodIn big (a ++ b) := fun w h => (List.mem_append.mp h).elim (ha w) (hb w)
theorem goodIn_ca {big a b : List Cond} {c : Cond} (ha : GoodIn big (c :: a)) (hb : GoodIn big b) : GoodIn big (c :: (a ++ b)) := fun w h => (List.mem_cons.mp h).elim (fun e => ha w (List.mem_cons.mpr (Or.inl e))) (fun h => (List.mem_append.mp h).elim (fun h => ha w (List.mem_cons.mpr (Or.inr h))) (hb w))
theorem goodIn_sub {big ws : List Cond} (hm : ∀ w ∈ ws, w ∈ big) (h : ws.all goodWord = true) : GoodIn big ws := fun w hw => ⟨hm w hw, good_of_word (List.all_eq_true.mp h w hw)⟩
/-! ===== END ===== -/

/-! ===== BEGIN printed: names, fields, word lists, decode rows ===== -/
def RX0 : String := "FlakyBounds$Chance"
def TX0 : u_T := fun k => match k with
  | 0 => ("FlakyBounds$Chance", "sum", "LFlakyBounds$Decimal;", true)
  | _ => ("FlakyBounds$Chance", "term", "LFlakyBounds$Decimal;", true)
def tyX0 : Nat → FieldType := fun k => match k with
  | 0 => .object "FlakyBounds$Decimal"
  | _ => .object "FlakyBounds$Decimal"
abbrev wsX00 : List Cond := u_ws RX0 TX0 2
theorem nmX0 : ∀ a, a < 2 → ∀ b, b < 2 → a ≠ b → (TX0 a).2.1 ≠ (TX0 b).2.1 := by decide +kernel
theorem tyX0_ok : ∀ k, k < 2 → parseFieldDescriptor (TX0 k).2.2.1 = some (tyX0 k) := by decide +kernel
abbrev cX0_init : ByteArray := prog_2_method_1_code
def yX0_init : MethodName := ⟨RX0, "<init>", "()V"⟩
abbrev cX0_upTo : ByteArray := prog_2_method_2_code
def yX0_upTo : MethodName := ⟨RX0, "upTo", "(III)LFlakyBounds$Decimal;"⟩
def RX1 : String := "FlakyBounds$Decimal"
def TX1 : u_T := fun k => match k with
  | _ => ("FlakyBounds$Decimal", "parts", "[J", true)
def tyX1 : Nat → FieldType := fun k => match k with
  | _ => .array .long
abbrev wsX10 : List Cond := u_ws RX1 TX1 1
theorem nmX1 : ∀ a, a < 1 → ∀ b, b < 1 → a ≠ b → (TX1 a).2.1 ≠ (TX1 b).2.1 := by decide +kernel
theorem tyX1_ok : ∀ k, k < 1 → parseFieldDescriptor (TX1 k).2.2.1 = some (tyX1 k) := by decide +kernel
abbrev cX1_init : ByteArray := prog_3_method_1_code
def yX1_init : MethodName := ⟨RX1, "<init>", "()V"⟩
abbrev cX1_setThousandths : ByteArray := prog_3_method_2_code
def yX1_setThousandths : MethodName := ⟨RX1, "setThousandths", "(I)V"⟩
abbrev cX1_multiply : ByteArray := prog_3_method_3_code
def yX1_multiply : MethodName := ⟨RX1, "multiply", "(I)V"⟩
abbrev cX1_divide : ByteArray := prog_3_method_4_code
def yX1_divide : MethodName := ⟨RX1, "divide", "(I)V"⟩
abbrev cX1_add : ByteArray := prog_3_method_5_code
def yX1_add : MethodName := ⟨RX1, "add", "(LFlakyBounds$Decimal;)V"⟩
abbrev cX1_isAbove : ByteArray := prog_3_method_6_code
def yX1_isAbove : MethodName := ⟨RX1, "isAbove", "(I)Z"⟩
abbrev cX1_cutTo : ByteArray := prog_3_method_7_code
def yX1_cutTo : MethodName := ⟨RX1, "cutTo", "(I)J"⟩
def RX2 : String := "FlakyBounds$History"
def TX2 : u_T := fun k => match k with
  | 0 => ("FlakyBounds$History", "editions", "[I", true)
  | 1 => ("FlakyBounds$History", "passes", "[Z", true)
  | 2 => ("FlakyBounds$History", "size", "I", false)
  | 3 => ("FlakyBounds$History", "oldest", "I", false)
  | 4 => ("FlakyBounds$History", "doubtful", "I", false)
  | 5 => ("FlakyBounds$History", "throwsCounted", "I", false)
  | 6 => ("FlakyBounds$History", "failsCounted", "I", false)
  | 7 => ("FlakyBounds$History", "marked", "Z", false)
  | 8 => ("FlakyBounds$History", "timesMarked", "I", false)
  | 9 => ("FlakyBounds$History", "judgedEdition", "I", false)
  | _ => ("FlakyBounds$History", "judgedFails", "I", false)
def tyX2 : Nat → FieldType := fun k => match k with
  | 0 => .array .int
  | 1 => .array .boolean
  | 2 => .int
  | 3 => .int
  | 4 => .int
  | 5 => .int
  | 6 => .int
  | 7 => .boolean
  | 8 => .int
  | 9 => .int
  | _ => .int
abbrev wsX20 : List Cond := u_ws RX2 TX2 11
theorem nmX2 : ∀ a, a < 11 → ∀ b, b < 11 → a ≠ b → (TX2 a).2.1 ≠ (TX2 b).2.1 := by decide +kernel
theorem tyX2_ok : ∀ k, k < 11 → parseFieldDescriptor (TX2 k).2.2.1 = some (tyX2 k) := by decide +kernel
abbrev cX2_init : ByteArray := prog_4_method_1_code
def yX2_init : MethodName := ⟨RX2, "<init>", "()V"⟩
abbrev cX2_add : ByteArray := prog_4_method_2_code
def yX2_add : MethodName := ⟨RX2, "add", "(IZ)V"⟩
abbrev cX2_hasOnlyFails : ByteArray := prog_4_method_3_code
def yX2_hasOnlyFails : MethodName := ⟨RX2, "hasOnlyFails", "(I)Z"⟩
abbrev cX2_nextVerdict : ByteArray := prog_4_method_4_code
def yX2_nextVerdict : MethodName := ⟨RX2, "nextVerdict", "(IZ)I"⟩
abbrev cX2_verdictOfPass : ByteArray := prog_4_method_5_code
def yX2_verdictOfPass : MethodName := ⟨RX2, "verdictOfPass", "()I"⟩
abbrev cX2_verdictOfFail : ByteArray := prog_4_method_6_code
def yX2_verdictOfFail : MethodName := ⟨RX2, "verdictOfFail", "()I"⟩
abbrev cX2_has : ByteArray := prog_4_method_7_code
def yX2_has : MethodName := ⟨RX2, "has", "(IZ)Z"⟩
abbrev cX2_recount : ByteArray := prog_4_method_8_code
def yX2_recount : MethodName := ⟨RX2, "recount", "()V"⟩
def RX3 : String := "FlakyBounds"
def TX3 : u_T := fun k => match k with
  | 0 => ("FlakyBounds", "histories", "[LFlakyBounds$History;", true)
  | 1 => ("FlakyBounds", "chance", "LFlakyBounds$Chance;", true)
  | 2 => ("FlakyBounds", "tests", "I", false)
  | 3 => ("FlakyBounds", "ruleLevel", "I", false)
  | 4 => ("FlakyBounds", "ruleMark", "I", false)
  | _ => ("FlakyBounds", "ruleClear", "I", false)
def tyX3 : Nat → FieldType := fun k => match k with
  | 0 => .array (.object "FlakyBounds$History")
  | 1 => .object "FlakyBounds$Chance"
  | 2 => .int
  | 3 => .int
  | 4 => .int
  | _ => .int
abbrev wsX30 : List Cond := u_ws RX3 TX3 6
theorem nmX3 : ∀ a, a < 6 → ∀ b, b < 6 → a ≠ b → (TX3 a).2.1 ≠ (TX3 b).2.1 := by decide +kernel
theorem tyX3_ok : ∀ k, k < 6 → parseFieldDescriptor (TX3 k).2.2.1 = some (tyX3 k) := by decide +kernel
abbrev cX3_init : ByteArray := prog_1_method_1_code
def yX3_init : MethodName := ⟨RX3, "<init>", "()V"⟩
abbrev cX3_test : ByteArray := prog_1_method_2_code
def yX3_test : MethodName := ⟨RX3, "test", "()I"⟩
abbrev cX3_rules : ByteArray := prog_1_method_3_code
def yX3_rules : MethodName := ⟨RX3, "rules", "(III)Z"⟩
abbrev cX3_run : ByteArray := prog_1_method_4_code
def yX3_run : MethodName := ⟨RX3, "run", "(IIZ)Z"⟩
abbrev cX3_judge : ByteArray := prog_1_method_5_code
def yX3_judge : MethodName := ⟨RX3, "judge", "(IIZ)I"⟩
abbrev cX3_about : ByteArray := prog_1_method_6_code
def yX3_about : MethodName := ⟨RX3, "about", "(II)I"⟩
abbrev cX3_bound : ByteArray := prog_1_method_7_code
def yX3_bound : MethodName := ⟨RX3, "bound", "(IIZ)I"⟩
abbrev cX3_share : ByteArray := prog_1_method_8_code
def yX3_share : MethodName := ⟨RX3, "share", "(IIZI)J"⟩
abbrev cX3_isBad : ByteArray := prog_1_method_9_code
def yX3_isBad : MethodName := ⟨RX3, "isBad", "(II)Z"⟩
abbrev cX3_broken : ByteArray := prog_1_method_10_code
def yX3_broken : MethodName := ⟨RX3, "broken", "(I)I"⟩
abbrev cX3_find : ByteArray := prog_1_method_11_code
def yX3_find : MethodName := ⟨RX3, "find", "(I)LFlakyBounds$History;"⟩
abbrev cX3_isEdition : ByteArray := prog_1_method_12_code
def yX3_isEdition : MethodName := ⟨RX3, "isEdition", "(I)Z"⟩
abbrev cX3_isLevel : ByteArray := prog_1_method_13_code
def yX3_isLevel : MethodName := ⟨RX3, "isLevel", "(I)Z"⟩
abbrev cX3_isShare : ByteArray := prog_1_method_14_code
def yX3_isShare : MethodName := ⟨RX3, "isShare", "(I)Z"⟩
abbrev cX3_take : ByteArray := prog_1_method_15_code
def yX3_take : MethodName := ⟨RX3, "take", "(LFlakyBounds$History;IZ)V"⟩
abbrev cX3_atMost : ByteArray := prog_1_method_16_code
def yX3_atMost : MethodName := ⟨RX3, "atMost", "(LFlakyBounds$History;I)LFlakyBounds$Decimal;"⟩
abbrev cX3_atLeast : ByteArray := prog_1_method_17_code
def yX3_atLeast : MethodName := ⟨RX3, "atLeast", "(LFlakyBounds$History;I)LFlakyBounds$Decimal;"⟩
abbrev cX3_greatestAbove : ByteArray := prog_1_method_18_code
def yX3_greatestAbove : MethodName := ⟨RX3, "greatestAbove", "(III)I"⟩
def RL : String := "FlakyBoundsLaw"
abbrev cL_law : ByteArray := code
def yL_law : MethodName := ⟨RL, "law", "([I)Z"⟩
def wsX1_init : List Cond := .code yX1_init cX1_init 1 none :: ([.methodLink RX1 3 objectInit, .instanceMethod objectInit, .code objectInit ⟨#[0xb1]⟩ 1 none, .arrayClass .long, .fieldLink RX1 11 "FlakyBounds$Decimal" "parts" "[J"] ++ wsX10)
def wsX0_init : List Cond := .code yX0_init cX0_init 1 none :: ([.methodLink RX0 3 objectInit, .instanceMethod objectInit, .code objectInit ⟨#[0xb1]⟩ 1 none, .classLink RX0 9 RX1, .instantiable RX1 1, .initialized RX1, .fieldLink RX0 12 "FlakyBounds$Chance" "sum" "LFlakyBounds$Decimal;", .fieldLink RX0 18 "FlakyBounds$Chance" "term" "LFlakyBounds$Decimal;", .methodLink RX0 11 yX1_init, .instanceMethod yX1_init, .code yX1_init cX1_init 1 none, .methodLink RX1 3 objectInit, .arrayClass .long, .fieldLink RX1 11 "FlakyBounds$Decimal" "parts" "[J"] ++ wsX10 ++ wsX00)
def wsX1_setThousandths : List Cond := .code yX1_setThousandths cX1_setThousandths 5 none :: ([.fieldLink RX1 11 "FlakyBounds$Decimal" "parts" "[J", .constantLong RX1 15 (1000)] ++ wsX10)
def wsX1_multiply : List Cond := .code yX1_multiply cX1_multiply 7 none :: ([.fieldLink RX1 11 "FlakyBounds$Decimal" "parts" "[J", .constantLong RX1 17 (1000000000)] ++ wsX10)
def wsX1_divide : List Cond := .code yX1_divide cX1_divide 7 none :: ([.constantLong RX1 17 (1000000000), .fieldLink RX1 11 "FlakyBounds$Decimal" "parts" "[J"] ++ wsX10)
def wsX1_add : List Cond := .code yX1_add cX1_add 7 none :: ([.fieldLink RX1 11 "FlakyBounds$Decimal" "parts" "[J", .constantLong RX1 17 (1000000000)] ++ wsX10)
def wsX0_upTo : List Cond := .code yX0_upTo cX0_upTo 6 (some (.object "FlakyBounds$Decimal")) :: ([.fieldLink RX0 12 "FlakyBounds$Chance" "sum" "LFlakyBounds$Decimal;", .fieldLink RX0 18 "FlakyBounds$Chance" "term" "LFlakyBounds$Decimal;", .methodLink RX0 21 yX1_setThousandths, .instanceMethod yX1_setThousandths, .selects RX1 yX1_setThousandths yX1_setThousandths, .initialized RX1, .code yX1_setThousandths cX1_setThousandths 5 none, .fieldLink RX1 11 "FlakyBounds$Decimal" "parts" "[J", .constantLong RX1 15 (1000), .methodLink RX0 25 yX1_multiply, .instanceMethod yX1_multiply, .selects RX1 yX1_multiply yX1_multiply, .code yX1_multiply cX1_multiply 7 none, .constantLong RX1 17 (1000000000), .methodLink RX0 28 yX1_divide, .instanceMethod yX1_divide, .selects RX1 yX1_divide yX1_divide, .code yX1_divide cX1_divide 7 none, .methodLink RX0 31 yX1_add, .instanceMethod yX1_add, .selects RX1 yX1_add yX1_add, .code yX1_add cX1_add 7 none] ++ wsX00 ++ wsX10)
def wsX1_isAbove : List Cond := .code yX1_isAbove cX1_isAbove 7 (some .boolean) :: ([.fieldLink RX1 11 "FlakyBounds$Decimal" "parts" "[J", .constantLong RX1 19 (1000000)] ++ wsX10)
def wsX1_cutTo : List Cond := .code yX1_cutTo cX1_cutTo 5 (some .long) :: ([.fieldLink RX1 11 "FlakyBounds$Decimal" "parts" "[J", .constantLong RX1 17 (1000000000), .constantLong RX1 21 (10)] ++ wsX10)
def wsX2_init : List Cond := .code yX2_init cX2_init 1 none :: ([.methodLink RX2 3 objectInit, .instanceMethod objectInit, .code objectInit ⟨#[0xb1]⟩ 1 none, .arrayClass .int, .fieldLink RX2 9 "FlakyBounds$History" "editions" "[I", .arrayClass .boolean, .fieldLink RX2 15 "FlakyBounds$History" "passes" "[Z", .fieldLink RX2 19 "FlakyBounds$History" "judgedEdition" "I"] ++ wsX20)
def wsX2_has : List Cond := .code yX2_has cX2_has 4 (some .boolean) :: ([.fieldLink RX2 23 "FlakyBounds$History" "size" "I", .fieldLink RX2 9 "FlakyBounds$History" "editions" "[I", .fieldLink RX2 15 "FlakyBounds$History" "passes" "[Z"] ++ wsX20)
def wsX2_recount : List Cond := .code yX2_recount cX2_recount 3 none :: ([.fieldLink RX2 50 "FlakyBounds$History" "doubtful" "I", .fieldLink RX2 53 "FlakyBounds$History" "throwsCounted" "I", .fieldLink RX2 56 "FlakyBounds$History" "failsCounted" "I", .fieldLink RX2 23 "FlakyBounds$History" "size" "I", .fieldLink RX2 9 "FlakyBounds$History" "editions" "[I", .fieldLink RX2 15 "FlakyBounds$History" "passes" "[Z", .methodLink RX2 32 yX2_has, .instanceMethod yX2_has, .selects RX2 yX2_has yX2_has, .initialized RX2, .code yX2_has cX2_has 4 (some .boolean)] ++ wsX20)
def wsX2_add : List Cond := .code yX2_add cX2_add 4 none :: ([.fieldLink RX2 23 "FlakyBounds$History" "size" "I", .fieldLink RX2 26 "FlakyBounds$History" "oldest" "I", .fieldLink RX2 9 "FlakyBounds$History" "editions" "[I", .fieldLink RX2 15 "FlakyBounds$History" "passes" "[Z", .methodLink RX2 29 yX2_recount, .instanceMethod yX2_recount, .selects RX2 yX2_recount yX2_recount, .initialized RX2, .code yX2_recount cX2_recount 3 none, .fieldLink RX2 50 "FlakyBounds$History" "doubtful" "I", .fieldLink RX2 53 "FlakyBounds$History" "throwsCounted" "I", .fieldLink RX2 56 "FlakyBounds$History" "failsCounted" "I", .methodLink RX2 32 yX2_has, .instanceMethod yX2_has, .selects RX2 yX2_has yX2_has, .code yX2_has cX2_has 4 (some .boolean)] ++ wsX20)
def wsX2_hasOnlyFails : List Cond := .code yX2_hasOnlyFails cX2_hasOnlyFails 2 (some .boolean) :: ([.methodLink RX2 32 yX2_has, .instanceMethod yX2_has, .selects RX2 yX2_has yX2_has, .initialized RX2, .code yX2_has cX2_has 4 (some .boolean), .fieldLink RX2 23 "FlakyBounds$History" "size" "I", .fieldLink RX2 9 "FlakyBounds$History" "editions" "[I", .fieldLink RX2 15 "FlakyBounds$History" "passes" "[Z"] ++ wsX20)
def wsX2_verdictOfPass : List Cond := .code yX2_verdictOfPass cX2_verdictOfPass 1 (some .int) :: ([.fieldLink RX2 36 "FlakyBounds$History" "judgedFails" "I"] ++ wsX20)
def wsX2_verdictOfFail : List Cond := .code yX2_verdictOfFail cX2_verdictOfFail 2 (some .int) :: ([.fieldLink RX2 46 "FlakyBounds$History" "marked" "Z", .fieldLink RX2 36 "FlakyBounds$History" "judgedFails" "I"] ++ wsX20)
def wsX2_nextVerdict : List Cond := .code yX2_nextVerdict cX2_nextVerdict 4 (some .int) :: ([.fieldLink RX2 19 "FlakyBounds$History" "judgedEdition" "I", .fieldLink RX2 36 "FlakyBounds$History" "judgedFails" "I", .methodLink RX2 39 yX2_verdictOfPass, .instanceMethod yX2_verdictOfPass, .selects RX2 yX2_verdictOfPass yX2_verdictOfPass, .initialized RX2, .code yX2_verdictOfPass cX2_verdictOfPass 1 (some .int), .methodLink RX2 43 yX2_verdictOfFail, .instanceMethod yX2_verdictOfFail, .selects RX2 yX2_verdictOfFail yX2_verdictOfFail, .code yX2_verdictOfFail cX2_verdictOfFail 2 (some .int), .fieldLink RX2 46 "FlakyBounds$History" "marked" "Z"] ++ wsX20)
def wsX3_init_r1 : List Cond := [Cond.methodLink RX3 1 objectInit, Cond.instanceMethod objectInit, Cond.code objectInit ⟨#[0xb1]⟩ 1 none, Cond.classLink RX3 9 RX2, Cond.fieldLink RX3 11 "FlakyBounds" "histories" "[LFlakyBounds$History;", Cond.classLink RX3 15 RX0, Cond.instantiable RX0 2, Cond.initialized RX0, Cond.fieldLink RX3 18 "FlakyBounds" "chance" "LFlakyBounds$Chance;", Cond.fieldLink RX3 22 "FlakyBounds" "tests" "I", Cond.fieldLink RX3 26 "FlakyBounds" "ruleLevel" "I", Cond.fieldLink RX3 29 "FlakyBounds" "ruleMark" "I", Cond.fieldLink RX3 32 "FlakyBounds" "ruleClear" "I", Cond.methodLink RX3 17 yX0_init, Cond.instanceMethod yX0_init, Cond.code yX0_init cX0_init 1 none, Cond.methodLink RX0 3 objectInit, Cond.classLink RX0 9 RX1, Cond.instantiable RX1 1, Cond.initialized RX1, Cond.fieldLink RX0 12 "FlakyBounds$Chance" "sum" "LFlakyBounds$Decimal;", Cond.fieldLink RX0 18 "FlakyBounds$Chance" "term" "LFlakyBounds$Decimal;", Cond.methodLink RX0 11 yX1_init, Cond.instanceMethod yX1_init]
def wsX3_init_r2 : List Cond := [Cond.code yX1_init cX1_init 1 none, Cond.methodLink RX1 3 objectInit, Cond.arrayClass .long, Cond.fieldLink RX1 11 "FlakyBounds$Decimal" "parts" "[J"]
def wsX3_init : List Cond := .code yX3_init cX3_init 1 none :: ((wsX3_init_r1 ++ wsX3_init_r2) ++ wsX30 ++ wsX00 ++ wsX10)
def wsX3_test : List Cond := .code yX3_test cX3_test 1 (some .int) :: ([.fieldLink RX3 22 "FlakyBounds" "tests" "I", .fieldLink RX3 11 "FlakyBounds" "histories" "[LFlakyBounds$History;", .classLink RX3 9 RX2, .instantiable RX2 11, .initialized RX2, .methodLink RX3 35 yX2_init, .instanceMethod yX2_init, .code yX2_init cX2_init 1 none, .methodLink RX2 3 objectInit, .instanceMethod objectInit, .code objectInit ⟨#[0xb1]⟩ 1 none, .arrayClass .int, .fieldLink RX2 9 "FlakyBounds$History" "editions" "[I", .arrayClass .boolean, .fieldLink RX2 15 "FlakyBounds$History" "passes" "[Z", .fieldLink RX2 19 "FlakyBounds$History" "judgedEdition" "I"] ++ wsX30 ++ wsX20)
def wsX3_isLevel : List Cond := .code yX3_isLevel cX3_isLevel 1 (some .boolean) :: ([])
def wsX3_isShare : List Cond := .code yX3_isShare cX3_isShare 1 (some .boolean) :: ([])
def wsX3_rules : List Cond := .code yX3_rules cX3_rules 4 (some .boolean) :: ([.fieldLink RX3 26 "FlakyBounds" "ruleLevel" "I", .fieldLink RX3 29 "FlakyBounds" "ruleMark" "I", .fieldLink RX3 32 "FlakyBounds" "ruleClear" "I", .methodLink RX3 36 yX3_isLevel, .static yX3_isLevel, .initialized RX3, .code yX3_isLevel cX3_isLevel 1 (some .boolean), .methodLink RX3 40 yX3_isShare, .static yX3_isShare, .code yX3_isShare cX3_isShare 1 (some .boolean)] ++ wsX30)
def wsX3_find : List Cond := .code yX3_find cX3_find 2 (some (.object "FlakyBounds$History")) :: ([.fieldLink RX3 22 "FlakyBounds" "tests" "I", .fieldLink RX3 11 "FlakyBounds" "histories" "[LFlakyBounds$History;"] ++ wsX30)
def wsX3_isEdition : List Cond := .code yX3_isEdition cX3_isEdition 1 (some .boolean) :: ([])
def wsX3_atMost_r1 : List Cond := [Cond.fieldLink RX3 18 "FlakyBounds" "chance" "LFlakyBounds$Chance;", Cond.methodLink RX3 106 yX0_upTo, Cond.instanceMethod yX0_upTo, Cond.selects RX0 yX0_upTo yX0_upTo, Cond.initialized RX0, Cond.code yX0_upTo cX0_upTo 6 (some (.object "FlakyBounds$Decimal")), Cond.fieldLink RX0 12 "FlakyBounds$Chance" "sum" "LFlakyBounds$Decimal;", Cond.fieldLink RX0 18 "FlakyBounds$Chance" "term" "LFlakyBounds$Decimal;", Cond.methodLink RX0 21 yX1_setThousandths, Cond.instanceMethod yX1_setThousandths, Cond.selects RX1 yX1_setThousandths yX1_setThousandths, Cond.initialized RX1, Cond.code yX1_setThousandths cX1_setThousandths 5 none, Cond.fieldLink RX1 11 "FlakyBounds$Decimal" "parts" "[J", Cond.constantLong RX1 15 (1000), Cond.methodLink RX0 25 yX1_multiply, Cond.instanceMethod yX1_multiply, Cond.selects RX1 yX1_multiply yX1_multiply, Cond.code yX1_multiply cX1_multiply 7 none, Cond.constantLong RX1 17 (1000000000), Cond.methodLink RX0 28 yX1_divide, Cond.instanceMethod yX1_divide, Cond.selects RX1 yX1_divide yX1_divide, Cond.code yX1_divide cX1_divide 7 none]
def wsX3_atMost_r2 : List Cond := [Cond.methodLink RX0 31 yX1_add, Cond.instanceMethod yX1_add, Cond.selects RX1 yX1_add yX1_add, Cond.code yX1_add cX1_add 7 none]
def wsX3_atMost : List Cond := .code yX3_atMost cX3_atMost 3 (some (.object "FlakyBounds$Decimal")) :: ((wsX3_atMost_r1 ++ wsX3_atMost_r2) ++ wsX30 ++ wsX20 ++ wsX00 ++ wsX10)
def wsX3_atLeast_r1 : List Cond := [Cond.fieldLink RX3 18 "FlakyBounds" "chance" "LFlakyBounds$Chance;", Cond.methodLink RX3 106 yX0_upTo, Cond.instanceMethod yX0_upTo, Cond.selects RX0 yX0_upTo yX0_upTo, Cond.initialized RX0, Cond.code yX0_upTo cX0_upTo 6 (some (.object "FlakyBounds$Decimal")), Cond.fieldLink RX0 12 "FlakyBounds$Chance" "sum" "LFlakyBounds$Decimal;", Cond.fieldLink RX0 18 "FlakyBounds$Chance" "term" "LFlakyBounds$Decimal;", Cond.methodLink RX0 21 yX1_setThousandths, Cond.instanceMethod yX1_setThousandths, Cond.selects RX1 yX1_setThousandths yX1_setThousandths, Cond.initialized RX1, Cond.code yX1_setThousandths cX1_setThousandths 5 none, Cond.fieldLink RX1 11 "FlakyBounds$Decimal" "parts" "[J", Cond.constantLong RX1 15 (1000), Cond.methodLink RX0 25 yX1_multiply, Cond.instanceMethod yX1_multiply, Cond.selects RX1 yX1_multiply yX1_multiply, Cond.code yX1_multiply cX1_multiply 7 none, Cond.constantLong RX1 17 (1000000000), Cond.methodLink RX0 28 yX1_divide, Cond.instanceMethod yX1_divide, Cond.selects RX1 yX1_divide yX1_divide, Cond.code yX1_divide cX1_divide 7 none]
def wsX3_atLeast_r2 : List Cond := [Cond.methodLink RX0 31 yX1_add, Cond.instanceMethod yX1_add, Cond.selects RX1 yX1_add yX1_add, Cond.code yX1_add cX1_add 7 none]
def wsX3_atLeast : List Cond := .code yX3_atLeast cX3_atLeast 4 (some (.object "FlakyBounds$Decimal")) :: ((wsX3_atLeast_r1 ++ wsX3_atLeast_r2) ++ wsX20 ++ wsX30 ++ wsX00 ++ wsX10)
def wsX3_take_r1 : List Cond := [Cond.fieldLink RX3 32 "FlakyBounds" "ruleClear" "I", Cond.fieldLink RX3 26 "FlakyBounds" "ruleLevel" "I", Cond.fieldLink RX3 29 "FlakyBounds" "ruleMark" "I", Cond.methodLink RX3 99 yX2_add, Cond.instanceMethod yX2_add, Cond.selects RX2 yX2_add yX2_add, Cond.initialized RX2, Cond.code yX2_add cX2_add 4 none, Cond.fieldLink RX2 23 "FlakyBounds$History" "size" "I", Cond.fieldLink RX2 26 "FlakyBounds$History" "oldest" "I", Cond.fieldLink RX2 9 "FlakyBounds$History" "editions" "[I", Cond.fieldLink RX2 15 "FlakyBounds$History" "passes" "[Z", Cond.methodLink RX2 29 yX2_recount, Cond.instanceMethod yX2_recount, Cond.selects RX2 yX2_recount yX2_recount, Cond.code yX2_recount cX2_recount 3 none, Cond.fieldLink RX2 50 "FlakyBounds$History" "doubtful" "I", Cond.fieldLink RX2 53 "FlakyBounds$History" "throwsCounted" "I", Cond.fieldLink RX2 56 "FlakyBounds$History" "failsCounted" "I", Cond.methodLink RX2 32 yX2_has, Cond.instanceMethod yX2_has, Cond.selects RX2 yX2_has yX2_has, Cond.code yX2_has cX2_has 4 (some .boolean), Cond.methodLink RX3 83 yX3_atMost]
def wsX3_take_r2 : List Cond := [Cond.instanceMethod yX3_atMost, Cond.selects RX3 yX3_atMost yX3_atMost, Cond.initialized RX3, Cond.code yX3_atMost cX3_atMost 3 (some (.object "FlakyBounds$Decimal")), Cond.fieldLink RX3 18 "FlakyBounds" "chance" "LFlakyBounds$Chance;", Cond.methodLink RX3 106 yX0_upTo, Cond.instanceMethod yX0_upTo, Cond.selects RX0 yX0_upTo yX0_upTo, Cond.initialized RX0, Cond.code yX0_upTo cX0_upTo 6 (some (.object "FlakyBounds$Decimal")), Cond.fieldLink RX0 12 "FlakyBounds$Chance" "sum" "LFlakyBounds$Decimal;", Cond.fieldLink RX0 18 "FlakyBounds$Chance" "term" "LFlakyBounds$Decimal;", Cond.methodLink RX0 21 yX1_setThousandths, Cond.instanceMethod yX1_setThousandths, Cond.selects RX1 yX1_setThousandths yX1_setThousandths, Cond.initialized RX1, Cond.code yX1_setThousandths cX1_setThousandths 5 none, Cond.fieldLink RX1 11 "FlakyBounds$Decimal" "parts" "[J", Cond.constantLong RX1 15 (1000), Cond.methodLink RX0 25 yX1_multiply, Cond.instanceMethod yX1_multiply, Cond.selects RX1 yX1_multiply yX1_multiply, Cond.code yX1_multiply cX1_multiply 7 none, Cond.constantLong RX1 17 (1000000000)]
def wsX3_take_r3 : List Cond := [Cond.methodLink RX0 28 yX1_divide, Cond.instanceMethod yX1_divide, Cond.selects RX1 yX1_divide yX1_divide, Cond.code yX1_divide cX1_divide 7 none, Cond.methodLink RX0 31 yX1_add, Cond.instanceMethod yX1_add, Cond.selects RX1 yX1_add yX1_add, Cond.code yX1_add cX1_add 7 none, Cond.methodLink RX3 103 yX1_isAbove, Cond.instanceMethod yX1_isAbove, Cond.selects RX1 yX1_isAbove yX1_isAbove, Cond.code yX1_isAbove cX1_isAbove 7 (some .boolean), Cond.constantLong RX1 19 (1000000), Cond.methodLink RX3 87 yX3_atLeast, Cond.instanceMethod yX3_atLeast, Cond.selects RX3 yX3_atLeast yX3_atLeast, Cond.code yX3_atLeast cX3_atLeast 4 (some (.object "FlakyBounds$Decimal"))]
def wsX3_take : List Cond := .code yX3_take cX3_take 4 none :: ((wsX3_take_r1 ++ (wsX3_take_r2 ++ wsX3_take_r3)) ++ wsX20 ++ wsX30 ++ wsX00 ++ wsX10)
def wsX3_run_r1 : List Cond := [Cond.methodLink RX3 43 yX3_find, Cond.instanceMethod yX3_find, Cond.selects RX3 yX3_find yX3_find, Cond.initialized RX3, Cond.code yX3_find cX3_find 2 (some (.object "FlakyBounds$History")), Cond.fieldLink RX3 22 "FlakyBounds" "tests" "I", Cond.fieldLink RX3 11 "FlakyBounds" "histories" "[LFlakyBounds$History;", Cond.methodLink RX3 47 yX3_isEdition, Cond.static yX3_isEdition, Cond.code yX3_isEdition cX3_isEdition 1 (some .boolean), Cond.methodLink RX3 50 yX3_take, Cond.instanceMethod yX3_take, Cond.selects RX3 yX3_take yX3_take, Cond.code yX3_take cX3_take 4 none, Cond.fieldLink RX3 32 "FlakyBounds" "ruleClear" "I", Cond.fieldLink RX3 26 "FlakyBounds" "ruleLevel" "I", Cond.fieldLink RX3 29 "FlakyBounds" "ruleMark" "I", Cond.methodLink RX3 99 yX2_add, Cond.instanceMethod yX2_add, Cond.selects RX2 yX2_add yX2_add, Cond.initialized RX2, Cond.code yX2_add cX2_add 4 none, Cond.fieldLink RX2 23 "FlakyBounds$History" "size" "I", Cond.fieldLink RX2 26 "FlakyBounds$History" "oldest" "I"]
def wsX3_run_r2 : List Cond := [Cond.fieldLink RX2 9 "FlakyBounds$History" "editions" "[I", Cond.fieldLink RX2 15 "FlakyBounds$History" "passes" "[Z", Cond.methodLink RX2 29 yX2_recount, Cond.instanceMethod yX2_recount, Cond.selects RX2 yX2_recount yX2_recount, Cond.code yX2_recount cX2_recount 3 none, Cond.fieldLink RX2 50 "FlakyBounds$History" "doubtful" "I", Cond.fieldLink RX2 53 "FlakyBounds$History" "throwsCounted" "I", Cond.fieldLink RX2 56 "FlakyBounds$History" "failsCounted" "I", Cond.methodLink RX2 32 yX2_has, Cond.instanceMethod yX2_has, Cond.selects RX2 yX2_has yX2_has, Cond.code yX2_has cX2_has 4 (some .boolean), Cond.methodLink RX3 83 yX3_atMost, Cond.instanceMethod yX3_atMost, Cond.selects RX3 yX3_atMost yX3_atMost, Cond.code yX3_atMost cX3_atMost 3 (some (.object "FlakyBounds$Decimal")), Cond.fieldLink RX3 18 "FlakyBounds" "chance" "LFlakyBounds$Chance;", Cond.methodLink RX3 106 yX0_upTo, Cond.instanceMethod yX0_upTo, Cond.selects RX0 yX0_upTo yX0_upTo, Cond.initialized RX0, Cond.code yX0_upTo cX0_upTo 6 (some (.object "FlakyBounds$Decimal")), Cond.fieldLink RX0 12 "FlakyBounds$Chance" "sum" "LFlakyBounds$Decimal;"]
def wsX3_run_r3 : List Cond := [Cond.fieldLink RX0 18 "FlakyBounds$Chance" "term" "LFlakyBounds$Decimal;", Cond.methodLink RX0 21 yX1_setThousandths, Cond.instanceMethod yX1_setThousandths, Cond.selects RX1 yX1_setThousandths yX1_setThousandths, Cond.initialized RX1, Cond.code yX1_setThousandths cX1_setThousandths 5 none, Cond.fieldLink RX1 11 "FlakyBounds$Decimal" "parts" "[J", Cond.constantLong RX1 15 (1000), Cond.methodLink RX0 25 yX1_multiply, Cond.instanceMethod yX1_multiply, Cond.selects RX1 yX1_multiply yX1_multiply, Cond.code yX1_multiply cX1_multiply 7 none, Cond.constantLong RX1 17 (1000000000), Cond.methodLink RX0 28 yX1_divide, Cond.instanceMethod yX1_divide, Cond.selects RX1 yX1_divide yX1_divide, Cond.code yX1_divide cX1_divide 7 none, Cond.methodLink RX0 31 yX1_add, Cond.instanceMethod yX1_add, Cond.selects RX1 yX1_add yX1_add, Cond.code yX1_add cX1_add 7 none, Cond.methodLink RX3 103 yX1_isAbove, Cond.instanceMethod yX1_isAbove, Cond.selects RX1 yX1_isAbove yX1_isAbove]
def wsX3_run_r4 : List Cond := [Cond.code yX1_isAbove cX1_isAbove 7 (some .boolean), Cond.constantLong RX1 19 (1000000), Cond.methodLink RX3 87 yX3_atLeast, Cond.instanceMethod yX3_atLeast, Cond.selects RX3 yX3_atLeast yX3_atLeast, Cond.code yX3_atLeast cX3_atLeast 4 (some (.object "FlakyBounds$Decimal"))]
def wsX3_run : List Cond := .code yX3_run cX3_run 5 (some .boolean) :: ((wsX3_run_r1 ++ (wsX3_run_r2 ++ (wsX3_run_r3 ++ wsX3_run_r4))) ++ wsX30 ++ wsX20 ++ wsX00 ++ wsX10)
def wsX3_judge_r1 : List Cond := [Cond.methodLink RX3 43 yX3_find, Cond.instanceMethod yX3_find, Cond.selects RX3 yX3_find yX3_find, Cond.initialized RX3, Cond.code yX3_find cX3_find 2 (some (.object "FlakyBounds$History")), Cond.fieldLink RX3 22 "FlakyBounds" "tests" "I", Cond.fieldLink RX3 11 "FlakyBounds" "histories" "[LFlakyBounds$History;", Cond.methodLink RX3 47 yX3_isEdition, Cond.static yX3_isEdition, Cond.code yX3_isEdition cX3_isEdition 1 (some .boolean), Cond.methodLink RX3 54 yX2_nextVerdict, Cond.instanceMethod yX2_nextVerdict, Cond.selects RX2 yX2_nextVerdict yX2_nextVerdict, Cond.initialized RX2, Cond.code yX2_nextVerdict cX2_nextVerdict 4 (some .int), Cond.fieldLink RX2 19 "FlakyBounds$History" "judgedEdition" "I", Cond.fieldLink RX2 36 "FlakyBounds$History" "judgedFails" "I", Cond.methodLink RX2 39 yX2_verdictOfPass, Cond.instanceMethod yX2_verdictOfPass, Cond.selects RX2 yX2_verdictOfPass yX2_verdictOfPass, Cond.code yX2_verdictOfPass cX2_verdictOfPass 1 (some .int), Cond.methodLink RX2 43 yX2_verdictOfFail, Cond.instanceMethod yX2_verdictOfFail, Cond.selects RX2 yX2_verdictOfFail yX2_verdictOfFail]
def wsX3_judge_r2 : List Cond := [Cond.code yX2_verdictOfFail cX2_verdictOfFail 2 (some .int), Cond.fieldLink RX2 46 "FlakyBounds$History" "marked" "Z", Cond.methodLink RX3 50 yX3_take, Cond.instanceMethod yX3_take, Cond.selects RX3 yX3_take yX3_take, Cond.code yX3_take cX3_take 4 none, Cond.fieldLink RX3 32 "FlakyBounds" "ruleClear" "I", Cond.fieldLink RX3 26 "FlakyBounds" "ruleLevel" "I", Cond.fieldLink RX3 29 "FlakyBounds" "ruleMark" "I", Cond.methodLink RX3 99 yX2_add, Cond.instanceMethod yX2_add, Cond.selects RX2 yX2_add yX2_add, Cond.code yX2_add cX2_add 4 none, Cond.fieldLink RX2 23 "FlakyBounds$History" "size" "I", Cond.fieldLink RX2 26 "FlakyBounds$History" "oldest" "I", Cond.fieldLink RX2 9 "FlakyBounds$History" "editions" "[I", Cond.fieldLink RX2 15 "FlakyBounds$History" "passes" "[Z", Cond.methodLink RX2 29 yX2_recount, Cond.instanceMethod yX2_recount, Cond.selects RX2 yX2_recount yX2_recount, Cond.code yX2_recount cX2_recount 3 none, Cond.fieldLink RX2 50 "FlakyBounds$History" "doubtful" "I", Cond.fieldLink RX2 53 "FlakyBounds$History" "throwsCounted" "I", Cond.fieldLink RX2 56 "FlakyBounds$History" "failsCounted" "I"]
def wsX3_judge_r3 : List Cond := [Cond.methodLink RX2 32 yX2_has, Cond.instanceMethod yX2_has, Cond.selects RX2 yX2_has yX2_has, Cond.code yX2_has cX2_has 4 (some .boolean), Cond.methodLink RX3 83 yX3_atMost, Cond.instanceMethod yX3_atMost, Cond.selects RX3 yX3_atMost yX3_atMost, Cond.code yX3_atMost cX3_atMost 3 (some (.object "FlakyBounds$Decimal")), Cond.fieldLink RX3 18 "FlakyBounds" "chance" "LFlakyBounds$Chance;", Cond.methodLink RX3 106 yX0_upTo, Cond.instanceMethod yX0_upTo, Cond.selects RX0 yX0_upTo yX0_upTo, Cond.initialized RX0, Cond.code yX0_upTo cX0_upTo 6 (some (.object "FlakyBounds$Decimal")), Cond.fieldLink RX0 12 "FlakyBounds$Chance" "sum" "LFlakyBounds$Decimal;", Cond.fieldLink RX0 18 "FlakyBounds$Chance" "term" "LFlakyBounds$Decimal;", Cond.methodLink RX0 21 yX1_setThousandths, Cond.instanceMethod yX1_setThousandths, Cond.selects RX1 yX1_setThousandths yX1_setThousandths, Cond.initialized RX1, Cond.code yX1_setThousandths cX1_setThousandths 5 none, Cond.fieldLink RX1 11 "FlakyBounds$Decimal" "parts" "[J", Cond.constantLong RX1 15 (1000), Cond.methodLink RX0 25 yX1_multiply]
def wsX3_judge_r4 : List Cond := [Cond.instanceMethod yX1_multiply, Cond.selects RX1 yX1_multiply yX1_multiply, Cond.code yX1_multiply cX1_multiply 7 none, Cond.constantLong RX1 17 (1000000000), Cond.methodLink RX0 28 yX1_divide, Cond.instanceMethod yX1_divide, Cond.selects RX1 yX1_divide yX1_divide, Cond.code yX1_divide cX1_divide 7 none, Cond.methodLink RX0 31 yX1_add, Cond.instanceMethod yX1_add, Cond.selects RX1 yX1_add yX1_add, Cond.code yX1_add cX1_add 7 none, Cond.methodLink RX3 103 yX1_isAbove, Cond.instanceMethod yX1_isAbove, Cond.selects RX1 yX1_isAbove yX1_isAbove, Cond.code yX1_isAbove cX1_isAbove 7 (some .boolean), Cond.constantLong RX1 19 (1000000), Cond.methodLink RX3 87 yX3_atLeast, Cond.instanceMethod yX3_atLeast, Cond.selects RX3 yX3_atLeast yX3_atLeast, Cond.code yX3_atLeast cX3_atLeast 4 (some (.object "FlakyBounds$Decimal"))]
def wsX3_judge : List Cond := .code yX3_judge cX3_judge 6 (some .int) :: ((wsX3_judge_r1 ++ (wsX3_judge_r2 ++ (wsX3_judge_r3 ++ wsX3_judge_r4))) ++ wsX30 ++ wsX20 ++ wsX00 ++ wsX10)
def wsX3_about : List Cond := .code yX3_about cX3_about 4 (some .int) :: ([.methodLink RX3 43 yX3_find, .instanceMethod yX3_find, .selects RX3 yX3_find yX3_find, .initialized RX3, .code yX3_find cX3_find 2 (some (.object "FlakyBounds$History")), .fieldLink RX3 22 "FlakyBounds" "tests" "I", .fieldLink RX3 11 "FlakyBounds" "histories" "[LFlakyBounds$History;"] ++ wsX20 ++ wsX30)
def wsX3_greatestAbove_r1 : List Cond := [Cond.fieldLink RX3 18 "FlakyBounds" "chance" "LFlakyBounds$Chance;", Cond.methodLink RX3 106 yX0_upTo, Cond.instanceMethod yX0_upTo, Cond.selects RX0 yX0_upTo yX0_upTo, Cond.initialized RX0, Cond.code yX0_upTo cX0_upTo 6 (some (.object "FlakyBounds$Decimal")), Cond.fieldLink RX0 12 "FlakyBounds$Chance" "sum" "LFlakyBounds$Decimal;", Cond.fieldLink RX0 18 "FlakyBounds$Chance" "term" "LFlakyBounds$Decimal;", Cond.methodLink RX0 21 yX1_setThousandths, Cond.instanceMethod yX1_setThousandths, Cond.selects RX1 yX1_setThousandths yX1_setThousandths, Cond.initialized RX1, Cond.code yX1_setThousandths cX1_setThousandths 5 none, Cond.fieldLink RX1 11 "FlakyBounds$Decimal" "parts" "[J", Cond.constantLong RX1 15 (1000), Cond.methodLink RX0 25 yX1_multiply, Cond.instanceMethod yX1_multiply, Cond.selects RX1 yX1_multiply yX1_multiply, Cond.code yX1_multiply cX1_multiply 7 none, Cond.constantLong RX1 17 (1000000000), Cond.methodLink RX0 28 yX1_divide, Cond.instanceMethod yX1_divide, Cond.selects RX1 yX1_divide yX1_divide, Cond.code yX1_divide cX1_divide 7 none]
def wsX3_greatestAbove_r2 : List Cond := [Cond.methodLink RX0 31 yX1_add, Cond.instanceMethod yX1_add, Cond.selects RX1 yX1_add yX1_add, Cond.code yX1_add cX1_add 7 none, Cond.methodLink RX3 103 yX1_isAbove, Cond.instanceMethod yX1_isAbove, Cond.selects RX1 yX1_isAbove yX1_isAbove, Cond.code yX1_isAbove cX1_isAbove 7 (some .boolean), Cond.constantLong RX1 19 (1000000)]
def wsX3_greatestAbove : List Cond := .code yX3_greatestAbove cX3_greatestAbove 6 (some .int) :: ((wsX3_greatestAbove_r1 ++ wsX3_greatestAbove_r2) ++ wsX30 ++ wsX00 ++ wsX10)
def wsX3_bound_r1 : List Cond := [Cond.methodLink RX3 43 yX3_find, Cond.instanceMethod yX3_find, Cond.selects RX3 yX3_find yX3_find, Cond.initialized RX3, Cond.code yX3_find cX3_find 2 (some (.object "FlakyBounds$History")), Cond.fieldLink RX3 22 "FlakyBounds" "tests" "I", Cond.fieldLink RX3 11 "FlakyBounds" "histories" "[LFlakyBounds$History;", Cond.methodLink RX3 36 yX3_isLevel, Cond.static yX3_isLevel, Cond.code yX3_isLevel cX3_isLevel 1 (some .boolean), Cond.methodLink RX3 77 yX3_greatestAbove, Cond.instanceMethod yX3_greatestAbove, Cond.selects RX3 yX3_greatestAbove yX3_greatestAbove, Cond.code yX3_greatestAbove cX3_greatestAbove 6 (some .int), Cond.fieldLink RX3 18 "FlakyBounds" "chance" "LFlakyBounds$Chance;", Cond.methodLink RX3 106 yX0_upTo, Cond.instanceMethod yX0_upTo, Cond.selects RX0 yX0_upTo yX0_upTo, Cond.initialized RX0, Cond.code yX0_upTo cX0_upTo 6 (some (.object "FlakyBounds$Decimal")), Cond.fieldLink RX0 12 "FlakyBounds$Chance" "sum" "LFlakyBounds$Decimal;", Cond.fieldLink RX0 18 "FlakyBounds$Chance" "term" "LFlakyBounds$Decimal;", Cond.methodLink RX0 21 yX1_setThousandths, Cond.instanceMethod yX1_setThousandths]
def wsX3_bound_r2 : List Cond := [Cond.selects RX1 yX1_setThousandths yX1_setThousandths, Cond.initialized RX1, Cond.code yX1_setThousandths cX1_setThousandths 5 none, Cond.fieldLink RX1 11 "FlakyBounds$Decimal" "parts" "[J", Cond.constantLong RX1 15 (1000), Cond.methodLink RX0 25 yX1_multiply, Cond.instanceMethod yX1_multiply, Cond.selects RX1 yX1_multiply yX1_multiply, Cond.code yX1_multiply cX1_multiply 7 none, Cond.constantLong RX1 17 (1000000000), Cond.methodLink RX0 28 yX1_divide, Cond.instanceMethod yX1_divide, Cond.selects RX1 yX1_divide yX1_divide, Cond.code yX1_divide cX1_divide 7 none, Cond.methodLink RX0 31 yX1_add, Cond.instanceMethod yX1_add, Cond.selects RX1 yX1_add yX1_add, Cond.code yX1_add cX1_add 7 none, Cond.methodLink RX3 103 yX1_isAbove, Cond.instanceMethod yX1_isAbove, Cond.selects RX1 yX1_isAbove yX1_isAbove, Cond.code yX1_isAbove cX1_isAbove 7 (some .boolean), Cond.constantLong RX1 19 (1000000)]
def wsX3_bound : List Cond := .code yX3_bound cX3_bound 7 (some .int) :: ((wsX3_bound_r1 ++ wsX3_bound_r2) ++ wsX20 ++ wsX30 ++ wsX00 ++ wsX10)
def wsX3_share_r1 : List Cond := [Cond.constantLong RX3 81 (-1), Cond.methodLink RX3 43 yX3_find, Cond.instanceMethod yX3_find, Cond.selects RX3 yX3_find yX3_find, Cond.initialized RX3, Cond.code yX3_find cX3_find 2 (some (.object "FlakyBounds$History")), Cond.fieldLink RX3 22 "FlakyBounds" "tests" "I", Cond.fieldLink RX3 11 "FlakyBounds" "histories" "[LFlakyBounds$History;", Cond.methodLink RX3 40 yX3_isShare, Cond.static yX3_isShare, Cond.code yX3_isShare cX3_isShare 1 (some .boolean), Cond.methodLink RX3 83 yX3_atMost, Cond.instanceMethod yX3_atMost, Cond.selects RX3 yX3_atMost yX3_atMost, Cond.code yX3_atMost cX3_atMost 3 (some (.object "FlakyBounds$Decimal")), Cond.fieldLink RX3 18 "FlakyBounds" "chance" "LFlakyBounds$Chance;", Cond.methodLink RX3 106 yX0_upTo, Cond.instanceMethod yX0_upTo, Cond.selects RX0 yX0_upTo yX0_upTo, Cond.initialized RX0, Cond.code yX0_upTo cX0_upTo 6 (some (.object "FlakyBounds$Decimal")), Cond.fieldLink RX0 12 "FlakyBounds$Chance" "sum" "LFlakyBounds$Decimal;", Cond.fieldLink RX0 18 "FlakyBounds$Chance" "term" "LFlakyBounds$Decimal;", Cond.methodLink RX0 21 yX1_setThousandths]
def wsX3_share_r2 : List Cond := [Cond.instanceMethod yX1_setThousandths, Cond.selects RX1 yX1_setThousandths yX1_setThousandths, Cond.initialized RX1, Cond.code yX1_setThousandths cX1_setThousandths 5 none, Cond.fieldLink RX1 11 "FlakyBounds$Decimal" "parts" "[J", Cond.constantLong RX1 15 (1000), Cond.methodLink RX0 25 yX1_multiply, Cond.instanceMethod yX1_multiply, Cond.selects RX1 yX1_multiply yX1_multiply, Cond.code yX1_multiply cX1_multiply 7 none, Cond.constantLong RX1 17 (1000000000), Cond.methodLink RX0 28 yX1_divide, Cond.instanceMethod yX1_divide, Cond.selects RX1 yX1_divide yX1_divide, Cond.code yX1_divide cX1_divide 7 none, Cond.methodLink RX0 31 yX1_add, Cond.instanceMethod yX1_add, Cond.selects RX1 yX1_add yX1_add, Cond.code yX1_add cX1_add 7 none, Cond.methodLink RX3 87 yX3_atLeast, Cond.instanceMethod yX3_atLeast, Cond.selects RX3 yX3_atLeast yX3_atLeast, Cond.code yX3_atLeast cX3_atLeast 4 (some (.object "FlakyBounds$Decimal")), Cond.methodLink RX3 90 yX1_cutTo]
def wsX3_share_r3 : List Cond := [Cond.instanceMethod yX1_cutTo, Cond.selects RX1 yX1_cutTo yX1_cutTo, Cond.code yX1_cutTo cX1_cutTo 5 (some .long), Cond.constantLong RX1 21 (10)]
def wsX3_share : List Cond := .code yX3_share cX3_share 7 (some .long) :: ((wsX3_share_r1 ++ (wsX3_share_r2 ++ wsX3_share_r3)) ++ wsX30 ++ wsX20 ++ wsX00 ++ wsX10)
def wsX3_isBad : List Cond := .code yX3_isBad cX3_isBad 4 (some .boolean) :: ([.methodLink RX3 43 yX3_find, .instanceMethod yX3_find, .selects RX3 yX3_find yX3_find, .initialized RX3, .code yX3_find cX3_find 2 (some (.object "FlakyBounds$History")), .fieldLink RX3 22 "FlakyBounds" "tests" "I", .fieldLink RX3 11 "FlakyBounds" "histories" "[LFlakyBounds$History;", .methodLink RX3 96 yX2_hasOnlyFails, .instanceMethod yX2_hasOnlyFails, .selects RX2 yX2_hasOnlyFails yX2_hasOnlyFails, .initialized RX2, .code yX2_hasOnlyFails cX2_hasOnlyFails 2 (some .boolean), .methodLink RX2 32 yX2_has, .instanceMethod yX2_has, .selects RX2 yX2_has yX2_has, .code yX2_has cX2_has 4 (some .boolean), .fieldLink RX2 23 "FlakyBounds$History" "size" "I", .fieldLink RX2 9 "FlakyBounds$History" "editions" "[I", .fieldLink RX2 15 "FlakyBounds$History" "passes" "[Z"] ++ wsX30 ++ wsX20)
def wsX3_broken : List Cond := .code yX3_broken cX3_broken 5 (some .int) :: ([.methodLink RX3 43 yX3_find, .instanceMethod yX3_find, .selects RX3 yX3_find yX3_find, .initialized RX3, .code yX3_find cX3_find 2 (some (.object "FlakyBounds$History")), .fieldLink RX3 22 "FlakyBounds" "tests" "I", .fieldLink RX3 11 "FlakyBounds" "histories" "[LFlakyBounds$History;", .methodLink RX3 96 yX2_hasOnlyFails, .instanceMethod yX2_hasOnlyFails, .selects RX2 yX2_hasOnlyFails yX2_hasOnlyFails, .initialized RX2, .code yX2_hasOnlyFails cX2_hasOnlyFails 2 (some .boolean), .methodLink RX2 32 yX2_has, .instanceMethod yX2_has, .selects RX2 yX2_has yX2_has, .code yX2_has cX2_has 4 (some .boolean), .fieldLink RX2 23 "FlakyBounds$History" "size" "I", .fieldLink RX2 9 "FlakyBounds$History" "editions" "[I", .fieldLink RX2 15 "FlakyBounds$History" "passes" "[Z"] ++ wsX20 ++ wsX30)
set_option maxRecDepth 20000 in
theorem ggX0_init_X1_init : GoodIn wsX0_init wsX1_init := goodIn_r _ [11, 12, 2, 3, 13, 14, 15] (by decide +kernel) (by decide +kernel)
set_option maxRecDepth 20000 in
theorem gX0_init_X1_init : GoodIn wsX0_init (wsX1_init) := ggX0_init_X1_init
theorem dX0_init_0 : decode cX0_init 0 = .ok (.aload_n 0, 1) := by decide +kernel
theorem dX0_init_1 : decode cX0_init 1 = .ok (.invokespecial 3, 3) := by decide +kernel
theorem dX0_init_4 : decode cX0_init 4 = .ok (.aload_n 0, 1) := by decide +kernel
theorem dX0_init_5 : decode cX0_init 5 = .ok (.new 9, 3) := by decide +kernel
theorem dX0_init_8 : decode cX0_init 8 = .ok (.dup, 1) := by decide +kernel
theorem dX0_init_9 : decode cX0_init 9 = .ok (.invokespecial 11, 3) := by decide +kernel
theorem dX0_init_12 : decode cX0_init 12 = .ok (.putfield 12, 3) := by decide +kernel
theorem dX0_init_15 : decode cX0_init 15 = .ok (.aload_n 0, 1) := by decide +kernel
theorem dX0_init_16 : decode cX0_init 16 = .ok (.new 9, 3) := by decide +kernel
theorem dX0_init_19 : decode cX0_init 19 = .ok (.dup, 1) := by decide +kernel
theorem dX0_init_20 : decode cX0_init 20 = .ok (.invokespecial 11, 3) := by decide +kernel
theorem dX0_init_23 : decode cX0_init 23 = .ok (.putfield 18, 3) := by decide +kernel
theorem dX0_init_26 : decode cX0_init 26 = .ok (.return_, 1) := by decide +kernel
set_option maxRecDepth 20000 in
theorem ggX0_upTo_X1_setThousandths : GoodIn wsX0_upTo wsX1_setThousandths := goodIn_r _ [7, 8, 9, 25] (by decide +kernel) (by decide +kernel)
set_option maxRecDepth 20000 in
theorem gX0_upTo_X1_setThousandths : GoodIn wsX0_upTo (wsV RX0 21 RX1 yX1_setThousandths wsX1_setThousandths) := goodIn_app (goodIn_of _ (by decide +kernel)) ggX0_upTo_X1_setThousandths
set_option maxRecDepth 20000 in
theorem ggX0_upTo_X1_multiply : GoodIn wsX0_upTo wsX1_multiply := goodIn_r _ [13, 8, 14, 25] (by decide +kernel) (by decide +kernel)
set_option maxRecDepth 20000 in
theorem gX0_upTo_X1_multiply : GoodIn wsX0_upTo (wsV RX0 25 RX1 yX1_multiply wsX1_multiply) := goodIn_app (goodIn_of _ (by decide +kernel)) ggX0_upTo_X1_multiply
set_option maxRecDepth 20000 in
theorem ggX0_upTo_X1_divide : GoodIn wsX0_upTo wsX1_divide := goodIn_r _ [18, 14, 8, 25] (by decide +kernel) (by decide +kernel)
set_option maxRecDepth 20000 in
theorem gX0_upTo_X1_divide : GoodIn wsX0_upTo (wsV RX0 28 RX1 yX1_divide wsX1_divide) := goodIn_app (goodIn_of _ (by decide +kernel)) ggX0_upTo_X1_divide
set_option maxRecDepth 20000 in
theorem ggX0_upTo_X1_add : GoodIn wsX0_upTo wsX1_add := goodIn_r _ [22, 8, 14, 25] (by decide +kernel) (by decide +kernel)
set_option maxRecDepth 20000 in
theorem gX0_upTo_X1_add : GoodIn wsX0_upTo (wsV RX0 31 RX1 yX1_add wsX1_add) := goodIn_app (goodIn_of _ (by decide +kernel)) ggX0_upTo_X1_add
theorem dX0_upTo_0 : decode cX0_upTo 0 = .ok (.sipush 1000, 3) := by decide +kernel
theorem dX0_upTo_3 : decode cX0_upTo 3 = .ok (.iload_n 3, 1) := by decide +kernel
theorem dX0_upTo_4 : decode cX0_upTo 4 = .ok (.isub, 1) := by decide +kernel
theorem dX0_upTo_5 : decode cX0_upTo 5 = .ok (.istore 4, 2) := by decide +kernel
theorem dX0_upTo_7 : decode cX0_upTo 7 = .ok (.aload_n 0, 1) := by decide +kernel
theorem dX0_upTo_8 : decode cX0_upTo 8 = .ok (.getfield 12, 3) := by decide +kernel
theorem dX0_upTo_11 : decode cX0_upTo 11 = .ok (.iload_n 1, 1) := by decide +kernel
theorem dX0_upTo_12 : decode cX0_upTo 12 = .ok (.invokevirtual 21, 3) := by decide +kernel
theorem dX0_upTo_15 : decode cX0_upTo 15 = .ok (.aload_n 0, 1) := by decide +kernel
theorem dX0_upTo_16 : decode cX0_upTo 16 = .ok (.getfield 18, 3) := by decide +kernel
theorem dX0_upTo_19 : decode cX0_upTo 19 = .ok (.iload_n 1, 1) := by decide +kernel
theorem dX0_upTo_20 : decode cX0_upTo 20 = .ok (.invokevirtual 21, 3) := by decide +kernel
theorem dX0_upTo_23 : decode cX0_upTo 23 = .ok (.iconst 1, 1) := by decide +kernel
theorem dX0_upTo_24 : decode cX0_upTo 24 = .ok (.istore 5, 2) := by decide +kernel
theorem dX0_upTo_26 : decode cX0_upTo 26 = .ok (.iload 5, 2) := by decide +kernel
theorem dX0_upTo_28 : decode cX0_upTo 28 = .ok (.iload_n 1, 1) := by decide +kernel
theorem dX0_upTo_29 : decode cX0_upTo 29 = .ok (.if_icmp .gt 66, 3) := by decide +kernel
theorem dX0_upTo_32 : decode cX0_upTo 32 = .ok (.iload 5, 2) := by decide +kernel
theorem dX0_upTo_34 : decode cX0_upTo 34 = .ok (.bipush 48, 2) := by decide +kernel
theorem dX0_upTo_36 : decode cX0_upTo 36 = .ok (.if_icmp .gt 59, 3) := by decide +kernel
theorem dX0_upTo_39 : decode cX0_upTo 39 = .ok (.aload_n 0, 1) := by decide +kernel
theorem dX0_upTo_40 : decode cX0_upTo 40 = .ok (.getfield 12, 3) := by decide +kernel
theorem dX0_upTo_43 : decode cX0_upTo 43 = .ok (.iload 4, 2) := by decide +kernel
theorem dX0_upTo_45 : decode cX0_upTo 45 = .ok (.invokevirtual 25, 3) := by decide +kernel
theorem dX0_upTo_48 : decode cX0_upTo 48 = .ok (.iload 5, 2) := by decide +kernel
theorem dX0_upTo_50 : decode cX0_upTo 50 = .ok (.iload_n 2, 1) := by decide +kernel
theorem dX0_upTo_51 : decode cX0_upTo 51 = .ok (.if_icmp .gt 38, 3) := by decide +kernel
theorem dX0_upTo_54 : decode cX0_upTo 54 = .ok (.aload_n 0, 1) := by decide +kernel
theorem dX0_upTo_55 : decode cX0_upTo 55 = .ok (.getfield 18, 3) := by decide +kernel
theorem dX0_upTo_58 : decode cX0_upTo 58 = .ok (.iload_n 1, 1) := by decide +kernel
theorem dX0_upTo_59 : decode cX0_upTo 59 = .ok (.iload 5, 2) := by decide +kernel
theorem dX0_upTo_61 : decode cX0_upTo 61 = .ok (.isub, 1) := by decide +kernel
theorem dX0_upTo_62 : decode cX0_upTo 62 = .ok (.iconst 1, 1) := by decide +kernel
theorem dX0_upTo_63 : decode cX0_upTo 63 = .ok (.iadd, 1) := by decide +kernel
theorem dX0_upTo_64 : decode cX0_upTo 64 = .ok (.iload_n 3, 1) := by decide +kernel
theorem dX0_upTo_65 : decode cX0_upTo 65 = .ok (.imul, 1) := by decide +kernel
theorem dX0_upTo_66 : decode cX0_upTo 66 = .ok (.invokevirtual 25, 3) := by decide +kernel
theorem dX0_upTo_69 : decode cX0_upTo 69 = .ok (.aload_n 0, 1) := by decide +kernel
theorem dX0_upTo_70 : decode cX0_upTo 70 = .ok (.getfield 18, 3) := by decide +kernel
theorem dX0_upTo_73 : decode cX0_upTo 73 = .ok (.iload 5, 2) := by decide +kernel
theorem dX0_upTo_75 : decode cX0_upTo 75 = .ok (.invokevirtual 28, 3) := by decide +kernel
theorem dX0_upTo_78 : decode cX0_upTo 78 = .ok (.aload_n 0, 1) := by decide +kernel
theorem dX0_upTo_79 : decode cX0_upTo 79 = .ok (.getfield 12, 3) := by decide +kernel
theorem dX0_upTo_82 : decode cX0_upTo 82 = .ok (.aload_n 0, 1) := by decide +kernel
theorem dX0_upTo_83 : decode cX0_upTo 83 = .ok (.getfield 18, 3) := by decide +kernel
theorem dX0_upTo_86 : decode cX0_upTo 86 = .ok (.invokevirtual 31, 3) := by decide +kernel
theorem dX0_upTo_89 : decode cX0_upTo 89 = .ok (.iinc 5 1, 3) := by decide +kernel
theorem dX0_upTo_92 : decode cX0_upTo 92 = .ok (.goto (-66), 3) := by decide +kernel
theorem dX0_upTo_95 : decode cX0_upTo 95 = .ok (.aload_n 0, 1) := by decide +kernel
theorem dX0_upTo_96 : decode cX0_upTo 96 = .ok (.getfield 12, 3) := by decide +kernel
theorem dX0_upTo_99 : decode cX0_upTo 99 = .ok (.areturn, 1) := by decide +kernel
theorem dX1_init_0 : decode cX1_init 0 = .ok (.aload_n 0, 1) := by decide +kernel
theorem dX1_init_1 : decode cX1_init 1 = .ok (.invokespecial 3, 3) := by decide +kernel
theorem dX1_init_4 : decode cX1_init 4 = .ok (.aload_n 0, 1) := by decide +kernel
theorem dX1_init_5 : decode cX1_init 5 = .ok (.bipush 17, 2) := by decide +kernel
theorem dX1_init_7 : decode cX1_init 7 = .ok (.newarray .long, 2) := by decide +kernel
theorem dX1_init_9 : decode cX1_init 9 = .ok (.putfield 11, 3) := by decide +kernel
theorem dX1_init_12 : decode cX1_init 12 = .ok (.return_, 1) := by decide +kernel
theorem dX1_setThousandths_0 : decode cX1_setThousandths 0 = .ok (.iconst 0, 1) := by decide +kernel
theorem dX1_setThousandths_1 : decode cX1_setThousandths 1 = .ok (.istore_n 2, 1) := by decide +kernel
theorem dX1_setThousandths_2 : decode cX1_setThousandths 2 = .ok (.iload_n 2, 1) := by decide +kernel
theorem dX1_setThousandths_3 : decode cX1_setThousandths 3 = .ok (.bipush 17, 2) := by decide +kernel
theorem dX1_setThousandths_5 : decode cX1_setThousandths 5 = .ok (.if_icmp .ge 16, 3) := by decide +kernel
theorem dX1_setThousandths_8 : decode cX1_setThousandths 8 = .ok (.aload_n 0, 1) := by decide +kernel
theorem dX1_setThousandths_9 : decode cX1_setThousandths 9 = .ok (.getfield 11, 3) := by decide +kernel
theorem dX1_setThousandths_12 : decode cX1_setThousandths 12 = .ok (.iload_n 2, 1) := by decide +kernel
theorem dX1_setThousandths_13 : decode cX1_setThousandths 13 = .ok (.lconst 0, 1) := by decide +kernel
theorem dX1_setThousandths_14 : decode cX1_setThousandths 14 = .ok (.lastore, 1) := by decide +kernel
theorem dX1_setThousandths_15 : decode cX1_setThousandths 15 = .ok (.iinc 2 1, 3) := by decide +kernel
theorem dX1_setThousandths_18 : decode cX1_setThousandths 18 = .ok (.goto (-16), 3) := by decide +kernel
theorem dX1_setThousandths_21 : decode cX1_setThousandths 21 = .ok (.bipush 48, 2) := by decide +kernel
theorem dX1_setThousandths_23 : decode cX1_setThousandths 23 = .ok (.iload_n 1, 1) := by decide +kernel
theorem dX1_setThousandths_24 : decode cX1_setThousandths 24 = .ok (.isub, 1) := by decide +kernel
theorem dX1_setThousandths_25 : decode cX1_setThousandths 25 = .ok (.istore_n 2, 1) := by decide +kernel
theorem dX1_setThousandths_26 : decode cX1_setThousandths 26 = .ok (.iload_n 2, 1) := by decide +kernel
theorem dX1_setThousandths_27 : decode cX1_setThousandths 27 = .ok (.iconst 3, 1) := by decide +kernel
theorem dX1_setThousandths_28 : decode cX1_setThousandths 28 = .ok (.idiv, 1) := by decide +kernel
theorem dX1_setThousandths_29 : decode cX1_setThousandths 29 = .ok (.istore_n 3, 1) := by decide +kernel
theorem dX1_setThousandths_30 : decode cX1_setThousandths 30 = .ok (.iload_n 2, 1) := by decide +kernel
theorem dX1_setThousandths_31 : decode cX1_setThousandths 31 = .ok (.ifCond .lt 9, 3) := by decide +kernel
theorem dX1_setThousandths_34 : decode cX1_setThousandths 34 = .ok (.iload_n 3, 1) := by decide +kernel
theorem dX1_setThousandths_35 : decode cX1_setThousandths 35 = .ok (.bipush 17, 2) := by decide +kernel
theorem dX1_setThousandths_37 : decode cX1_setThousandths 37 = .ok (.if_icmp .lt 4, 3) := by decide +kernel
theorem dX1_setThousandths_40 : decode cX1_setThousandths 40 = .ok (.return_, 1) := by decide +kernel
theorem dX1_setThousandths_41 : decode cX1_setThousandths 41 = .ok (.aload_n 0, 1) := by decide +kernel
theorem dX1_setThousandths_42 : decode cX1_setThousandths 42 = .ok (.getfield 11, 3) := by decide +kernel
theorem dX1_setThousandths_45 : decode cX1_setThousandths 45 = .ok (.iload_n 3, 1) := by decide +kernel
theorem dX1_setThousandths_46 : decode cX1_setThousandths 46 = .ok (.lconst 1, 1) := by decide +kernel
theorem dX1_setThousandths_47 : decode cX1_setThousandths 47 = .ok (.lastore, 1) := by decide +kernel
theorem dX1_setThousandths_48 : decode cX1_setThousandths 48 = .ok (.iconst 0, 1) := by decide +kernel
theorem dX1_setThousandths_49 : decode cX1_setThousandths 49 = .ok (.istore 4, 2) := by decide +kernel
theorem dX1_setThousandths_51 : decode cX1_setThousandths 51 = .ok (.iload 4, 2) := by decide +kernel
theorem dX1_setThousandths_53 : decode cX1_setThousandths 53 = .ok (.iload_n 2, 1) := by decide +kernel
theorem dX1_setThousandths_54 : decode cX1_setThousandths 54 = .ok (.iconst 3, 1) := by decide +kernel
theorem dX1_setThousandths_55 : decode cX1_setThousandths 55 = .ok (.irem, 1) := by decide +kernel
theorem dX1_setThousandths_56 : decode cX1_setThousandths 56 = .ok (.if_icmp .ge 21, 3) := by decide +kernel
theorem dX1_setThousandths_59 : decode cX1_setThousandths 59 = .ok (.aload_n 0, 1) := by decide +kernel
theorem dX1_setThousandths_60 : decode cX1_setThousandths 60 = .ok (.getfield 11, 3) := by decide +kernel
theorem dX1_setThousandths_63 : decode cX1_setThousandths 63 = .ok (.iload_n 3, 1) := by decide +kernel
theorem dX1_setThousandths_64 : decode cX1_setThousandths 64 = .ok (.dup2, 1) := by decide +kernel
theorem dX1_setThousandths_65 : decode cX1_setThousandths 65 = .ok (.laload, 1) := by decide +kernel
theorem dX1_setThousandths_66 : decode cX1_setThousandths 66 = .ok (.ldc2_w 15, 3) := by decide +kernel
theorem dX1_setThousandths_69 : decode cX1_setThousandths 69 = .ok (.lmul, 1) := by decide +kernel
theorem dX1_setThousandths_70 : decode cX1_setThousandths 70 = .ok (.lastore, 1) := by decide +kernel
theorem dX1_setThousandths_71 : decode cX1_setThousandths 71 = .ok (.iinc 4 1, 3) := by decide +kernel
theorem dX1_setThousandths_74 : decode cX1_setThousandths 74 = .ok (.goto (-23), 3) := by decide +kernel
theorem dX1_setThousandths_77 : decode cX1_setThousandths 77 = .ok (.return_, 1) := by decide +kernel
theorem dX1_multiply_0 : decode cX1_multiply 0 = .ok (.lconst 0, 1) := by decide +kernel
theorem dX1_multiply_1 : decode cX1_multiply 1 = .ok (.lstore_n 2, 1) := by decide +kernel
theorem dX1_multiply_2 : decode cX1_multiply 2 = .ok (.iconst 0, 1) := by decide +kernel
theorem dX1_multiply_3 : decode cX1_multiply 3 = .ok (.istore 4, 2) := by decide +kernel
theorem dX1_multiply_5 : decode cX1_multiply 5 = .ok (.iload 4, 2) := by decide +kernel
theorem dX1_multiply_7 : decode cX1_multiply 7 = .ok (.bipush 17, 2) := by decide +kernel
theorem dX1_multiply_9 : decode cX1_multiply 9 = .ok (.if_icmp .ge 45, 3) := by decide +kernel
theorem dX1_multiply_12 : decode cX1_multiply 12 = .ok (.aload_n 0, 1) := by decide +kernel
theorem dX1_multiply_13 : decode cX1_multiply 13 = .ok (.getfield 11, 3) := by decide +kernel
theorem dX1_multiply_16 : decode cX1_multiply 16 = .ok (.iload 4, 2) := by decide +kernel
theorem dX1_multiply_18 : decode cX1_multiply 18 = .ok (.laload, 1) := by decide +kernel
theorem dX1_multiply_19 : decode cX1_multiply 19 = .ok (.iload_n 1, 1) := by decide +kernel
theorem dX1_multiply_20 : decode cX1_multiply 20 = .ok (.i2l, 1) := by decide +kernel
theorem dX1_multiply_21 : decode cX1_multiply 21 = .ok (.lmul, 1) := by decide +kernel
theorem dX1_multiply_22 : decode cX1_multiply 22 = .ok (.lload_n 2, 1) := by decide +kernel
theorem dX1_multiply_23 : decode cX1_multiply 23 = .ok (.ladd, 1) := by decide +kernel
theorem dX1_multiply_24 : decode cX1_multiply 24 = .ok (.lstore 5, 2) := by decide +kernel
theorem dX1_multiply_26 : decode cX1_multiply 26 = .ok (.lload 5, 2) := by decide +kernel
theorem dX1_multiply_28 : decode cX1_multiply 28 = .ok (.ldc2_w 17, 3) := by decide +kernel
theorem dX1_multiply_31 : decode cX1_multiply 31 = .ok (.ldiv, 1) := by decide +kernel
theorem dX1_multiply_32 : decode cX1_multiply 32 = .ok (.lstore_n 2, 1) := by decide +kernel
theorem dX1_multiply_33 : decode cX1_multiply 33 = .ok (.aload_n 0, 1) := by decide +kernel
theorem dX1_multiply_34 : decode cX1_multiply 34 = .ok (.getfield 11, 3) := by decide +kernel
theorem dX1_multiply_37 : decode cX1_multiply 37 = .ok (.iload 4, 2) := by decide +kernel
theorem dX1_multiply_39 : decode cX1_multiply 39 = .ok (.lload 5, 2) := by decide +kernel
theorem dX1_multiply_41 : decode cX1_multiply 41 = .ok (.lload_n 2, 1) := by decide +kernel
theorem dX1_multiply_42 : decode cX1_multiply 42 = .ok (.ldc2_w 17, 3) := by decide +kernel
theorem dX1_multiply_45 : decode cX1_multiply 45 = .ok (.lmul, 1) := by decide +kernel
theorem dX1_multiply_46 : decode cX1_multiply 46 = .ok (.lsub, 1) := by decide +kernel
theorem dX1_multiply_47 : decode cX1_multiply 47 = .ok (.lastore, 1) := by decide +kernel
theorem dX1_multiply_48 : decode cX1_multiply 48 = .ok (.iinc 4 1, 3) := by decide +kernel
theorem dX1_multiply_51 : decode cX1_multiply 51 = .ok (.goto (-46), 3) := by decide +kernel
theorem dX1_multiply_54 : decode cX1_multiply 54 = .ok (.return_, 1) := by decide +kernel
theorem dX1_divide_0 : decode cX1_divide 0 = .ok (.iload_n 1, 1) := by decide +kernel
theorem dX1_divide_1 : decode cX1_divide 1 = .ok (.ifCond .gt 4, 3) := by decide +kernel
theorem dX1_divide_4 : decode cX1_divide 4 = .ok (.return_, 1) := by decide +kernel
theorem dX1_divide_5 : decode cX1_divide 5 = .ok (.lconst 0, 1) := by decide +kernel
theorem dX1_divide_6 : decode cX1_divide 6 = .ok (.lstore_n 2, 1) := by decide +kernel
theorem dX1_divide_7 : decode cX1_divide 7 = .ok (.bipush 16, 2) := by decide +kernel
theorem dX1_divide_9 : decode cX1_divide 9 = .ok (.istore 4, 2) := by decide +kernel
theorem dX1_divide_11 : decode cX1_divide 11 = .ok (.iload 4, 2) := by decide +kernel
theorem dX1_divide_13 : decode cX1_divide 13 = .ok (.ifCond .lt 50, 3) := by decide +kernel
theorem dX1_divide_16 : decode cX1_divide 16 = .ok (.lload_n 2, 1) := by decide +kernel
theorem dX1_divide_17 : decode cX1_divide 17 = .ok (.ldc2_w 17, 3) := by decide +kernel
theorem dX1_divide_20 : decode cX1_divide 20 = .ok (.lmul, 1) := by decide +kernel
theorem dX1_divide_21 : decode cX1_divide 21 = .ok (.aload_n 0, 1) := by decide +kernel
theorem dX1_divide_22 : decode cX1_divide 22 = .ok (.getfield 11, 3) := by decide +kernel
theorem dX1_divide_25 : decode cX1_divide 25 = .ok (.iload 4, 2) := by decide +kernel
theorem dX1_divide_27 : decode cX1_divide 27 = .ok (.laload, 1) := by decide +kernel
theorem dX1_divide_28 : decode cX1_divide 28 = .ok (.ladd, 1) := by decide +kernel
theorem dX1_divide_29 : decode cX1_divide 29 = .ok (.lstore 5, 2) := by decide +kernel
theorem dX1_divide_31 : decode cX1_divide 31 = .ok (.aload_n 0, 1) := by decide +kernel
theorem dX1_divide_32 : decode cX1_divide 32 = .ok (.getfield 11, 3) := by decide +kernel
theorem dX1_divide_35 : decode cX1_divide 35 = .ok (.iload 4, 2) := by decide +kernel
theorem dX1_divide_37 : decode cX1_divide 37 = .ok (.lload 5, 2) := by decide +kernel
theorem dX1_divide_39 : decode cX1_divide 39 = .ok (.iload_n 1, 1) := by decide +kernel
theorem dX1_divide_40 : decode cX1_divide 40 = .ok (.i2l, 1) := by decide +kernel
theorem dX1_divide_41 : decode cX1_divide 41 = .ok (.ldiv, 1) := by decide +kernel
theorem dX1_divide_42 : decode cX1_divide 42 = .ok (.lastore, 1) := by decide +kernel
theorem dX1_divide_43 : decode cX1_divide 43 = .ok (.lload 5, 2) := by decide +kernel
theorem dX1_divide_45 : decode cX1_divide 45 = .ok (.aload_n 0, 1) := by decide +kernel
theorem dX1_divide_46 : decode cX1_divide 46 = .ok (.getfield 11, 3) := by decide +kernel
theorem dX1_divide_49 : decode cX1_divide 49 = .ok (.iload 4, 2) := by decide +kernel
theorem dX1_divide_51 : decode cX1_divide 51 = .ok (.laload, 1) := by decide +kernel
theorem dX1_divide_52 : decode cX1_divide 52 = .ok (.iload_n 1, 1) := by decide +kernel
theorem dX1_divide_53 : decode cX1_divide 53 = .ok (.i2l, 1) := by decide +kernel
theorem dX1_divide_54 : decode cX1_divide 54 = .ok (.lmul, 1) := by decide +kernel
theorem dX1_divide_55 : decode cX1_divide 55 = .ok (.lsub, 1) := by decide +kernel
theorem dX1_divide_56 : decode cX1_divide 56 = .ok (.lstore_n 2, 1) := by decide +kernel
theorem dX1_divide_57 : decode cX1_divide 57 = .ok (.iinc 4 (-1), 3) := by decide +kernel
theorem dX1_divide_60 : decode cX1_divide 60 = .ok (.goto (-49), 3) := by decide +kernel
theorem dX1_divide_63 : decode cX1_divide 63 = .ok (.return_, 1) := by decide +kernel
theorem dX1_add_0 : decode cX1_add 0 = .ok (.aload_n 1, 1) := by decide +kernel
theorem dX1_add_1 : decode cX1_add 1 = .ok (.ifnonnull 4, 3) := by decide +kernel
theorem dX1_add_4 : decode cX1_add 4 = .ok (.return_, 1) := by decide +kernel
theorem dX1_add_5 : decode cX1_add 5 = .ok (.lconst 0, 1) := by decide +kernel
theorem dX1_add_6 : decode cX1_add 6 = .ok (.lstore_n 2, 1) := by decide +kernel
theorem dX1_add_7 : decode cX1_add 7 = .ok (.iconst 0, 1) := by decide +kernel
theorem dX1_add_8 : decode cX1_add 8 = .ok (.istore 4, 2) := by decide +kernel
theorem dX1_add_10 : decode cX1_add 10 = .ok (.iload 4, 2) := by decide +kernel
theorem dX1_add_12 : decode cX1_add 12 = .ok (.bipush 17, 2) := by decide +kernel
theorem dX1_add_14 : decode cX1_add 14 = .ok (.if_icmp .ge 58, 3) := by decide +kernel
theorem dX1_add_17 : decode cX1_add 17 = .ok (.aload_n 0, 1) := by decide +kernel
theorem dX1_add_18 : decode cX1_add 18 = .ok (.getfield 11, 3) := by decide +kernel
theorem dX1_add_21 : decode cX1_add 21 = .ok (.iload 4, 2) := by decide +kernel
theorem dX1_add_23 : decode cX1_add 23 = .ok (.laload, 1) := by decide +kernel
theorem dX1_add_24 : decode cX1_add 24 = .ok (.aload_n 1, 1) := by decide +kernel
theorem dX1_add_25 : decode cX1_add 25 = .ok (.getfield 11, 3) := by decide +kernel
theorem dX1_add_28 : decode cX1_add 28 = .ok (.iload 4, 2) := by decide +kernel
theorem dX1_add_30 : decode cX1_add 30 = .ok (.laload, 1) := by decide +kernel
theorem dX1_add_31 : decode cX1_add 31 = .ok (.ladd, 1) := by decide +kernel
theorem dX1_add_32 : decode cX1_add 32 = .ok (.lload_n 2, 1) := by decide +kernel
theorem dX1_add_33 : decode cX1_add 33 = .ok (.ladd, 1) := by decide +kernel
theorem dX1_add_34 : decode cX1_add 34 = .ok (.lstore 5, 2) := by decide +kernel
theorem dX1_add_36 : decode cX1_add 36 = .ok (.lload 5, 2) := by decide +kernel
theorem dX1_add_38 : decode cX1_add 38 = .ok (.ldc2_w 17, 3) := by decide +kernel
theorem dX1_add_41 : decode cX1_add 41 = .ok (.lcmp, 1) := by decide +kernel
theorem dX1_add_42 : decode cX1_add 42 = .ok (.ifCond .lt 7, 3) := by decide +kernel
theorem dX1_add_45 : decode cX1_add 45 = .ok (.lconst 1, 1) := by decide +kernel
theorem dX1_add_46 : decode cX1_add 46 = .ok (.goto 4, 3) := by decide +kernel
theorem dX1_add_49 : decode cX1_add 49 = .ok (.lconst 0, 1) := by decide +kernel
theorem dX1_add_50 : decode cX1_add 50 = .ok (.lstore_n 2, 1) := by decide +kernel
theorem dX1_add_51 : decode cX1_add 51 = .ok (.aload_n 0, 1) := by decide +kernel
theorem dX1_add_52 : decode cX1_add 52 = .ok (.getfield 11, 3) := by decide +kernel
theorem dX1_add_55 : decode cX1_add 55 = .ok (.iload 4, 2) := by decide +kernel
theorem dX1_add_57 : decode cX1_add 57 = .ok (.lload 5, 2) := by decide +kernel
theorem dX1_add_59 : decode cX1_add 59 = .ok (.lload_n 2, 1) := by decide +kernel
theorem dX1_add_60 : decode cX1_add 60 = .ok (.ldc2_w 17, 3) := by decide +kernel
theorem dX1_add_63 : decode cX1_add 63 = .ok (.lmul, 1) := by decide +kernel
theorem dX1_add_64 : decode cX1_add 64 = .ok (.lsub, 1) := by decide +kernel
theorem dX1_add_65 : decode cX1_add 65 = .ok (.lastore, 1) := by decide +kernel
theorem dX1_add_66 : decode cX1_add 66 = .ok (.iinc 4 1, 3) := by decide +kernel
theorem dX1_add_69 : decode cX1_add 69 = .ok (.goto (-59), 3) := by decide +kernel
theorem dX1_add_72 : decode cX1_add 72 = .ok (.return_, 1) := by decide +kernel
theorem dX1_isAbove_0 : decode cX1_isAbove 0 = .ok (.aload_n 0, 1) := by decide +kernel
theorem dX1_isAbove_1 : decode cX1_isAbove 1 = .ok (.getfield 11, 3) := by decide +kernel
theorem dX1_isAbove_4 : decode cX1_isAbove 4 = .ok (.bipush 16, 2) := by decide +kernel
theorem dX1_isAbove_6 : decode cX1_isAbove 6 = .ok (.laload, 1) := by decide +kernel
theorem dX1_isAbove_7 : decode cX1_isAbove 7 = .ok (.lconst 0, 1) := by decide +kernel
theorem dX1_isAbove_8 : decode cX1_isAbove 8 = .ok (.lcmp, 1) := by decide +kernel
theorem dX1_isAbove_9 : decode cX1_isAbove 9 = .ok (.ifCond .le 5, 3) := by decide +kernel
theorem dX1_isAbove_12 : decode cX1_isAbove 12 = .ok (.iconst 1, 1) := by decide +kernel
theorem dX1_isAbove_13 : decode cX1_isAbove 13 = .ok (.ireturn, 1) := by decide +kernel
theorem dX1_isAbove_14 : decode cX1_isAbove 14 = .ok (.aload_n 0, 1) := by decide +kernel
theorem dX1_isAbove_15 : decode cX1_isAbove 15 = .ok (.getfield 11, 3) := by decide +kernel
theorem dX1_isAbove_18 : decode cX1_isAbove 18 = .ok (.bipush 15, 2) := by decide +kernel
theorem dX1_isAbove_20 : decode cX1_isAbove 20 = .ok (.laload, 1) := by decide +kernel
theorem dX1_isAbove_21 : decode cX1_isAbove 21 = .ok (.lstore_n 2, 1) := by decide +kernel
theorem dX1_isAbove_22 : decode cX1_isAbove 22 = .ok (.iload_n 1, 1) := by decide +kernel
theorem dX1_isAbove_23 : decode cX1_isAbove 23 = .ok (.i2l, 1) := by decide +kernel
theorem dX1_isAbove_24 : decode cX1_isAbove 24 = .ok (.ldc2_w 19, 3) := by decide +kernel
theorem dX1_isAbove_27 : decode cX1_isAbove 27 = .ok (.lmul, 1) := by decide +kernel
theorem dX1_isAbove_28 : decode cX1_isAbove 28 = .ok (.lstore 4, 2) := by decide +kernel
theorem dX1_isAbove_30 : decode cX1_isAbove 30 = .ok (.lload_n 2, 1) := by decide +kernel
theorem dX1_isAbove_31 : decode cX1_isAbove 31 = .ok (.lload 4, 2) := by decide +kernel
theorem dX1_isAbove_33 : decode cX1_isAbove 33 = .ok (.lcmp, 1) := by decide +kernel
theorem dX1_isAbove_34 : decode cX1_isAbove 34 = .ok (.ifCond .eq 16, 3) := by decide +kernel
theorem dX1_isAbove_37 : decode cX1_isAbove 37 = .ok (.lload_n 2, 1) := by decide +kernel
theorem dX1_isAbove_38 : decode cX1_isAbove 38 = .ok (.lload 4, 2) := by decide +kernel
theorem dX1_isAbove_40 : decode cX1_isAbove 40 = .ok (.lcmp, 1) := by decide +kernel
theorem dX1_isAbove_41 : decode cX1_isAbove 41 = .ok (.ifCond .le 7, 3) := by decide +kernel
theorem dX1_isAbove_44 : decode cX1_isAbove 44 = .ok (.iconst 1, 1) := by decide +kernel
theorem dX1_isAbove_45 : decode cX1_isAbove 45 = .ok (.goto 4, 3) := by decide +kernel
theorem dX1_isAbove_48 : decode cX1_isAbove 48 = .ok (.iconst 0, 1) := by decide +kernel
theorem dX1_isAbove_49 : decode cX1_isAbove 49 = .ok (.ireturn, 1) := by decide +kernel
theorem dX1_isAbove_50 : decode cX1_isAbove 50 = .ok (.iconst 0, 1) := by decide +kernel
theorem dX1_isAbove_51 : decode cX1_isAbove 51 = .ok (.istore 6, 2) := by decide +kernel
theorem dX1_isAbove_53 : decode cX1_isAbove 53 = .ok (.iload 6, 2) := by decide +kernel
theorem dX1_isAbove_55 : decode cX1_isAbove 55 = .ok (.bipush 15, 2) := by decide +kernel
theorem dX1_isAbove_57 : decode cX1_isAbove 57 = .ok (.if_icmp .ge 23, 3) := by decide +kernel
theorem dX1_isAbove_60 : decode cX1_isAbove 60 = .ok (.aload_n 0, 1) := by decide +kernel
theorem dX1_isAbove_61 : decode cX1_isAbove 61 = .ok (.getfield 11, 3) := by decide +kernel
theorem dX1_isAbove_64 : decode cX1_isAbove 64 = .ok (.iload 6, 2) := by decide +kernel
theorem dX1_isAbove_66 : decode cX1_isAbove 66 = .ok (.laload, 1) := by decide +kernel
theorem dX1_isAbove_67 : decode cX1_isAbove 67 = .ok (.lconst 0, 1) := by decide +kernel
theorem dX1_isAbove_68 : decode cX1_isAbove 68 = .ok (.lcmp, 1) := by decide +kernel
theorem dX1_isAbove_69 : decode cX1_isAbove 69 = .ok (.ifCond .eq 5, 3) := by decide +kernel
theorem dX1_isAbove_72 : decode cX1_isAbove 72 = .ok (.iconst 1, 1) := by decide +kernel
theorem dX1_isAbove_73 : decode cX1_isAbove 73 = .ok (.ireturn, 1) := by decide +kernel
theorem dX1_isAbove_74 : decode cX1_isAbove 74 = .ok (.iinc 6 1, 3) := by decide +kernel
theorem dX1_isAbove_77 : decode cX1_isAbove 77 = .ok (.goto (-24), 3) := by decide +kernel
theorem dX1_isAbove_80 : decode cX1_isAbove 80 = .ok (.iconst 0, 1) := by decide +kernel
theorem dX1_isAbove_81 : decode cX1_isAbove 81 = .ok (.ireturn, 1) := by decide +kernel
theorem dX1_cutTo_0 : decode cX1_cutTo 0 = .ok (.aload_n 0, 1) := by decide +kernel
theorem dX1_cutTo_1 : decode cX1_cutTo 1 = .ok (.getfield 11, 3) := by decide +kernel
theorem dX1_cutTo_4 : decode cX1_cutTo 4 = .ok (.bipush 16, 2) := by decide +kernel
theorem dX1_cutTo_6 : decode cX1_cutTo 6 = .ok (.laload, 1) := by decide +kernel
theorem dX1_cutTo_7 : decode cX1_cutTo 7 = .ok (.ldc2_w 17, 3) := by decide +kernel
theorem dX1_cutTo_10 : decode cX1_cutTo 10 = .ok (.lmul, 1) := by decide +kernel
theorem dX1_cutTo_11 : decode cX1_cutTo 11 = .ok (.aload_n 0, 1) := by decide +kernel
theorem dX1_cutTo_12 : decode cX1_cutTo 12 = .ok (.getfield 11, 3) := by decide +kernel
theorem dX1_cutTo_15 : decode cX1_cutTo 15 = .ok (.bipush 15, 2) := by decide +kernel
theorem dX1_cutTo_17 : decode cX1_cutTo 17 = .ok (.laload, 1) := by decide +kernel
theorem dX1_cutTo_18 : decode cX1_cutTo 18 = .ok (.ladd, 1) := by decide +kernel
theorem dX1_cutTo_19 : decode cX1_cutTo 19 = .ok (.ldc2_w 17, 3) := by decide +kernel
theorem dX1_cutTo_22 : decode cX1_cutTo 22 = .ok (.lmul, 1) := by decide +kernel
theorem dX1_cutTo_23 : decode cX1_cutTo 23 = .ok (.aload_n 0, 1) := by decide +kernel
theorem dX1_cutTo_24 : decode cX1_cutTo 24 = .ok (.getfield 11, 3) := by decide +kernel
theorem dX1_cutTo_27 : decode cX1_cutTo 27 = .ok (.bipush 14, 2) := by decide +kernel
theorem dX1_cutTo_29 : decode cX1_cutTo 29 = .ok (.laload, 1) := by decide +kernel
theorem dX1_cutTo_30 : decode cX1_cutTo 30 = .ok (.ladd, 1) := by decide +kernel
theorem dX1_cutTo_31 : decode cX1_cutTo 31 = .ok (.lstore_n 2, 1) := by decide +kernel
theorem dX1_cutTo_32 : decode cX1_cutTo 32 = .ok (.iload_n 1, 1) := by decide +kernel
theorem dX1_cutTo_33 : decode cX1_cutTo 33 = .ok (.istore 4, 2) := by decide +kernel
theorem dX1_cutTo_35 : decode cX1_cutTo 35 = .ok (.iload 4, 2) := by decide +kernel
theorem dX1_cutTo_37 : decode cX1_cutTo 37 = .ok (.bipush 18, 2) := by decide +kernel
theorem dX1_cutTo_39 : decode cX1_cutTo 39 = .ok (.if_icmp .ge 15, 3) := by decide +kernel
theorem dX1_cutTo_42 : decode cX1_cutTo 42 = .ok (.lload_n 2, 1) := by decide +kernel
theorem dX1_cutTo_43 : decode cX1_cutTo 43 = .ok (.ldc2_w 21, 3) := by decide +kernel
theorem dX1_cutTo_46 : decode cX1_cutTo 46 = .ok (.ldiv, 1) := by decide +kernel
theorem dX1_cutTo_47 : decode cX1_cutTo 47 = .ok (.lstore_n 2, 1) := by decide +kernel
theorem dX1_cutTo_48 : decode cX1_cutTo 48 = .ok (.iinc 4 1, 3) := by decide +kernel
theorem dX1_cutTo_51 : decode cX1_cutTo 51 = .ok (.goto (-16), 3) := by decide +kernel
theorem dX1_cutTo_54 : decode cX1_cutTo 54 = .ok (.lload_n 2, 1) := by decide +kernel
theorem dX1_cutTo_55 : decode cX1_cutTo 55 = .ok (.lreturn, 1) := by decide +kernel
theorem dX2_init_0 : decode cX2_init 0 = .ok (.aload_n 0, 1) := by decide +kernel
theorem dX2_init_1 : decode cX2_init 1 = .ok (.invokespecial 3, 3) := by decide +kernel
theorem dX2_init_4 : decode cX2_init 4 = .ok (.aload_n 0, 1) := by decide +kernel
theorem dX2_init_5 : decode cX2_init 5 = .ok (.bipush 48, 2) := by decide +kernel
theorem dX2_init_7 : decode cX2_init 7 = .ok (.newarray .int, 2) := by decide +kernel
theorem dX2_init_9 : decode cX2_init 9 = .ok (.putfield 9, 3) := by decide +kernel
theorem dX2_init_12 : decode cX2_init 12 = .ok (.aload_n 0, 1) := by decide +kernel
theorem dX2_init_13 : decode cX2_init 13 = .ok (.bipush 48, 2) := by decide +kernel
theorem dX2_init_15 : decode cX2_init 15 = .ok (.newarray .boolean, 2) := by decide +kernel
theorem dX2_init_17 : decode cX2_init 17 = .ok (.putfield 15, 3) := by decide +kernel
theorem dX2_init_20 : decode cX2_init 20 = .ok (.aload_n 0, 1) := by decide +kernel
theorem dX2_init_21 : decode cX2_init 21 = .ok (.iconst (-1), 1) := by decide +kernel
theorem dX2_init_22 : decode cX2_init 22 = .ok (.putfield 19, 3) := by decide +kernel
theorem dX2_init_25 : decode cX2_init 25 = .ok (.return_, 1) := by decide +kernel
set_option maxRecDepth 20000 in
theorem ggX2_add_X2_recount : GoodIn wsX2_add wsX2_recount := goodIn_r _ [9, 10, 11, 12, 1, 3, 4, 13, 14, 15, 8, 16, 17, 18, 19, 20, 21, 22, 23, 24, 25, 26, 27] (by decide +kernel) (by decide +kernel)
set_option maxRecDepth 20000 in
theorem gX2_add_X2_recount : GoodIn wsX2_add (wsV RX2 29 RX2 yX2_recount wsX2_recount) := goodIn_app (goodIn_of _ (by decide +kernel)) ggX2_add_X2_recount
theorem dX2_add_0 : decode cX2_add 0 = .ok (.aload_n 0, 1) := by decide +kernel
theorem dX2_add_1 : decode cX2_add 1 = .ok (.getfield 23, 3) := by decide +kernel
theorem dX2_add_4 : decode cX2_add 4 = .ok (.istore_n 3, 1) := by decide +kernel
theorem dX2_add_5 : decode cX2_add 5 = .ok (.aload_n 0, 1) := by decide +kernel
theorem dX2_add_6 : decode cX2_add 6 = .ok (.getfield 23, 3) := by decide +kernel
theorem dX2_add_9 : decode cX2_add 9 = .ok (.bipush 48, 2) := by decide +kernel
theorem dX2_add_11 : decode cX2_add 11 = .ok (.if_icmp .ge 16, 3) := by decide +kernel
theorem dX2_add_14 : decode cX2_add 14 = .ok (.aload_n 0, 1) := by decide +kernel
theorem dX2_add_15 : decode cX2_add 15 = .ok (.dup, 1) := by decide +kernel
theorem dX2_add_16 : decode cX2_add 16 = .ok (.getfield 23, 3) := by decide +kernel
theorem dX2_add_19 : decode cX2_add 19 = .ok (.iconst 1, 1) := by decide +kernel
theorem dX2_add_20 : decode cX2_add 20 = .ok (.iadd, 1) := by decide +kernel
theorem dX2_add_21 : decode cX2_add 21 = .ok (.putfield 23, 3) := by decide +kernel
theorem dX2_add_24 : decode cX2_add 24 = .ok (.goto 33, 3) := by decide +kernel
theorem dX2_add_27 : decode cX2_add 27 = .ok (.aload_n 0, 1) := by decide +kernel
theorem dX2_add_28 : decode cX2_add 28 = .ok (.getfield 26, 3) := by decide +kernel
theorem dX2_add_31 : decode cX2_add 31 = .ok (.istore_n 3, 1) := by decide +kernel
theorem dX2_add_32 : decode cX2_add 32 = .ok (.aload_n 0, 1) := by decide +kernel
theorem dX2_add_33 : decode cX2_add 33 = .ok (.aload_n 0, 1) := by decide +kernel
theorem dX2_add_34 : decode cX2_add 34 = .ok (.getfield 26, 3) := by decide +kernel
theorem dX2_add_37 : decode cX2_add 37 = .ok (.iconst 1, 1) := by decide +kernel
theorem dX2_add_38 : decode cX2_add 38 = .ok (.iadd, 1) := by decide +kernel
theorem dX2_add_39 : decode cX2_add 39 = .ok (.bipush 48, 2) := by decide +kernel
theorem dX2_add_41 : decode cX2_add 41 = .ok (.if_icmp .ge 12, 3) := by decide +kernel
theorem dX2_add_44 : decode cX2_add 44 = .ok (.aload_n 0, 1) := by decide +kernel
theorem dX2_add_45 : decode cX2_add 45 = .ok (.getfield 26, 3) := by decide +kernel
theorem dX2_add_48 : decode cX2_add 48 = .ok (.iconst 1, 1) := by decide +kernel
theorem dX2_add_49 : decode cX2_add 49 = .ok (.iadd, 1) := by decide +kernel
theorem dX2_add_50 : decode cX2_add 50 = .ok (.goto 4, 3) := by decide +kernel
theorem dX2_add_53 : decode cX2_add 53 = .ok (.iconst 0, 1) := by decide +kernel
theorem dX2_add_54 : decode cX2_add 54 = .ok (.putfield 26, 3) := by decide +kernel
theorem dX2_add_57 : decode cX2_add 57 = .ok (.iload_n 3, 1) := by decide +kernel
theorem dX2_add_58 : decode cX2_add 58 = .ok (.ifCond .lt 23, 3) := by decide +kernel
theorem dX2_add_61 : decode cX2_add 61 = .ok (.iload_n 3, 1) := by decide +kernel
theorem dX2_add_62 : decode cX2_add 62 = .ok (.bipush 48, 2) := by decide +kernel
theorem dX2_add_64 : decode cX2_add 64 = .ok (.if_icmp .ge 17, 3) := by decide +kernel
theorem dX2_add_67 : decode cX2_add 67 = .ok (.aload_n 0, 1) := by decide +kernel
theorem dX2_add_68 : decode cX2_add 68 = .ok (.getfield 9, 3) := by decide +kernel
theorem dX2_add_71 : decode cX2_add 71 = .ok (.iload_n 3, 1) := by decide +kernel
theorem dX2_add_72 : decode cX2_add 72 = .ok (.iload_n 1, 1) := by decide +kernel
theorem dX2_add_73 : decode cX2_add 73 = .ok (.iastore, 1) := by decide +kernel
theorem dX2_add_74 : decode cX2_add 74 = .ok (.aload_n 0, 1) := by decide +kernel
theorem dX2_add_75 : decode cX2_add 75 = .ok (.getfield 15, 3) := by decide +kernel
theorem dX2_add_78 : decode cX2_add 78 = .ok (.iload_n 3, 1) := by decide +kernel
theorem dX2_add_79 : decode cX2_add 79 = .ok (.iload_n 2, 1) := by decide +kernel
theorem dX2_add_80 : decode cX2_add 80 = .ok (.bastore, 1) := by decide +kernel
theorem dX2_add_81 : decode cX2_add 81 = .ok (.aload_n 0, 1) := by decide +kernel
theorem dX2_add_82 : decode cX2_add 82 = .ok (.invokevirtual 29, 3) := by decide +kernel
theorem dX2_add_85 : decode cX2_add 85 = .ok (.return_, 1) := by decide +kernel
set_option maxRecDepth 20000 in
theorem ggX2_hasOnlyFails_X2_has : GoodIn wsX2_hasOnlyFails wsX2_has := goodIn_r _ [5, 6, 7, 8, 9, 10, 11, 12, 13, 14, 15, 16, 17, 18, 19] (by decide +kernel) (by decide +kernel)
set_option maxRecDepth 20000 in
theorem gX2_hasOnlyFails_X2_has : GoodIn wsX2_hasOnlyFails (wsV RX2 32 RX2 yX2_has wsX2_has) := goodIn_app (goodIn_of _ (by decide +kernel)) ggX2_hasOnlyFails_X2_has
theorem dX2_hasOnlyFails_0 : decode cX2_hasOnlyFails 0 = .ok (.aload_n 0, 1) := by decide +kernel
theorem dX2_hasOnlyFails_1 : decode cX2_hasOnlyFails 1 = .ok (.iload_n 1, 1) := by decide +kernel
theorem dX2_hasOnlyFails_2 : decode cX2_hasOnlyFails 2 = .ok (.iconst 0, 1) := by decide +kernel
theorem dX2_hasOnlyFails_3 : decode cX2_hasOnlyFails 3 = .ok (.invokevirtual 32, 3) := by decide +kernel
theorem dX2_hasOnlyFails_6 : decode cX2_hasOnlyFails 6 = .ok (.ifCond .eq 16, 3) := by decide +kernel
theorem dX2_hasOnlyFails_9 : decode cX2_hasOnlyFails 9 = .ok (.aload_n 0, 1) := by decide +kernel
theorem dX2_hasOnlyFails_10 : decode cX2_hasOnlyFails 10 = .ok (.iload_n 1, 1) := by decide +kernel
theorem dX2_hasOnlyFails_11 : decode cX2_hasOnlyFails 11 = .ok (.iconst 1, 1) := by decide +kernel
theorem dX2_hasOnlyFails_12 : decode cX2_hasOnlyFails 12 = .ok (.invokevirtual 32, 3) := by decide +kernel
theorem dX2_hasOnlyFails_15 : decode cX2_hasOnlyFails 15 = .ok (.ifCond .ne 7, 3) := by decide +kernel
theorem dX2_hasOnlyFails_18 : decode cX2_hasOnlyFails 18 = .ok (.iconst 1, 1) := by decide +kernel
theorem dX2_hasOnlyFails_19 : decode cX2_hasOnlyFails 19 = .ok (.goto 4, 3) := by decide +kernel
theorem dX2_hasOnlyFails_22 : decode cX2_hasOnlyFails 22 = .ok (.iconst 0, 1) := by decide +kernel
theorem dX2_hasOnlyFails_23 : decode cX2_hasOnlyFails 23 = .ok (.ireturn, 1) := by decide +kernel
set_option maxRecDepth 20000 in
theorem ggX2_nextVerdict_X2_verdictOfPass : GoodIn wsX2_nextVerdict wsX2_verdictOfPass := goodIn_r _ [7, 2, 13, 14, 15, 16, 17, 18, 19, 20, 21, 22, 23] (by decide +kernel) (by decide +kernel)
set_option maxRecDepth 20000 in
theorem gX2_nextVerdict_X2_verdictOfPass : GoodIn wsX2_nextVerdict (wsV RX2 39 RX2 yX2_verdictOfPass wsX2_verdictOfPass) := goodIn_app (goodIn_of _ (by decide +kernel)) ggX2_nextVerdict_X2_verdictOfPass
set_option maxRecDepth 20000 in
theorem ggX2_nextVerdict_X2_verdictOfFail : GoodIn wsX2_nextVerdict wsX2_verdictOfFail := goodIn_r _ [11, 12, 2, 13, 14, 15, 16, 17, 18, 19, 20, 21, 22, 23] (by decide +kernel) (by decide +kernel)
set_option maxRecDepth 20000 in
theorem gX2_nextVerdict_X2_verdictOfFail : GoodIn wsX2_nextVerdict (wsV RX2 43 RX2 yX2_verdictOfFail wsX2_verdictOfFail) := goodIn_app (goodIn_of _ (by decide +kernel)) ggX2_nextVerdict_X2_verdictOfFail
theorem dX2_nextVerdict_0 : decode cX2_nextVerdict 0 = .ok (.iload_n 1, 1) := by decide +kernel
theorem dX2_nextVerdict_1 : decode cX2_nextVerdict 1 = .ok (.aload_n 0, 1) := by decide +kernel
theorem dX2_nextVerdict_2 : decode cX2_nextVerdict 2 = .ok (.getfield 19, 3) := by decide +kernel
theorem dX2_nextVerdict_5 : decode cX2_nextVerdict 5 = .ok (.if_icmp .eq 13, 3) := by decide +kernel
theorem dX2_nextVerdict_8 : decode cX2_nextVerdict 8 = .ok (.aload_n 0, 1) := by decide +kernel
theorem dX2_nextVerdict_9 : decode cX2_nextVerdict 9 = .ok (.iload_n 1, 1) := by decide +kernel
theorem dX2_nextVerdict_10 : decode cX2_nextVerdict 10 = .ok (.putfield 19, 3) := by decide +kernel
theorem dX2_nextVerdict_13 : decode cX2_nextVerdict 13 = .ok (.aload_n 0, 1) := by decide +kernel
theorem dX2_nextVerdict_14 : decode cX2_nextVerdict 14 = .ok (.iconst 0, 1) := by decide +kernel
theorem dX2_nextVerdict_15 : decode cX2_nextVerdict 15 = .ok (.putfield 36, 3) := by decide +kernel
theorem dX2_nextVerdict_18 : decode cX2_nextVerdict 18 = .ok (.iload_n 2, 1) := by decide +kernel
theorem dX2_nextVerdict_19 : decode cX2_nextVerdict 19 = .ok (.ifCond .eq 10, 3) := by decide +kernel
theorem dX2_nextVerdict_22 : decode cX2_nextVerdict 22 = .ok (.aload_n 0, 1) := by decide +kernel
theorem dX2_nextVerdict_23 : decode cX2_nextVerdict 23 = .ok (.invokevirtual 39, 3) := by decide +kernel
theorem dX2_nextVerdict_26 : decode cX2_nextVerdict 26 = .ok (.goto 7, 3) := by decide +kernel
theorem dX2_nextVerdict_29 : decode cX2_nextVerdict 29 = .ok (.aload_n 0, 1) := by decide +kernel
theorem dX2_nextVerdict_30 : decode cX2_nextVerdict 30 = .ok (.invokevirtual 43, 3) := by decide +kernel
theorem dX2_nextVerdict_33 : decode cX2_nextVerdict 33 = .ok (.istore_n 3, 1) := by decide +kernel
theorem dX2_nextVerdict_34 : decode cX2_nextVerdict 34 = .ok (.aload_n 0, 1) := by decide +kernel
theorem dX2_nextVerdict_35 : decode cX2_nextVerdict 35 = .ok (.iload_n 3, 1) := by decide +kernel
theorem dX2_nextVerdict_36 : decode cX2_nextVerdict 36 = .ok (.ifCond .ne 12, 3) := by decide +kernel
theorem dX2_nextVerdict_39 : decode cX2_nextVerdict 39 = .ok (.aload_n 0, 1) := by decide +kernel
theorem dX2_nextVerdict_40 : decode cX2_nextVerdict 40 = .ok (.getfield 36, 3) := by decide +kernel
theorem dX2_nextVerdict_43 : decode cX2_nextVerdict 43 = .ok (.iconst 1, 1) := by decide +kernel
theorem dX2_nextVerdict_44 : decode cX2_nextVerdict 44 = .ok (.iadd, 1) := by decide +kernel
theorem dX2_nextVerdict_45 : decode cX2_nextVerdict 45 = .ok (.goto 4, 3) := by decide +kernel
theorem dX2_nextVerdict_48 : decode cX2_nextVerdict 48 = .ok (.iconst 0, 1) := by decide +kernel
theorem dX2_nextVerdict_49 : decode cX2_nextVerdict 49 = .ok (.putfield 36, 3) := by decide +kernel
theorem dX2_nextVerdict_52 : decode cX2_nextVerdict 52 = .ok (.iload_n 3, 1) := by decide +kernel
theorem dX2_nextVerdict_53 : decode cX2_nextVerdict 53 = .ok (.ireturn, 1) := by decide +kernel
theorem dX2_verdictOfPass_0 : decode cX2_verdictOfPass 0 = .ok (.aload_n 0, 1) := by decide +kernel
theorem dX2_verdictOfPass_1 : decode cX2_verdictOfPass 1 = .ok (.getfield 36, 3) := by decide +kernel
theorem dX2_verdictOfPass_4 : decode cX2_verdictOfPass 4 = .ok (.ifCond .ne 7, 3) := by decide +kernel
theorem dX2_verdictOfPass_7 : decode cX2_verdictOfPass 7 = .ok (.iconst 1, 1) := by decide +kernel
theorem dX2_verdictOfPass_8 : decode cX2_verdictOfPass 8 = .ok (.goto 4, 3) := by decide +kernel
theorem dX2_verdictOfPass_11 : decode cX2_verdictOfPass 11 = .ok (.iconst 2, 1) := by decide +kernel
theorem dX2_verdictOfPass_12 : decode cX2_verdictOfPass 12 = .ok (.ireturn, 1) := by decide +kernel
theorem dX2_verdictOfFail_0 : decode cX2_verdictOfFail 0 = .ok (.aload_n 0, 1) := by decide +kernel
theorem dX2_verdictOfFail_1 : decode cX2_verdictOfFail 1 = .ok (.getfield 46, 3) := by decide +kernel
theorem dX2_verdictOfFail_4 : decode cX2_verdictOfFail 4 = .ok (.ifCond .eq 7, 3) := by decide +kernel
theorem dX2_verdictOfFail_7 : decode cX2_verdictOfFail 7 = .ok (.iconst 3, 1) := by decide +kernel
theorem dX2_verdictOfFail_8 : decode cX2_verdictOfFail 8 = .ok (.goto 4, 3) := by decide +kernel
theorem dX2_verdictOfFail_11 : decode cX2_verdictOfFail 11 = .ok (.iconst 1, 1) := by decide +kernel
theorem dX2_verdictOfFail_12 : decode cX2_verdictOfFail 12 = .ok (.istore_n 1, 1) := by decide +kernel
theorem dX2_verdictOfFail_13 : decode cX2_verdictOfFail 13 = .ok (.aload_n 0, 1) := by decide +kernel
theorem dX2_verdictOfFail_14 : decode cX2_verdictOfFail 14 = .ok (.getfield 36, 3) := by decide +kernel
theorem dX2_verdictOfFail_17 : decode cX2_verdictOfFail 17 = .ok (.iconst 1, 1) := by decide +kernel
theorem dX2_verdictOfFail_18 : decode cX2_verdictOfFail 18 = .ok (.iadd, 1) := by decide +kernel
theorem dX2_verdictOfFail_19 : decode cX2_verdictOfFail 19 = .ok (.iload_n 1, 1) := by decide +kernel
theorem dX2_verdictOfFail_20 : decode cX2_verdictOfFail 20 = .ok (.if_icmp .ge 5, 3) := by decide +kernel
theorem dX2_verdictOfFail_23 : decode cX2_verdictOfFail 23 = .ok (.iconst 0, 1) := by decide +kernel
theorem dX2_verdictOfFail_24 : decode cX2_verdictOfFail 24 = .ok (.ireturn, 1) := by decide +kernel
theorem dX2_verdictOfFail_25 : decode cX2_verdictOfFail 25 = .ok (.aload_n 0, 1) := by decide +kernel
theorem dX2_verdictOfFail_26 : decode cX2_verdictOfFail 26 = .ok (.getfield 46, 3) := by decide +kernel
theorem dX2_verdictOfFail_29 : decode cX2_verdictOfFail 29 = .ok (.ifCond .eq 7, 3) := by decide +kernel
theorem dX2_verdictOfFail_32 : decode cX2_verdictOfFail 32 = .ok (.iconst 4, 1) := by decide +kernel
theorem dX2_verdictOfFail_33 : decode cX2_verdictOfFail 33 = .ok (.goto 4, 3) := by decide +kernel
theorem dX2_verdictOfFail_36 : decode cX2_verdictOfFail 36 = .ok (.iconst 3, 1) := by decide +kernel
theorem dX2_verdictOfFail_37 : decode cX2_verdictOfFail 37 = .ok (.ireturn, 1) := by decide +kernel
theorem dX2_has_0 : decode cX2_has 0 = .ok (.iconst 0, 1) := by decide +kernel
theorem dX2_has_1 : decode cX2_has 1 = .ok (.istore_n 3, 1) := by decide +kernel
theorem dX2_has_2 : decode cX2_has 2 = .ok (.iload_n 3, 1) := by decide +kernel
theorem dX2_has_3 : decode cX2_has 3 = .ok (.aload_n 0, 1) := by decide +kernel
theorem dX2_has_4 : decode cX2_has 4 = .ok (.getfield 23, 3) := by decide +kernel
theorem dX2_has_7 : decode cX2_has 7 = .ok (.if_icmp .ge 37, 3) := by decide +kernel
theorem dX2_has_10 : decode cX2_has 10 = .ok (.iload_n 3, 1) := by decide +kernel
theorem dX2_has_11 : decode cX2_has 11 = .ok (.bipush 48, 2) := by decide +kernel
theorem dX2_has_13 : decode cX2_has 13 = .ok (.if_icmp .ge 31, 3) := by decide +kernel
theorem dX2_has_16 : decode cX2_has 16 = .ok (.aload_n 0, 1) := by decide +kernel
theorem dX2_has_17 : decode cX2_has 17 = .ok (.getfield 9, 3) := by decide +kernel
theorem dX2_has_20 : decode cX2_has 20 = .ok (.iload_n 3, 1) := by decide +kernel
theorem dX2_has_21 : decode cX2_has 21 = .ok (.iaload, 1) := by decide +kernel
theorem dX2_has_22 : decode cX2_has 22 = .ok (.iload_n 1, 1) := by decide +kernel
theorem dX2_has_23 : decode cX2_has 23 = .ok (.if_icmp .ne 15, 3) := by decide +kernel
theorem dX2_has_26 : decode cX2_has 26 = .ok (.aload_n 0, 1) := by decide +kernel
theorem dX2_has_27 : decode cX2_has 27 = .ok (.getfield 15, 3) := by decide +kernel
theorem dX2_has_30 : decode cX2_has 30 = .ok (.iload_n 3, 1) := by decide +kernel
theorem dX2_has_31 : decode cX2_has 31 = .ok (.baload, 1) := by decide +kernel
theorem dX2_has_32 : decode cX2_has 32 = .ok (.iload_n 2, 1) := by decide +kernel
theorem dX2_has_33 : decode cX2_has 33 = .ok (.if_icmp .ne 5, 3) := by decide +kernel
theorem dX2_has_36 : decode cX2_has 36 = .ok (.iconst 1, 1) := by decide +kernel
theorem dX2_has_37 : decode cX2_has 37 = .ok (.ireturn, 1) := by decide +kernel
theorem dX2_has_38 : decode cX2_has 38 = .ok (.iinc 3 1, 3) := by decide +kernel
theorem dX2_has_41 : decode cX2_has 41 = .ok (.goto (-39), 3) := by decide +kernel
theorem dX2_has_44 : decode cX2_has 44 = .ok (.iconst 0, 1) := by decide +kernel
theorem dX2_has_45 : decode cX2_has 45 = .ok (.ireturn, 1) := by decide +kernel
set_option maxRecDepth 20000 in
theorem ggX2_recount_X2_has : GoodIn wsX2_recount wsX2_has := goodIn_r _ [11, 4, 5, 6, 12, 13, 14, 15, 16, 17, 18, 19, 20, 21, 22] (by decide +kernel) (by decide +kernel)
set_option maxRecDepth 20000 in
theorem gX2_recount_X2_has : GoodIn wsX2_recount (wsV RX2 32 RX2 yX2_has wsX2_has) := goodIn_app (goodIn_of _ (by decide +kernel)) ggX2_recount_X2_has
theorem dX2_recount_0 : decode cX2_recount 0 = .ok (.aload_n 0, 1) := by decide +kernel
theorem dX2_recount_1 : decode cX2_recount 1 = .ok (.iconst 0, 1) := by decide +kernel
theorem dX2_recount_2 : decode cX2_recount 2 = .ok (.putfield 50, 3) := by decide +kernel
theorem dX2_recount_5 : decode cX2_recount 5 = .ok (.aload_n 0, 1) := by decide +kernel
theorem dX2_recount_6 : decode cX2_recount 6 = .ok (.iconst 0, 1) := by decide +kernel
theorem dX2_recount_7 : decode cX2_recount 7 = .ok (.putfield 53, 3) := by decide +kernel
theorem dX2_recount_10 : decode cX2_recount 10 = .ok (.aload_n 0, 1) := by decide +kernel
theorem dX2_recount_11 : decode cX2_recount 11 = .ok (.iconst 0, 1) := by decide +kernel
theorem dX2_recount_12 : decode cX2_recount 12 = .ok (.putfield 56, 3) := by decide +kernel
theorem dX2_recount_15 : decode cX2_recount 15 = .ok (.iconst 0, 1) := by decide +kernel
theorem dX2_recount_16 : decode cX2_recount 16 = .ok (.istore_n 1, 1) := by decide +kernel
theorem dX2_recount_17 : decode cX2_recount 17 = .ok (.iload_n 1, 1) := by decide +kernel
theorem dX2_recount_18 : decode cX2_recount 18 = .ok (.aload_n 0, 1) := by decide +kernel
theorem dX2_recount_19 : decode cX2_recount 19 = .ok (.getfield 23, 3) := by decide +kernel
theorem dX2_recount_22 : decode cX2_recount 22 = .ok (.if_icmp .ge 100, 3) := by decide +kernel
theorem dX2_recount_25 : decode cX2_recount 25 = .ok (.iload_n 1, 1) := by decide +kernel
theorem dX2_recount_26 : decode cX2_recount 26 = .ok (.bipush 48, 2) := by decide +kernel
theorem dX2_recount_28 : decode cX2_recount 28 = .ok (.if_icmp .ge 94, 3) := by decide +kernel
theorem dX2_recount_31 : decode cX2_recount 31 = .ok (.aload_n 0, 1) := by decide +kernel
theorem dX2_recount_32 : decode cX2_recount 32 = .ok (.aload_n 0, 1) := by decide +kernel
theorem dX2_recount_33 : decode cX2_recount 33 = .ok (.getfield 9, 3) := by decide +kernel
theorem dX2_recount_36 : decode cX2_recount 36 = .ok (.iload_n 1, 1) := by decide +kernel
theorem dX2_recount_37 : decode cX2_recount 37 = .ok (.iaload, 1) := by decide +kernel
theorem dX2_recount_38 : decode cX2_recount 38 = .ok (.aload_n 0, 1) := by decide +kernel
theorem dX2_recount_39 : decode cX2_recount 39 = .ok (.getfield 15, 3) := by decide +kernel
theorem dX2_recount_42 : decode cX2_recount 42 = .ok (.iload_n 1, 1) := by decide +kernel
theorem dX2_recount_43 : decode cX2_recount 43 = .ok (.baload, 1) := by decide +kernel
theorem dX2_recount_44 : decode cX2_recount 44 = .ok (.ifCond .ne 7, 3) := by decide +kernel
theorem dX2_recount_47 : decode cX2_recount 47 = .ok (.iconst 1, 1) := by decide +kernel
theorem dX2_recount_48 : decode cX2_recount 48 = .ok (.goto 4, 3) := by decide +kernel
theorem dX2_recount_51 : decode cX2_recount 51 = .ok (.iconst 0, 1) := by decide +kernel
theorem dX2_recount_52 : decode cX2_recount 52 = .ok (.invokevirtual 32, 3) := by decide +kernel
theorem dX2_recount_55 : decode cX2_recount 55 = .ok (.istore_n 2, 1) := by decide +kernel
theorem dX2_recount_56 : decode cX2_recount 56 = .ok (.iload_n 2, 1) := by decide +kernel
theorem dX2_recount_57 : decode cX2_recount 57 = .ok (.ifCond .eq 13, 3) := by decide +kernel
theorem dX2_recount_60 : decode cX2_recount 60 = .ok (.aload_n 0, 1) := by decide +kernel
theorem dX2_recount_61 : decode cX2_recount 61 = .ok (.dup, 1) := by decide +kernel
theorem dX2_recount_62 : decode cX2_recount 62 = .ok (.getfield 50, 3) := by decide +kernel
theorem dX2_recount_65 : decode cX2_recount 65 = .ok (.iconst 1, 1) := by decide +kernel
theorem dX2_recount_66 : decode cX2_recount 66 = .ok (.iadd, 1) := by decide +kernel
theorem dX2_recount_67 : decode cX2_recount 67 = .ok (.putfield 50, 3) := by decide +kernel
theorem dX2_recount_70 : decode cX2_recount 70 = .ok (.aload_n 0, 1) := by decide +kernel
theorem dX2_recount_71 : decode cX2_recount 71 = .ok (.getfield 15, 3) := by decide +kernel
theorem dX2_recount_74 : decode cX2_recount 74 = .ok (.iload_n 1, 1) := by decide +kernel
theorem dX2_recount_75 : decode cX2_recount 75 = .ok (.baload, 1) := by decide +kernel
theorem dX2_recount_76 : decode cX2_recount 76 = .ok (.ifCond .ne 7, 3) := by decide +kernel
theorem dX2_recount_79 : decode cX2_recount 79 = .ok (.iload_n 2, 1) := by decide +kernel
theorem dX2_recount_80 : decode cX2_recount 80 = .ok (.ifCond .eq 13, 3) := by decide +kernel
theorem dX2_recount_83 : decode cX2_recount 83 = .ok (.aload_n 0, 1) := by decide +kernel
theorem dX2_recount_84 : decode cX2_recount 84 = .ok (.dup, 1) := by decide +kernel
theorem dX2_recount_85 : decode cX2_recount 85 = .ok (.getfield 53, 3) := by decide +kernel
theorem dX2_recount_88 : decode cX2_recount 88 = .ok (.iconst 1, 1) := by decide +kernel
theorem dX2_recount_89 : decode cX2_recount 89 = .ok (.iadd, 1) := by decide +kernel
theorem dX2_recount_90 : decode cX2_recount 90 = .ok (.putfield 53, 3) := by decide +kernel
theorem dX2_recount_93 : decode cX2_recount 93 = .ok (.aload_n 0, 1) := by decide +kernel
theorem dX2_recount_94 : decode cX2_recount 94 = .ok (.getfield 15, 3) := by decide +kernel
theorem dX2_recount_97 : decode cX2_recount 97 = .ok (.iload_n 1, 1) := by decide +kernel
theorem dX2_recount_98 : decode cX2_recount 98 = .ok (.baload, 1) := by decide +kernel
theorem dX2_recount_99 : decode cX2_recount 99 = .ok (.ifCond .ne 17, 3) := by decide +kernel
theorem dX2_recount_102 : decode cX2_recount 102 = .ok (.iload_n 2, 1) := by decide +kernel
theorem dX2_recount_103 : decode cX2_recount 103 = .ok (.ifCond .eq 13, 3) := by decide +kernel
theorem dX2_recount_106 : decode cX2_recount 106 = .ok (.aload_n 0, 1) := by decide +kernel
theorem dX2_recount_107 : decode cX2_recount 107 = .ok (.dup, 1) := by decide +kernel
theorem dX2_recount_108 : decode cX2_recount 108 = .ok (.getfield 56, 3) := by decide +kernel
theorem dX2_recount_111 : decode cX2_recount 111 = .ok (.iconst 1, 1) := by decide +kernel
theorem dX2_recount_112 : decode cX2_recount 112 = .ok (.iadd, 1) := by decide +kernel
theorem dX2_recount_113 : decode cX2_recount 113 = .ok (.putfield 56, 3) := by decide +kernel
theorem dX2_recount_116 : decode cX2_recount 116 = .ok (.iinc 1 1, 3) := by decide +kernel
theorem dX2_recount_119 : decode cX2_recount 119 = .ok (.goto (-102), 3) := by decide +kernel
theorem dX2_recount_122 : decode cX2_recount 122 = .ok (.return_, 1) := by decide +kernel
set_option maxRecDepth 20000 in
theorem ggX3_init_X0_init : GoodIn wsX3_init wsX0_init := goodIn_r _ [16, 17, 2, 3, 18, 19, 20, 21, 22, 23, 24, 25, 26, 27, 28, 37, 35, 36] (by decide +kernel) (by decide +kernel)
set_option maxRecDepth 20000 in
theorem gX3_init_X0_init : GoodIn wsX3_init (wsX0_init) := ggX3_init_X0_init
theorem dX3_init_0 : decode cX3_init 0 = .ok (.aload_n 0, 1) := by decide +kernel
theorem dX3_init_1 : decode cX3_init 1 = .ok (.invokespecial 1, 3) := by decide +kernel
theorem dX3_init_4 : decode cX3_init 4 = .ok (.aload_n 0, 1) := by decide +kernel
theorem dX3_init_5 : decode cX3_init 5 = .ok (.bipush 12, 2) := by decide +kernel
theorem dX3_init_7 : decode cX3_init 7 = .ok (.anewarray 9, 3) := by decide +kernel
theorem dX3_init_10 : decode cX3_init 10 = .ok (.putfield 11, 3) := by decide +kernel
theorem dX3_init_13 : decode cX3_init 13 = .ok (.aload_n 0, 1) := by decide +kernel
theorem dX3_init_14 : decode cX3_init 14 = .ok (.new 15, 3) := by decide +kernel
theorem dX3_init_17 : decode cX3_init 17 = .ok (.dup, 1) := by decide +kernel
theorem dX3_init_18 : decode cX3_init 18 = .ok (.invokespecial 17, 3) := by decide +kernel
theorem dX3_init_21 : decode cX3_init 21 = .ok (.putfield 18, 3) := by decide +kernel
theorem dX3_init_24 : decode cX3_init 24 = .ok (.aload_n 0, 1) := by decide +kernel
theorem dX3_init_25 : decode cX3_init 25 = .ok (.iconst 0, 1) := by decide +kernel
theorem dX3_init_26 : decode cX3_init 26 = .ok (.putfield 22, 3) := by decide +kernel
theorem dX3_init_29 : decode cX3_init 29 = .ok (.aload_n 0, 1) := by decide +kernel
theorem dX3_init_30 : decode cX3_init 30 = .ok (.bipush 50, 2) := by decide +kernel
theorem dX3_init_32 : decode cX3_init 32 = .ok (.putfield 26, 3) := by decide +kernel
theorem dX3_init_35 : decode cX3_init 35 = .ok (.aload_n 0, 1) := by decide +kernel
theorem dX3_init_36 : decode cX3_init 36 = .ok (.bipush 20, 2) := by decide +kernel
theorem dX3_init_38 : decode cX3_init 38 = .ok (.putfield 29, 3) := by decide +kernel
theorem dX3_init_41 : decode cX3_init 41 = .ok (.aload_n 0, 1) := by decide +kernel
theorem dX3_init_42 : decode cX3_init 42 = .ok (.iconst 5, 1) := by decide +kernel
theorem dX3_init_43 : decode cX3_init 43 = .ok (.putfield 32, 3) := by decide +kernel
theorem dX3_init_46 : decode cX3_init 46 = .ok (.return_, 1) := by decide +kernel
set_option maxRecDepth 20000 in
theorem ggX3_test_X2_init : GoodIn wsX3_test wsX2_init := goodIn_r _ [8, 9, 10, 11, 12, 13, 14, 15, 16, 23, 24, 25, 26, 27, 28, 29, 30, 31, 32, 33] (by decide +kernel) (by decide +kernel)
set_option maxRecDepth 20000 in
theorem gX3_test_X2_init : GoodIn wsX3_test (wsX2_init) := ggX3_test_X2_init
theorem dX3_test_0 : decode cX3_test 0 = .ok (.aload_n 0, 1) := by decide +kernel
theorem dX3_test_1 : decode cX3_test 1 = .ok (.getfield 22, 3) := by decide +kernel
theorem dX3_test_4 : decode cX3_test 4 = .ok (.aload_n 0, 1) := by decide +kernel
theorem dX3_test_5 : decode cX3_test 5 = .ok (.getfield 11, 3) := by decide +kernel
theorem dX3_test_8 : decode cX3_test 8 = .ok (.arraylength, 1) := by decide +kernel
theorem dX3_test_9 : decode cX3_test 9 = .ok (.if_icmp .lt 5, 3) := by decide +kernel
theorem dX3_test_12 : decode cX3_test 12 = .ok (.iconst (-1), 1) := by decide +kernel
theorem dX3_test_13 : decode cX3_test 13 = .ok (.ireturn, 1) := by decide +kernel
theorem dX3_test_14 : decode cX3_test 14 = .ok (.aload_n 0, 1) := by decide +kernel
theorem dX3_test_15 : decode cX3_test 15 = .ok (.getfield 11, 3) := by decide +kernel
theorem dX3_test_18 : decode cX3_test 18 = .ok (.aload_n 0, 1) := by decide +kernel
theorem dX3_test_19 : decode cX3_test 19 = .ok (.getfield 22, 3) := by decide +kernel
theorem dX3_test_22 : decode cX3_test 22 = .ok (.new 9, 3) := by decide +kernel
theorem dX3_test_25 : decode cX3_test 25 = .ok (.dup, 1) := by decide +kernel
theorem dX3_test_26 : decode cX3_test 26 = .ok (.invokespecial 35, 3) := by decide +kernel
theorem dX3_test_29 : decode cX3_test 29 = .ok (.aastore, 1) := by decide +kernel
theorem dX3_test_30 : decode cX3_test 30 = .ok (.aload_n 0, 1) := by decide +kernel
theorem dX3_test_31 : decode cX3_test 31 = .ok (.dup, 1) := by decide +kernel
theorem dX3_test_32 : decode cX3_test 32 = .ok (.getfield 22, 3) := by decide +kernel
theorem dX3_test_35 : decode cX3_test 35 = .ok (.iconst 1, 1) := by decide +kernel
theorem dX3_test_36 : decode cX3_test 36 = .ok (.iadd, 1) := by decide +kernel
theorem dX3_test_37 : decode cX3_test 37 = .ok (.putfield 22, 3) := by decide +kernel
theorem dX3_test_40 : decode cX3_test 40 = .ok (.aload_n 0, 1) := by decide +kernel
theorem dX3_test_41 : decode cX3_test 41 = .ok (.getfield 22, 3) := by decide +kernel
theorem dX3_test_44 : decode cX3_test 44 = .ok (.iconst 1, 1) := by decide +kernel
theorem dX3_test_45 : decode cX3_test 45 = .ok (.isub, 1) := by decide +kernel
theorem dX3_test_46 : decode cX3_test 46 = .ok (.ireturn, 1) := by decide +kernel
set_option maxRecDepth 20000 in
theorem ggX3_rules_X3_isLevel : GoodIn wsX3_rules wsX3_isLevel := goodIn_r _ [7] (by decide +kernel) (by decide +kernel)
set_option maxRecDepth 20000 in
theorem gX3_rules_X3_isLevel : GoodIn wsX3_rules (va_wsS RX3 36 yX3_isLevel wsX3_isLevel) := goodIn_app (goodIn_of _ (by decide +kernel)) ggX3_rules_X3_isLevel
set_option maxRecDepth 20000 in
theorem ggX3_rules_X3_isShare : GoodIn wsX3_rules wsX3_isShare := goodIn_r _ [10] (by decide +kernel) (by decide +kernel)
set_option maxRecDepth 20000 in
theorem gX3_rules_X3_isShare : GoodIn wsX3_rules (va_wsS RX3 40 yX3_isShare wsX3_isShare) := goodIn_app (goodIn_of _ (by decide +kernel)) ggX3_rules_X3_isShare
theorem dX3_rules_0 : decode cX3_rules 0 = .ok (.iload_n 1, 1) := by decide +kernel
theorem dX3_rules_1 : decode cX3_rules 1 = .ok (.invokestatic 36, 3) := by decide +kernel
theorem dX3_rules_4 : decode cX3_rules 4 = .ok (.ifCond .eq 22, 3) := by decide +kernel
theorem dX3_rules_7 : decode cX3_rules 7 = .ok (.iload_n 2, 1) := by decide +kernel
theorem dX3_rules_8 : decode cX3_rules 8 = .ok (.invokestatic 40, 3) := by decide +kernel
theorem dX3_rules_11 : decode cX3_rules 11 = .ok (.ifCond .eq 15, 3) := by decide +kernel
theorem dX3_rules_14 : decode cX3_rules 14 = .ok (.iload_n 3, 1) := by decide +kernel
theorem dX3_rules_15 : decode cX3_rules 15 = .ok (.invokestatic 40, 3) := by decide +kernel
theorem dX3_rules_18 : decode cX3_rules 18 = .ok (.ifCond .eq 8, 3) := by decide +kernel
theorem dX3_rules_21 : decode cX3_rules 21 = .ok (.iload_n 3, 1) := by decide +kernel
theorem dX3_rules_22 : decode cX3_rules 22 = .ok (.iload_n 2, 1) := by decide +kernel
theorem dX3_rules_23 : decode cX3_rules 23 = .ok (.if_icmp .le 5, 3) := by decide +kernel
theorem dX3_rules_26 : decode cX3_rules 26 = .ok (.iconst 0, 1) := by decide +kernel
theorem dX3_rules_27 : decode cX3_rules 27 = .ok (.ireturn, 1) := by decide +kernel
theorem dX3_rules_28 : decode cX3_rules 28 = .ok (.aload_n 0, 1) := by decide +kernel
theorem dX3_rules_29 : decode cX3_rules 29 = .ok (.iload_n 1, 1) := by decide +kernel
theorem dX3_rules_30 : decode cX3_rules 30 = .ok (.putfield 26, 3) := by decide +kernel
theorem dX3_rules_33 : decode cX3_rules 33 = .ok (.aload_n 0, 1) := by decide +kernel
theorem dX3_rules_34 : decode cX3_rules 34 = .ok (.iload_n 2, 1) := by decide +kernel
theorem dX3_rules_35 : decode cX3_rules 35 = .ok (.putfield 29, 3) := by decide +kernel
theorem dX3_rules_38 : decode cX3_rules 38 = .ok (.aload_n 0, 1) := by decide +kernel
theorem dX3_rules_39 : decode cX3_rules 39 = .ok (.iload_n 3, 1) := by decide +kernel
theorem dX3_rules_40 : decode cX3_rules 40 = .ok (.putfield 32, 3) := by decide +kernel
theorem dX3_rules_43 : decode cX3_rules 43 = .ok (.iconst 1, 1) := by decide +kernel
theorem dX3_rules_44 : decode cX3_rules 44 = .ok (.ireturn, 1) := by decide +kernel
set_option maxRecDepth 20000 in
theorem ggX3_run_X3_find : GoodIn wsX3_run wsX3_find := goodIn_r _ [5, 6, 7, 79, 80, 81, 82, 83, 84] (by decide +kernel) (by decide +kernel)
set_option maxRecDepth 20000 in
theorem gX3_run_X3_find : GoodIn wsX3_run (wsV RX3 43 RX3 yX3_find wsX3_find) := goodIn_app (goodIn_of _ (by decide +kernel)) ggX3_run_X3_find
set_option maxRecDepth 20000 in
theorem ggX3_run_X3_isEdition : GoodIn wsX3_run wsX3_isEdition := goodIn_r _ [10] (by decide +kernel) (by decide +kernel)
set_option maxRecDepth 20000 in
theorem gX3_run_X3_isEdition : GoodIn wsX3_run (va_wsS RX3 47 yX3_isEdition wsX3_isEdition) := goodIn_app (goodIn_of _ (by decide +kernel)) ggX3_run_X3_isEdition
set_option maxRecDepth 20000 in
theorem ggX3_run_X3_take : GoodIn wsX3_run wsX3_take := goodIn_r _ [14, 15, 16, 17, 18, 19, 20, 21, 22, 23, 24, 25, 26, 27, 28, 29, 30, 31, 32, 33, 34, 35, 36, 37, 38, 39, 40, 4, 41, 42, 43, 44, 45, 46, 47, 48, 49, 50, 51, 52, 53, 54, 55, 56, 57, 58, 59, 60, 61, 62, 63, 64, 65, 66, 67, 68, 69, 70, 71, 72, 73, 74, 75, 76, 77, 78, 85, 86, 87, 88, 89, 90, 91, 92, 93, 94, 95, 79, 80, 81, 82, 83, 84, 96, 97, 98] (by decide +kernel) (by decide +kernel)
set_option maxRecDepth 20000 in
theorem gX3_run_X3_take : GoodIn wsX3_run (wsV RX3 50 RX3 yX3_take wsX3_take) := goodIn_app (goodIn_of _ (by decide +kernel)) ggX3_run_X3_take
theorem dX3_run_0 : decode cX3_run 0 = .ok (.aload_n 0, 1) := by decide +kernel
theorem dX3_run_1 : decode cX3_run 1 = .ok (.iload_n 1, 1) := by decide +kernel
theorem dX3_run_2 : decode cX3_run 2 = .ok (.invokevirtual 43, 3) := by decide +kernel
theorem dX3_run_5 : decode cX3_run 5 = .ok (.astore 4, 2) := by decide +kernel
theorem dX3_run_7 : decode cX3_run 7 = .ok (.aload 4, 2) := by decide +kernel
theorem dX3_run_9 : decode cX3_run 9 = .ok (.ifnull 10, 3) := by decide +kernel
theorem dX3_run_12 : decode cX3_run 12 = .ok (.iload_n 2, 1) := by decide +kernel
theorem dX3_run_13 : decode cX3_run 13 = .ok (.invokestatic 47, 3) := by decide +kernel
theorem dX3_run_16 : decode cX3_run 16 = .ok (.ifCond .ne 5, 3) := by decide +kernel
theorem dX3_run_19 : decode cX3_run 19 = .ok (.iconst 0, 1) := by decide +kernel
theorem dX3_run_20 : decode cX3_run 20 = .ok (.ireturn, 1) := by decide +kernel
theorem dX3_run_21 : decode cX3_run 21 = .ok (.aload_n 0, 1) := by decide +kernel
theorem dX3_run_22 : decode cX3_run 22 = .ok (.aload 4, 2) := by decide +kernel
theorem dX3_run_24 : decode cX3_run 24 = .ok (.iload_n 2, 1) := by decide +kernel
theorem dX3_run_25 : decode cX3_run 25 = .ok (.iload_n 3, 1) := by decide +kernel
theorem dX3_run_26 : decode cX3_run 26 = .ok (.invokevirtual 50, 3) := by decide +kernel
theorem dX3_run_29 : decode cX3_run 29 = .ok (.iconst 1, 1) := by decide +kernel
theorem dX3_run_30 : decode cX3_run 30 = .ok (.ireturn, 1) := by decide +kernel
set_option maxRecDepth 20000 in
theorem ggX3_judge_X3_find : GoodIn wsX3_judge wsX3_find := goodIn_r _ [5, 6, 7, 94, 95, 96, 97, 98, 99] (by decide +kernel) (by decide +kernel)
set_option maxRecDepth 20000 in
theorem gX3_judge_X3_find : GoodIn wsX3_judge (wsV RX3 43 RX3 yX3_find wsX3_find) := goodIn_app (goodIn_of _ (by decide +kernel)) ggX3_judge_X3_find
set_option maxRecDepth 20000 in
theorem ggX3_judge_X3_isEdition : GoodIn wsX3_judge wsX3_isEdition := goodIn_r _ [10] (by decide +kernel) (by decide +kernel)
set_option maxRecDepth 20000 in
theorem gX3_judge_X3_isEdition : GoodIn wsX3_judge (va_wsS RX3 47 yX3_isEdition wsX3_isEdition) := goodIn_app (goodIn_of _ (by decide +kernel)) ggX3_judge_X3_isEdition
set_option maxRecDepth 20000 in
theorem ggX3_judge_X2_nextVerdict : GoodIn wsX3_judge wsX2_nextVerdict := goodIn_r _ [15, 16, 17, 18, 19, 20, 14, 21, 22, 23, 24, 25, 26, 100, 101, 102, 103, 104, 105, 106, 107, 108, 109, 110] (by decide +kernel) (by decide +kernel)
set_option maxRecDepth 20000 in
theorem gX3_judge_X2_nextVerdict : GoodIn wsX3_judge (wsV RX3 54 RX2 yX2_nextVerdict wsX2_nextVerdict) := goodIn_app (goodIn_of _ (by decide +kernel)) ggX3_judge_X2_nextVerdict
set_option maxRecDepth 20000 in
theorem ggX3_judge_X3_take : GoodIn wsX3_judge wsX3_take := goodIn_r _ [30, 31, 32, 33, 34, 35, 36, 14, 37, 38, 39, 40, 41, 42, 43, 44, 45, 46, 47, 48, 49, 50, 51, 52, 53, 54, 55, 4, 56, 57, 58, 59, 60, 61, 62, 63, 64, 65, 66, 67, 68, 69, 70, 71, 72, 73, 74, 75, 76, 77, 78, 79, 80, 81, 82, 83, 84, 85, 86, 87, 88, 89, 90, 91, 92, 93, 100, 101, 102, 103, 104, 105, 106, 107, 108, 109, 110, 94, 95, 96, 97, 98, 99, 111, 112, 113] (by decide +kernel) (by decide +kernel)
set_option maxRecDepth 20000 in
theorem gX3_judge_X3_take : GoodIn wsX3_judge (wsV RX3 50 RX3 yX3_take wsX3_take) := goodIn_app (goodIn_of _ (by decide +kernel)) ggX3_judge_X3_take
theorem dX3_judge_0 : decode cX3_judge 0 = .ok (.aload_n 0, 1) := by decide +kernel
theorem dX3_judge_1 : decode cX3_judge 1 = .ok (.iload_n 1, 1) := by decide +kernel
theorem dX3_judge_2 : decode cX3_judge 2 = .ok (.invokevirtual 43, 3) := by decide +kernel
theorem dX3_judge_5 : decode cX3_judge 5 = .ok (.astore 4, 2) := by decide +kernel
theorem dX3_judge_7 : decode cX3_judge 7 = .ok (.aload 4, 2) := by decide +kernel
theorem dX3_judge_9 : decode cX3_judge 9 = .ok (.ifnull 10, 3) := by decide +kernel
theorem dX3_judge_12 : decode cX3_judge 12 = .ok (.iload_n 2, 1) := by decide +kernel
theorem dX3_judge_13 : decode cX3_judge 13 = .ok (.invokestatic 47, 3) := by decide +kernel
theorem dX3_judge_16 : decode cX3_judge 16 = .ok (.ifCond .ne 5, 3) := by decide +kernel
theorem dX3_judge_19 : decode cX3_judge 19 = .ok (.iconst (-1), 1) := by decide +kernel
theorem dX3_judge_20 : decode cX3_judge 20 = .ok (.ireturn, 1) := by decide +kernel
theorem dX3_judge_21 : decode cX3_judge 21 = .ok (.aload 4, 2) := by decide +kernel
theorem dX3_judge_23 : decode cX3_judge 23 = .ok (.iload_n 2, 1) := by decide +kernel
theorem dX3_judge_24 : decode cX3_judge 24 = .ok (.iload_n 3, 1) := by decide +kernel
theorem dX3_judge_25 : decode cX3_judge 25 = .ok (.invokevirtual 54, 3) := by decide +kernel
theorem dX3_judge_28 : decode cX3_judge 28 = .ok (.istore 5, 2) := by decide +kernel
theorem dX3_judge_30 : decode cX3_judge 30 = .ok (.aload_n 0, 1) := by decide +kernel
theorem dX3_judge_31 : decode cX3_judge 31 = .ok (.aload 4, 2) := by decide +kernel
theorem dX3_judge_33 : decode cX3_judge 33 = .ok (.iload_n 2, 1) := by decide +kernel
theorem dX3_judge_34 : decode cX3_judge 34 = .ok (.iload_n 3, 1) := by decide +kernel
theorem dX3_judge_35 : decode cX3_judge 35 = .ok (.invokevirtual 50, 3) := by decide +kernel
theorem dX3_judge_38 : decode cX3_judge 38 = .ok (.iload 5, 2) := by decide +kernel
theorem dX3_judge_40 : decode cX3_judge 40 = .ok (.ireturn, 1) := by decide +kernel
set_option maxRecDepth 20000 in
theorem ggX3_about_X3_find : GoodIn wsX3_about wsX3_find := goodIn_r _ [5, 6, 7, 19, 20, 21, 22, 23, 24] (by decide +kernel) (by decide +kernel)
set_option maxRecDepth 20000 in
theorem gX3_about_X3_find : GoodIn wsX3_about (wsV RX3 43 RX3 yX3_find wsX3_find) := goodIn_app (goodIn_of _ (by decide +kernel)) ggX3_about_X3_find
theorem dX3_about_0 : decode cX3_about 0 = .ok (.aload_n 0, 1) := by decide +kernel
theorem dX3_about_1 : decode cX3_about 1 = .ok (.iload_n 1, 1) := by decide +kernel
theorem dX3_about_2 : decode cX3_about 2 = .ok (.invokevirtual 43, 3) := by decide +kernel
theorem dX3_about_5 : decode cX3_about 5 = .ok (.astore_n 3, 1) := by decide +kernel
theorem dX3_about_6 : decode cX3_about 6 = .ok (.aload_n 3, 1) := by decide +kernel
theorem dX3_about_7 : decode cX3_about 7 = .ok (.ifnonnull 5, 3) := by decide +kernel
theorem dX3_about_10 : decode cX3_about 10 = .ok (.iconst (-1), 1) := by decide +kernel
theorem dX3_about_11 : decode cX3_about 11 = .ok (.ireturn, 1) := by decide +kernel
theorem dX3_about_12 : decode cX3_about 12 = .ok (.iload_n 2, 1) := by decide +kernel
theorem dX3_about_13 : decode cX3_about 13 = .ok (.tableswitch 77 0 5 #[39, 44, 49, 54, 59, 72], 39) := by decide +kernel
theorem dX3_about_52 : decode cX3_about 52 = .ok (.aload_n 3, 1) := by decide +kernel
theorem dX3_about_53 : decode cX3_about 53 = .ok (.getfield 58, 3) := by decide +kernel
theorem dX3_about_56 : decode cX3_about 56 = .ok (.ireturn, 1) := by decide +kernel
theorem dX3_about_57 : decode cX3_about 57 = .ok (.aload_n 3, 1) := by decide +kernel
theorem dX3_about_58 : decode cX3_about 58 = .ok (.getfield 61, 3) := by decide +kernel
theorem dX3_about_61 : decode cX3_about 61 = .ok (.ireturn, 1) := by decide +kernel
theorem dX3_about_62 : decode cX3_about 62 = .ok (.aload_n 3, 1) := by decide +kernel
theorem dX3_about_63 : decode cX3_about 63 = .ok (.getfield 64, 3) := by decide +kernel
theorem dX3_about_66 : decode cX3_about 66 = .ok (.ireturn, 1) := by decide +kernel
theorem dX3_about_67 : decode cX3_about 67 = .ok (.aload_n 3, 1) := by decide +kernel
theorem dX3_about_68 : decode cX3_about 68 = .ok (.getfield 67, 3) := by decide +kernel
theorem dX3_about_71 : decode cX3_about 71 = .ok (.ireturn, 1) := by decide +kernel
theorem dX3_about_72 : decode cX3_about 72 = .ok (.aload_n 3, 1) := by decide +kernel
theorem dX3_about_73 : decode cX3_about 73 = .ok (.getfield 70, 3) := by decide +kernel
theorem dX3_about_76 : decode cX3_about 76 = .ok (.ifCond .eq 7, 3) := by decide +kernel
theorem dX3_about_79 : decode cX3_about 79 = .ok (.iconst 1, 1) := by decide +kernel
theorem dX3_about_80 : decode cX3_about 80 = .ok (.goto 4, 3) := by decide +kernel
theorem dX3_about_83 : decode cX3_about 83 = .ok (.iconst 0, 1) := by decide +kernel
theorem dX3_about_84 : decode cX3_about 84 = .ok (.ireturn, 1) := by decide +kernel
theorem dX3_about_85 : decode cX3_about 85 = .ok (.aload_n 3, 1) := by decide +kernel
theorem dX3_about_86 : decode cX3_about 86 = .ok (.getfield 74, 3) := by decide +kernel
theorem dX3_about_89 : decode cX3_about 89 = .ok (.ireturn, 1) := by decide +kernel
theorem dX3_about_90 : decode cX3_about 90 = .ok (.iconst (-1), 1) := by decide +kernel
theorem dX3_about_91 : decode cX3_about 91 = .ok (.ireturn, 1) := by decide +kernel
set_option maxRecDepth 20000 in
theorem ggX3_bound_X3_find : GoodIn wsX3_bound wsX3_find := goodIn_r _ [5, 6, 7, 59, 60, 61, 62, 63, 64] (by decide +kernel) (by decide +kernel)
set_option maxRecDepth 20000 in
theorem gX3_bound_X3_find : GoodIn wsX3_bound (wsV RX3 43 RX3 yX3_find wsX3_find) := goodIn_app (goodIn_of _ (by decide +kernel)) ggX3_bound_X3_find
set_option maxRecDepth 20000 in
theorem ggX3_bound_X3_isLevel : GoodIn wsX3_bound wsX3_isLevel := goodIn_r _ [10] (by decide +kernel) (by decide +kernel)
set_option maxRecDepth 20000 in
theorem gX3_bound_X3_isLevel : GoodIn wsX3_bound (va_wsS RX3 36 yX3_isLevel wsX3_isLevel) := goodIn_app (goodIn_of _ (by decide +kernel)) ggX3_bound_X3_isLevel
set_option maxRecDepth 20000 in
theorem ggX3_bound_X3_greatestAbove : GoodIn wsX3_bound wsX3_greatestAbove := goodIn_r _ [14, 15, 16, 17, 18, 19, 20, 21, 22, 23, 24, 25, 26, 27, 28, 29, 30, 31, 32, 33, 34, 35, 36, 37, 38, 39, 40, 41, 42, 43, 44, 45, 46, 47, 59, 60, 61, 62, 63, 64, 65, 66, 67] (by decide +kernel) (by decide +kernel)
set_option maxRecDepth 20000 in
theorem gX3_bound_X3_greatestAbove : GoodIn wsX3_bound (wsV RX3 77 RX3 yX3_greatestAbove wsX3_greatestAbove) := goodIn_app (goodIn_of _ (by decide +kernel)) ggX3_bound_X3_greatestAbove
theorem dX3_bound_0 : decode cX3_bound 0 = .ok (.aload_n 0, 1) := by decide +kernel
theorem dX3_bound_1 : decode cX3_bound 1 = .ok (.iload_n 1, 1) := by decide +kernel
theorem dX3_bound_2 : decode cX3_bound 2 = .ok (.invokevirtual 43, 3) := by decide +kernel
theorem dX3_bound_5 : decode cX3_bound 5 = .ok (.astore 4, 2) := by decide +kernel
theorem dX3_bound_7 : decode cX3_bound 7 = .ok (.aload 4, 2) := by decide +kernel
theorem dX3_bound_9 : decode cX3_bound 9 = .ok (.ifnull 10, 3) := by decide +kernel
theorem dX3_bound_12 : decode cX3_bound 12 = .ok (.iload_n 2, 1) := by decide +kernel
theorem dX3_bound_13 : decode cX3_bound 13 = .ok (.invokestatic 36, 3) := by decide +kernel
theorem dX3_bound_16 : decode cX3_bound 16 = .ok (.ifCond .ne 5, 3) := by decide +kernel
theorem dX3_bound_19 : decode cX3_bound 19 = .ok (.iconst (-1), 1) := by decide +kernel
theorem dX3_bound_20 : decode cX3_bound 20 = .ok (.ireturn, 1) := by decide +kernel
theorem dX3_bound_21 : decode cX3_bound 21 = .ok (.aload 4, 2) := by decide +kernel
theorem dX3_bound_23 : decode cX3_bound 23 = .ok (.getfield 64, 3) := by decide +kernel
theorem dX3_bound_26 : decode cX3_bound 26 = .ok (.istore 5, 2) := by decide +kernel
theorem dX3_bound_28 : decode cX3_bound 28 = .ok (.aload 4, 2) := by decide +kernel
theorem dX3_bound_30 : decode cX3_bound 30 = .ok (.getfield 67, 3) := by decide +kernel
theorem dX3_bound_33 : decode cX3_bound 33 = .ok (.istore 6, 2) := by decide +kernel
theorem dX3_bound_35 : decode cX3_bound 35 = .ok (.iload_n 3, 1) := by decide +kernel
theorem dX3_bound_36 : decode cX3_bound 36 = .ok (.ifCond .eq 13, 3) := by decide +kernel
theorem dX3_bound_39 : decode cX3_bound 39 = .ok (.aload_n 0, 1) := by decide +kernel
theorem dX3_bound_40 : decode cX3_bound 40 = .ok (.iload 5, 2) := by decide +kernel
theorem dX3_bound_42 : decode cX3_bound 42 = .ok (.iload 6, 2) := by decide +kernel
theorem dX3_bound_44 : decode cX3_bound 44 = .ok (.iload_n 2, 1) := by decide +kernel
theorem dX3_bound_45 : decode cX3_bound 45 = .ok (.invokevirtual 77, 3) := by decide +kernel
theorem dX3_bound_48 : decode cX3_bound 48 = .ok (.ireturn, 1) := by decide +kernel
theorem dX3_bound_49 : decode cX3_bound 49 = .ok (.sipush 1000, 3) := by decide +kernel
theorem dX3_bound_52 : decode cX3_bound 52 = .ok (.aload_n 0, 1) := by decide +kernel
theorem dX3_bound_53 : decode cX3_bound 53 = .ok (.iload 5, 2) := by decide +kernel
theorem dX3_bound_55 : decode cX3_bound 55 = .ok (.iload 5, 2) := by decide +kernel
theorem dX3_bound_57 : decode cX3_bound 57 = .ok (.iload 6, 2) := by decide +kernel
theorem dX3_bound_59 : decode cX3_bound 59 = .ok (.isub, 1) := by decide +kernel
theorem dX3_bound_60 : decode cX3_bound 60 = .ok (.iload_n 2, 1) := by decide +kernel
theorem dX3_bound_61 : decode cX3_bound 61 = .ok (.invokevirtual 77, 3) := by decide +kernel
theorem dX3_bound_64 : decode cX3_bound 64 = .ok (.isub, 1) := by decide +kernel
theorem dX3_bound_65 : decode cX3_bound 65 = .ok (.ireturn, 1) := by decide +kernel
set_option maxRecDepth 20000 in
theorem ggX3_share_X3_find : GoodIn wsX3_share wsX3_find := goodIn_r _ [6, 7, 8, 53, 54, 55, 56, 57, 58] (by decide +kernel) (by decide +kernel)
set_option maxRecDepth 20000 in
theorem gX3_share_X3_find : GoodIn wsX3_share (wsV RX3 43 RX3 yX3_find wsX3_find) := goodIn_app (goodIn_of _ (by decide +kernel)) ggX3_share_X3_find
set_option maxRecDepth 20000 in
theorem ggX3_share_X3_isShare : GoodIn wsX3_share wsX3_isShare := goodIn_r _ [11] (by decide +kernel) (by decide +kernel)
set_option maxRecDepth 20000 in
theorem gX3_share_X3_isShare : GoodIn wsX3_share (va_wsS RX3 40 yX3_isShare wsX3_isShare) := goodIn_app (goodIn_of _ (by decide +kernel)) ggX3_share_X3_isShare
set_option maxRecDepth 20000 in
theorem ggX3_share_X3_atMost : GoodIn wsX3_share wsX3_atMost := goodIn_r _ [15, 16, 17, 18, 19, 20, 21, 22, 23, 24, 25, 26, 27, 28, 29, 30, 31, 32, 33, 34, 35, 36, 37, 38, 39, 40, 41, 42, 43, 53, 54, 55, 56, 57, 58, 59, 60, 61, 62, 63, 64, 65, 66, 67, 68, 69, 70, 71, 72] (by decide +kernel) (by decide +kernel)
set_option maxRecDepth 20000 in
theorem gX3_share_X3_atMost : GoodIn wsX3_share (wsV RX3 83 RX3 yX3_atMost wsX3_atMost) := goodIn_app (goodIn_of _ (by decide +kernel)) ggX3_share_X3_atMost
set_option maxRecDepth 20000 in
theorem ggX3_share_X3_atLeast : GoodIn wsX3_share wsX3_atLeast := goodIn_r _ [47, 16, 17, 18, 19, 20, 21, 22, 23, 24, 25, 26, 27, 28, 29, 30, 31, 32, 33, 34, 35, 36, 37, 38, 39, 40, 41, 42, 43, 59, 60, 61, 62, 63, 64, 65, 66, 67, 68, 69, 53, 54, 55, 56, 57, 58, 70, 71, 72] (by decide +kernel) (by decide +kernel)
set_option maxRecDepth 20000 in
theorem gX3_share_X3_atLeast : GoodIn wsX3_share (wsV RX3 87 RX3 yX3_atLeast wsX3_atLeast) := goodIn_app (goodIn_of _ (by decide +kernel)) ggX3_share_X3_atLeast
set_option maxRecDepth 20000 in
theorem ggX3_share_X1_cutTo : GoodIn wsX3_share wsX1_cutTo := goodIn_r _ [51, 29, 35, 52, 72] (by decide +kernel) (by decide +kernel)
set_option maxRecDepth 20000 in
theorem gX3_share_X1_cutTo : GoodIn wsX3_share (wsV RX3 90 RX1 yX1_cutTo wsX1_cutTo) := goodIn_app (goodIn_of _ (by decide +kernel)) ggX3_share_X1_cutTo
theorem dX3_share_0 : decode cX3_share 0 = .ok (.aload_n 0, 1) := by decide +kernel
theorem dX3_share_1 : decode cX3_share 1 = .ok (.iload_n 1, 1) := by decide +kernel
theorem dX3_share_2 : decode cX3_share 2 = .ok (.invokevirtual 43, 3) := by decide +kernel
theorem dX3_share_5 : decode cX3_share 5 = .ok (.astore 5, 2) := by decide +kernel
theorem dX3_share_7 : decode cX3_share 7 = .ok (.aload 5, 2) := by decide +kernel
theorem dX3_share_9 : decode cX3_share 9 = .ok (.ifnull 23, 3) := by decide +kernel
theorem dX3_share_12 : decode cX3_share 12 = .ok (.iload_n 2, 1) := by decide +kernel
theorem dX3_share_13 : decode cX3_share 13 = .ok (.invokestatic 40, 3) := by decide +kernel
theorem dX3_share_16 : decode cX3_share 16 = .ok (.ifCond .eq 16, 3) := by decide +kernel
theorem dX3_share_19 : decode cX3_share 19 = .ok (.iload 4, 2) := by decide +kernel
theorem dX3_share_21 : decode cX3_share 21 = .ok (.iconst 1, 1) := by decide +kernel
theorem dX3_share_22 : decode cX3_share 22 = .ok (.if_icmp .lt 10, 3) := by decide +kernel
theorem dX3_share_25 : decode cX3_share 25 = .ok (.iload 4, 2) := by decide +kernel
theorem dX3_share_27 : decode cX3_share 27 = .ok (.bipush 18, 2) := by decide +kernel
theorem dX3_share_29 : decode cX3_share 29 = .ok (.if_icmp .le 7, 3) := by decide +kernel
theorem dX3_share_32 : decode cX3_share 32 = .ok (.ldc2_w 81, 3) := by decide +kernel
theorem dX3_share_35 : decode cX3_share 35 = .ok (.lreturn, 1) := by decide +kernel
theorem dX3_share_36 : decode cX3_share 36 = .ok (.iload_n 3, 1) := by decide +kernel
theorem dX3_share_37 : decode cX3_share 37 = .ok (.ifCond .eq 13, 3) := by decide +kernel
theorem dX3_share_40 : decode cX3_share 40 = .ok (.aload_n 0, 1) := by decide +kernel
theorem dX3_share_41 : decode cX3_share 41 = .ok (.aload 5, 2) := by decide +kernel
theorem dX3_share_43 : decode cX3_share 43 = .ok (.iload_n 2, 1) := by decide +kernel
theorem dX3_share_44 : decode cX3_share 44 = .ok (.invokevirtual 83, 3) := by decide +kernel
theorem dX3_share_47 : decode cX3_share 47 = .ok (.goto 10, 3) := by decide +kernel
theorem dX3_share_50 : decode cX3_share 50 = .ok (.aload_n 0, 1) := by decide +kernel
theorem dX3_share_51 : decode cX3_share 51 = .ok (.aload 5, 2) := by decide +kernel
theorem dX3_share_53 : decode cX3_share 53 = .ok (.iload_n 2, 1) := by decide +kernel
theorem dX3_share_54 : decode cX3_share 54 = .ok (.invokevirtual 87, 3) := by decide +kernel
theorem dX3_share_57 : decode cX3_share 57 = .ok (.astore 6, 2) := by decide +kernel
theorem dX3_share_59 : decode cX3_share 59 = .ok (.aload 6, 2) := by decide +kernel
theorem dX3_share_61 : decode cX3_share 61 = .ok (.iload 4, 2) := by decide +kernel
theorem dX3_share_63 : decode cX3_share 63 = .ok (.invokevirtual 90, 3) := by decide +kernel
theorem dX3_share_66 : decode cX3_share 66 = .ok (.lreturn, 1) := by decide +kernel
set_option maxRecDepth 20000 in
theorem ggX3_isBad_X3_find : GoodIn wsX3_isBad wsX3_find := goodIn_r _ [5, 6, 7, 20, 21, 22, 23, 24, 25] (by decide +kernel) (by decide +kernel)
set_option maxRecDepth 20000 in
theorem gX3_isBad_X3_find : GoodIn wsX3_isBad (wsV RX3 43 RX3 yX3_find wsX3_find) := goodIn_app (goodIn_of _ (by decide +kernel)) ggX3_isBad_X3_find
set_option maxRecDepth 20000 in
theorem ggX3_isBad_X2_hasOnlyFails : GoodIn wsX3_isBad wsX2_hasOnlyFails := goodIn_r _ [12, 13, 14, 15, 11, 16, 17, 18, 19, 26, 27, 28, 29, 30, 31, 32, 33, 34, 35, 36] (by decide +kernel) (by decide +kernel)
set_option maxRecDepth 20000 in
theorem gX3_isBad_X2_hasOnlyFails : GoodIn wsX3_isBad (wsV RX3 96 RX2 yX2_hasOnlyFails wsX2_hasOnlyFails) := goodIn_app (goodIn_of _ (by decide +kernel)) ggX3_isBad_X2_hasOnlyFails
theorem dX3_isBad_0 : decode cX3_isBad 0 = .ok (.aload_n 0, 1) := by decide +kernel
theorem dX3_isBad_1 : decode cX3_isBad 1 = .ok (.iload_n 1, 1) := by decide +kernel
theorem dX3_isBad_2 : decode cX3_isBad 2 = .ok (.invokevirtual 43, 3) := by decide +kernel
theorem dX3_isBad_5 : decode cX3_isBad 5 = .ok (.astore_n 3, 1) := by decide +kernel
theorem dX3_isBad_6 : decode cX3_isBad 6 = .ok (.aload_n 3, 1) := by decide +kernel
theorem dX3_isBad_7 : decode cX3_isBad 7 = .ok (.ifnull 15, 3) := by decide +kernel
theorem dX3_isBad_10 : decode cX3_isBad 10 = .ok (.aload_n 3, 1) := by decide +kernel
theorem dX3_isBad_11 : decode cX3_isBad 11 = .ok (.iload_n 2, 1) := by decide +kernel
theorem dX3_isBad_12 : decode cX3_isBad 12 = .ok (.invokevirtual 96, 3) := by decide +kernel
theorem dX3_isBad_15 : decode cX3_isBad 15 = .ok (.ifCond .eq 7, 3) := by decide +kernel
theorem dX3_isBad_18 : decode cX3_isBad 18 = .ok (.iconst 1, 1) := by decide +kernel
theorem dX3_isBad_19 : decode cX3_isBad 19 = .ok (.goto 4, 3) := by decide +kernel
theorem dX3_isBad_22 : decode cX3_isBad 22 = .ok (.iconst 0, 1) := by decide +kernel
theorem dX3_isBad_23 : decode cX3_isBad 23 = .ok (.ireturn, 1) := by decide +kernel
set_option maxRecDepth 20000 in
theorem ggX3_broken_X3_find : GoodIn wsX3_broken wsX3_find := goodIn_r _ [5, 6, 7, 31, 32, 33, 34, 35, 36] (by decide +kernel) (by decide +kernel)
set_option maxRecDepth 20000 in
theorem gX3_broken_X3_find : GoodIn wsX3_broken (wsV RX3 43 RX3 yX3_find wsX3_find) := goodIn_app (goodIn_of _ (by decide +kernel)) ggX3_broken_X3_find
set_option maxRecDepth 20000 in
theorem ggX3_broken_X2_hasOnlyFails : GoodIn wsX3_broken wsX2_hasOnlyFails := goodIn_r _ [12, 13, 14, 15, 11, 16, 17, 18, 19, 20, 21, 22, 23, 24, 25, 26, 27, 28, 29, 30] (by decide +kernel) (by decide +kernel)
set_option maxRecDepth 20000 in
theorem gX3_broken_X2_hasOnlyFails : GoodIn wsX3_broken (wsV RX3 96 RX2 yX2_hasOnlyFails wsX2_hasOnlyFails) := goodIn_app (goodIn_of _ (by decide +kernel)) ggX3_broken_X2_hasOnlyFails
theorem dX3_broken_0 : decode cX3_broken 0 = .ok (.iconst 0, 1) := by decide +kernel
theorem dX3_broken_1 : decode cX3_broken 1 = .ok (.istore_n 2, 1) := by decide +kernel
theorem dX3_broken_2 : decode cX3_broken 2 = .ok (.iconst 0, 1) := by decide +kernel
theorem dX3_broken_3 : decode cX3_broken 3 = .ok (.istore_n 3, 1) := by decide +kernel
theorem dX3_broken_4 : decode cX3_broken 4 = .ok (.iload_n 3, 1) := by decide +kernel
theorem dX3_broken_5 : decode cX3_broken 5 = .ok (.bipush 12, 2) := by decide +kernel
theorem dX3_broken_7 : decode cX3_broken 7 = .ok (.if_icmp .ge 44, 3) := by decide +kernel
theorem dX3_broken_10 : decode cX3_broken 10 = .ok (.aload_n 0, 1) := by decide +kernel
theorem dX3_broken_11 : decode cX3_broken 11 = .ok (.iload_n 3, 1) := by decide +kernel
theorem dX3_broken_12 : decode cX3_broken 12 = .ok (.invokevirtual 43, 3) := by decide +kernel
theorem dX3_broken_15 : decode cX3_broken 15 = .ok (.astore 4, 2) := by decide +kernel
theorem dX3_broken_17 : decode cX3_broken 17 = .ok (.aload 4, 2) := by decide +kernel
theorem dX3_broken_19 : decode cX3_broken 19 = .ok (.ifnull 26, 3) := by decide +kernel
theorem dX3_broken_22 : decode cX3_broken 22 = .ok (.aload 4, 2) := by decide +kernel
theorem dX3_broken_24 : decode cX3_broken 24 = .ok (.getfield 70, 3) := by decide +kernel
theorem dX3_broken_27 : decode cX3_broken 27 = .ok (.ifCond .ne 18, 3) := by decide +kernel
theorem dX3_broken_30 : decode cX3_broken 30 = .ok (.aload 4, 2) := by decide +kernel
theorem dX3_broken_32 : decode cX3_broken 32 = .ok (.iload_n 1, 1) := by decide +kernel
theorem dX3_broken_33 : decode cX3_broken 33 = .ok (.invokevirtual 96, 3) := by decide +kernel
theorem dX3_broken_36 : decode cX3_broken 36 = .ok (.ifCond .eq 9, 3) := by decide +kernel
theorem dX3_broken_39 : decode cX3_broken 39 = .ok (.iload_n 2, 1) := by decide +kernel
theorem dX3_broken_40 : decode cX3_broken 40 = .ok (.iconst 1, 1) := by decide +kernel
theorem dX3_broken_41 : decode cX3_broken 41 = .ok (.iload_n 3, 1) := by decide +kernel
theorem dX3_broken_42 : decode cX3_broken 42 = .ok (.ishl, 1) := by decide +kernel
theorem dX3_broken_43 : decode cX3_broken 43 = .ok (.ior, 1) := by decide +kernel
theorem dX3_broken_44 : decode cX3_broken 44 = .ok (.istore_n 2, 1) := by decide +kernel
theorem dX3_broken_45 : decode cX3_broken 45 = .ok (.iinc 3 1, 3) := by decide +kernel
theorem dX3_broken_48 : decode cX3_broken 48 = .ok (.goto (-44), 3) := by decide +kernel
theorem dX3_broken_51 : decode cX3_broken 51 = .ok (.iload_n 2, 1) := by decide +kernel
theorem dX3_broken_52 : decode cX3_broken 52 = .ok (.ireturn, 1) := by decide +kernel
theorem dX3_find_0 : decode cX3_find 0 = .ok (.iload_n 1, 1) := by decide +kernel
theorem dX3_find_1 : decode cX3_find 1 = .ok (.ifCond .lt 20, 3) := by decide +kernel
theorem dX3_find_4 : decode cX3_find 4 = .ok (.iload_n 1, 1) := by decide +kernel
theorem dX3_find_5 : decode cX3_find 5 = .ok (.aload_n 0, 1) := by decide +kernel
theorem dX3_find_6 : decode cX3_find 6 = .ok (.getfield 22, 3) := by decide +kernel
theorem dX3_find_9 : decode cX3_find 9 = .ok (.if_icmp .ge 12, 3) := by decide +kernel
theorem dX3_find_12 : decode cX3_find 12 = .ok (.iload_n 1, 1) := by decide +kernel
theorem dX3_find_13 : decode cX3_find 13 = .ok (.aload_n 0, 1) := by decide +kernel
theorem dX3_find_14 : decode cX3_find 14 = .ok (.getfield 11, 3) := by decide +kernel
theorem dX3_find_17 : decode cX3_find 17 = .ok (.arraylength, 1) := by decide +kernel
theorem dX3_find_18 : decode cX3_find 18 = .ok (.if_icmp .lt 5, 3) := by decide +kernel
theorem dX3_find_21 : decode cX3_find 21 = .ok (.aconst_null, 1) := by decide +kernel
theorem dX3_find_22 : decode cX3_find 22 = .ok (.areturn, 1) := by decide +kernel
theorem dX3_find_23 : decode cX3_find 23 = .ok (.aload_n 0, 1) := by decide +kernel
theorem dX3_find_24 : decode cX3_find 24 = .ok (.getfield 11, 3) := by decide +kernel
theorem dX3_find_27 : decode cX3_find 27 = .ok (.iload_n 1, 1) := by decide +kernel
theorem dX3_find_28 : decode cX3_find 28 = .ok (.aaload, 1) := by decide +kernel
theorem dX3_find_29 : decode cX3_find 29 = .ok (.areturn, 1) := by decide +kernel
theorem dX3_isEdition_0 : decode cX3_isEdition 0 = .ok (.iload_n 0, 1) := by decide +kernel
theorem dX3_isEdition_1 : decode cX3_isEdition 1 = .ok (.ifCond .lt 14, 3) := by decide +kernel
theorem dX3_isEdition_4 : decode cX3_isEdition 4 = .ok (.iload_n 0, 1) := by decide +kernel
theorem dX3_isEdition_5 : decode cX3_isEdition 5 = .ok (.sipush 1000, 3) := by decide +kernel
theorem dX3_isEdition_8 : decode cX3_isEdition 8 = .ok (.if_icmp .ge 7, 3) := by decide +kernel
theorem dX3_isEdition_11 : decode cX3_isEdition 11 = .ok (.iconst 1, 1) := by decide +kernel
theorem dX3_isEdition_12 : decode cX3_isEdition 12 = .ok (.goto 4, 3) := by decide +kernel
theorem dX3_isEdition_15 : decode cX3_isEdition 15 = .ok (.iconst 0, 1) := by decide +kernel
theorem dX3_isEdition_16 : decode cX3_isEdition 16 = .ok (.ireturn, 1) := by decide +kernel
theorem dX3_isLevel_0 : decode cX3_isLevel 0 = .ok (.iload_n 0, 1) := by decide +kernel
theorem dX3_isLevel_1 : decode cX3_isLevel 1 = .ok (.iconst 1, 1) := by decide +kernel
theorem dX3_isLevel_2 : decode cX3_isLevel 2 = .ok (.if_icmp .lt 14, 3) := by decide +kernel
theorem dX3_isLevel_5 : decode cX3_isLevel 5 = .ok (.iload_n 0, 1) := by decide +kernel
theorem dX3_isLevel_6 : decode cX3_isLevel 6 = .ok (.sipush 1000, 3) := by decide +kernel
theorem dX3_isLevel_9 : decode cX3_isLevel 9 = .ok (.if_icmp .ge 7, 3) := by decide +kernel
theorem dX3_isLevel_12 : decode cX3_isLevel 12 = .ok (.iconst 1, 1) := by decide +kernel
theorem dX3_isLevel_13 : decode cX3_isLevel 13 = .ok (.goto 4, 3) := by decide +kernel
theorem dX3_isLevel_16 : decode cX3_isLevel 16 = .ok (.iconst 0, 1) := by decide +kernel
theorem dX3_isLevel_17 : decode cX3_isLevel 17 = .ok (.ireturn, 1) := by decide +kernel
theorem dX3_isShare_0 : decode cX3_isShare 0 = .ok (.iload_n 0, 1) := by decide +kernel
theorem dX3_isShare_1 : decode cX3_isShare 1 = .ok (.ifCond .lt 14, 3) := by decide +kernel
theorem dX3_isShare_4 : decode cX3_isShare 4 = .ok (.iload_n 0, 1) := by decide +kernel
theorem dX3_isShare_5 : decode cX3_isShare 5 = .ok (.sipush 1000, 3) := by decide +kernel
theorem dX3_isShare_8 : decode cX3_isShare 8 = .ok (.if_icmp .gt 7, 3) := by decide +kernel
theorem dX3_isShare_11 : decode cX3_isShare 11 = .ok (.iconst 1, 1) := by decide +kernel
theorem dX3_isShare_12 : decode cX3_isShare 12 = .ok (.goto 4, 3) := by decide +kernel
theorem dX3_isShare_15 : decode cX3_isShare 15 = .ok (.iconst 0, 1) := by decide +kernel
theorem dX3_isShare_16 : decode cX3_isShare 16 = .ok (.ireturn, 1) := by decide +kernel
set_option maxRecDepth 20000 in
theorem ggX3_take_X2_add : GoodIn wsX3_take wsX2_add := goodIn_r _ [8, 9, 10, 11, 12, 13, 14, 15, 7, 16, 17, 18, 19, 20, 21, 22, 23, 66, 67, 68, 69, 70, 71, 72, 73, 74, 75, 76] (by decide +kernel) (by decide +kernel)
set_option maxRecDepth 20000 in
theorem gX3_take_X2_add : GoodIn wsX3_take (wsV RX3 99 RX2 yX2_add wsX2_add) := goodIn_app (goodIn_of _ (by decide +kernel)) ggX3_take_X2_add
set_option maxRecDepth 20000 in
theorem ggX3_take_X3_atMost : GoodIn wsX3_take wsX3_atMost := goodIn_r _ [28, 29, 30, 31, 32, 33, 34, 35, 36, 37, 38, 39, 40, 41, 42, 43, 44, 45, 46, 47, 48, 49, 50, 51, 52, 53, 54, 55, 56, 77, 78, 79, 80, 81, 82, 66, 67, 68, 69, 70, 71, 72, 73, 74, 75, 76, 83, 84, 85] (by decide +kernel) (by decide +kernel)
set_option maxRecDepth 20000 in
theorem gX3_take_X3_atMost : GoodIn wsX3_take (wsV RX3 83 RX3 yX3_atMost wsX3_atMost) := goodIn_app (goodIn_of _ (by decide +kernel)) ggX3_take_X3_atMost
set_option maxRecDepth 20000 in
theorem ggX3_take_X1_isAbove : GoodIn wsX3_take wsX1_isAbove := goodIn_r _ [60, 42, 61, 85] (by decide +kernel) (by decide +kernel)
set_option maxRecDepth 20000 in
theorem gX3_take_X1_isAbove : GoodIn wsX3_take (wsV RX3 103 RX1 yX1_isAbove wsX1_isAbove) := goodIn_app (goodIn_of _ (by decide +kernel)) ggX3_take_X1_isAbove
set_option maxRecDepth 20000 in
theorem ggX3_take_X3_atLeast : GoodIn wsX3_take wsX3_atLeast := goodIn_r _ [65, 29, 30, 31, 32, 33, 34, 35, 36, 37, 38, 39, 40, 41, 42, 43, 44, 45, 46, 47, 48, 49, 50, 51, 52, 53, 54, 55, 56, 66, 67, 68, 69, 70, 71, 72, 73, 74, 75, 76, 77, 78, 79, 80, 81, 82, 83, 84, 85] (by decide +kernel) (by decide +kernel)
set_option maxRecDepth 20000 in
theorem gX3_take_X3_atLeast : GoodIn wsX3_take (wsV RX3 87 RX3 yX3_atLeast wsX3_atLeast) := goodIn_app (goodIn_of _ (by decide +kernel)) ggX3_take_X3_atLeast
theorem dX3_take_0 : decode cX3_take 0 = .ok (.aload_n 1, 1) := by decide +kernel
theorem dX3_take_1 : decode cX3_take 1 = .ok (.iload_n 2, 1) := by decide +kernel
theorem dX3_take_2 : decode cX3_take 2 = .ok (.iload_n 3, 1) := by decide +kernel
theorem dX3_take_3 : decode cX3_take 3 = .ok (.invokevirtual 99, 3) := by decide +kernel
theorem dX3_take_6 : decode cX3_take 6 = .ok (.aload_n 1, 1) := by decide +kernel
theorem dX3_take_7 : decode cX3_take 7 = .ok (.getfield 70, 3) := by decide +kernel
theorem dX3_take_10 : decode cX3_take 10 = .ok (.ifCond .eq 28, 3) := by decide +kernel
theorem dX3_take_13 : decode cX3_take 13 = .ok (.aload_n 0, 1) := by decide +kernel
theorem dX3_take_14 : decode cX3_take 14 = .ok (.aload_n 1, 1) := by decide +kernel
theorem dX3_take_15 : decode cX3_take 15 = .ok (.aload_n 0, 1) := by decide +kernel
theorem dX3_take_16 : decode cX3_take 16 = .ok (.getfield 32, 3) := by decide +kernel
theorem dX3_take_19 : decode cX3_take 19 = .ok (.invokevirtual 83, 3) := by decide +kernel
theorem dX3_take_22 : decode cX3_take 22 = .ok (.aload_n 0, 1) := by decide +kernel
theorem dX3_take_23 : decode cX3_take 23 = .ok (.getfield 26, 3) := by decide +kernel
theorem dX3_take_26 : decode cX3_take 26 = .ok (.invokevirtual 103, 3) := by decide +kernel
theorem dX3_take_29 : decode cX3_take 29 = .ok (.ifCond .ne 8, 3) := by decide +kernel
theorem dX3_take_32 : decode cX3_take 32 = .ok (.aload_n 1, 1) := by decide +kernel
theorem dX3_take_33 : decode cX3_take 33 = .ok (.iconst 0, 1) := by decide +kernel
theorem dX3_take_34 : decode cX3_take 34 = .ok (.putfield 70, 3) := by decide +kernel
theorem dX3_take_37 : decode cX3_take 37 = .ok (.return_, 1) := by decide +kernel
theorem dX3_take_38 : decode cX3_take 38 = .ok (.aload_n 0, 1) := by decide +kernel
theorem dX3_take_39 : decode cX3_take 39 = .ok (.aload_n 1, 1) := by decide +kernel
theorem dX3_take_40 : decode cX3_take 40 = .ok (.aload_n 0, 1) := by decide +kernel
theorem dX3_take_41 : decode cX3_take 41 = .ok (.getfield 29, 3) := by decide +kernel
theorem dX3_take_44 : decode cX3_take 44 = .ok (.invokevirtual 87, 3) := by decide +kernel
theorem dX3_take_47 : decode cX3_take 47 = .ok (.aload_n 0, 1) := by decide +kernel
theorem dX3_take_48 : decode cX3_take 48 = .ok (.getfield 26, 3) := by decide +kernel
theorem dX3_take_51 : decode cX3_take 51 = .ok (.invokevirtual 103, 3) := by decide +kernel
theorem dX3_take_54 : decode cX3_take 54 = .ok (.ifCond .ne 18, 3) := by decide +kernel
theorem dX3_take_57 : decode cX3_take 57 = .ok (.aload_n 1, 1) := by decide +kernel
theorem dX3_take_58 : decode cX3_take 58 = .ok (.iconst 1, 1) := by decide +kernel
theorem dX3_take_59 : decode cX3_take 59 = .ok (.putfield 70, 3) := by decide +kernel
theorem dX3_take_62 : decode cX3_take 62 = .ok (.aload_n 1, 1) := by decide +kernel
theorem dX3_take_63 : decode cX3_take 63 = .ok (.dup, 1) := by decide +kernel
theorem dX3_take_64 : decode cX3_take 64 = .ok (.getfield 74, 3) := by decide +kernel
theorem dX3_take_67 : decode cX3_take 67 = .ok (.iconst 1, 1) := by decide +kernel
theorem dX3_take_68 : decode cX3_take 68 = .ok (.iadd, 1) := by decide +kernel
theorem dX3_take_69 : decode cX3_take 69 = .ok (.putfield 74, 3) := by decide +kernel
theorem dX3_take_72 : decode cX3_take 72 = .ok (.return_, 1) := by decide +kernel
set_option maxRecDepth 20000 in
theorem ggX3_atMost_X0_upTo : GoodIn wsX3_atMost wsX0_upTo := goodIn_r _ [6, 7, 8, 9, 10, 11, 12, 13, 14, 15, 16, 17, 18, 19, 20, 21, 22, 23, 24, 25, 26, 27, 28, 46, 47, 48] (by decide +kernel) (by decide +kernel)
set_option maxRecDepth 20000 in
theorem gX3_atMost_X0_upTo : GoodIn wsX3_atMost (wsV RX3 106 RX0 yX0_upTo wsX0_upTo) := goodIn_app (goodIn_of _ (by decide +kernel)) ggX3_atMost_X0_upTo
theorem dX3_atMost_0 : decode cX3_atMost 0 = .ok (.aload_n 0, 1) := by decide +kernel
theorem dX3_atMost_1 : decode cX3_atMost 1 = .ok (.getfield 18, 3) := by decide +kernel
theorem dX3_atMost_4 : decode cX3_atMost 4 = .ok (.aload_n 1, 1) := by decide +kernel
theorem dX3_atMost_5 : decode cX3_atMost 5 = .ok (.getfield 64, 3) := by decide +kernel
theorem dX3_atMost_8 : decode cX3_atMost 8 = .ok (.aload_n 1, 1) := by decide +kernel
theorem dX3_atMost_9 : decode cX3_atMost 9 = .ok (.getfield 67, 3) := by decide +kernel
theorem dX3_atMost_12 : decode cX3_atMost 12 = .ok (.iload_n 2, 1) := by decide +kernel
theorem dX3_atMost_13 : decode cX3_atMost 13 = .ok (.invokevirtual 106, 3) := by decide +kernel
theorem dX3_atMost_16 : decode cX3_atMost 16 = .ok (.areturn, 1) := by decide +kernel
set_option maxRecDepth 20000 in
theorem ggX3_atLeast_X0_upTo : GoodIn wsX3_atLeast wsX0_upTo := goodIn_r _ [6, 7, 8, 9, 10, 11, 12, 13, 14, 15, 16, 17, 18, 19, 20, 21, 22, 23, 24, 25, 26, 27, 28, 46, 47, 48] (by decide +kernel) (by decide +kernel)
set_option maxRecDepth 20000 in
theorem gX3_atLeast_X0_upTo : GoodIn wsX3_atLeast (wsV RX3 106 RX0 yX0_upTo wsX0_upTo) := goodIn_app (goodIn_of _ (by decide +kernel)) ggX3_atLeast_X0_upTo
theorem dX3_atLeast_0 : decode cX3_atLeast 0 = .ok (.aload_n 1, 1) := by decide +kernel
theorem dX3_atLeast_1 : decode cX3_atLeast 1 = .ok (.getfield 64, 3) := by decide +kernel
theorem dX3_atLeast_4 : decode cX3_atLeast 4 = .ok (.aload_n 1, 1) := by decide +kernel
theorem dX3_atLeast_5 : decode cX3_atLeast 5 = .ok (.getfield 67, 3) := by decide +kernel
theorem dX3_atLeast_8 : decode cX3_atLeast 8 = .ok (.isub, 1) := by decide +kernel
theorem dX3_atLeast_9 : decode cX3_atLeast 9 = .ok (.istore_n 3, 1) := by decide +kernel
theorem dX3_atLeast_10 : decode cX3_atLeast 10 = .ok (.aload_n 0, 1) := by decide +kernel
theorem dX3_atLeast_11 : decode cX3_atLeast 11 = .ok (.getfield 18, 3) := by decide +kernel
theorem dX3_atLeast_14 : decode cX3_atLeast 14 = .ok (.aload_n 1, 1) := by decide +kernel
theorem dX3_atLeast_15 : decode cX3_atLeast 15 = .ok (.getfield 64, 3) := by decide +kernel
theorem dX3_atLeast_18 : decode cX3_atLeast 18 = .ok (.iload_n 3, 1) := by decide +kernel
theorem dX3_atLeast_19 : decode cX3_atLeast 19 = .ok (.sipush 1000, 3) := by decide +kernel
theorem dX3_atLeast_22 : decode cX3_atLeast 22 = .ok (.iload_n 2, 1) := by decide +kernel
theorem dX3_atLeast_23 : decode cX3_atLeast 23 = .ok (.isub, 1) := by decide +kernel
theorem dX3_atLeast_24 : decode cX3_atLeast 24 = .ok (.invokevirtual 106, 3) := by decide +kernel
theorem dX3_atLeast_27 : decode cX3_atLeast 27 = .ok (.areturn, 1) := by decide +kernel
set_option maxRecDepth 20000 in
theorem ggX3_greatestAbove_X0_upTo : GoodIn wsX3_greatestAbove wsX0_upTo := goodIn_r _ [6, 7, 8, 9, 10, 11, 12, 13, 14, 15, 16, 17, 18, 19, 20, 21, 22, 23, 24, 25, 26, 27, 28, 40, 41, 42] (by decide +kernel) (by decide +kernel)
set_option maxRecDepth 20000 in
theorem gX3_greatestAbove_X0_upTo : GoodIn wsX3_greatestAbove (wsV RX3 106 RX0 yX0_upTo wsX0_upTo) := goodIn_app (goodIn_of _ (by decide +kernel)) ggX3_greatestAbove_X0_upTo
set_option maxRecDepth 20000 in
theorem ggX3_greatestAbove_X1_isAbove : GoodIn wsX3_greatestAbove wsX1_isAbove := goodIn_r _ [32, 14, 33, 42] (by decide +kernel) (by decide +kernel)
set_option maxRecDepth 20000 in
theorem gX3_greatestAbove_X1_isAbove : GoodIn wsX3_greatestAbove (wsV RX3 103 RX1 yX1_isAbove wsX1_isAbove) := goodIn_app (goodIn_of _ (by decide +kernel)) ggX3_greatestAbove_X1_isAbove
theorem dX3_greatestAbove_0 : decode cX3_greatestAbove 0 = .ok (.iconst 0, 1) := by decide +kernel
theorem dX3_greatestAbove_1 : decode cX3_greatestAbove 1 = .ok (.istore 4, 2) := by decide +kernel
theorem dX3_greatestAbove_3 : decode cX3_greatestAbove 3 = .ok (.sipush 512, 3) := by decide +kernel
theorem dX3_greatestAbove_6 : decode cX3_greatestAbove 6 = .ok (.istore 5, 2) := by decide +kernel
theorem dX3_greatestAbove_8 : decode cX3_greatestAbove 8 = .ok (.iload 5, 2) := by decide +kernel
theorem dX3_greatestAbove_10 : decode cX3_greatestAbove 10 = .ok (.ifCond .le 51, 3) := by decide +kernel
theorem dX3_greatestAbove_13 : decode cX3_greatestAbove 13 = .ok (.iload 4, 2) := by decide +kernel
theorem dX3_greatestAbove_15 : decode cX3_greatestAbove 15 = .ok (.iload 5, 2) := by decide +kernel
theorem dX3_greatestAbove_17 : decode cX3_greatestAbove 17 = .ok (.iadd, 1) := by decide +kernel
theorem dX3_greatestAbove_18 : decode cX3_greatestAbove 18 = .ok (.sipush 1000, 3) := by decide +kernel
theorem dX3_greatestAbove_21 : decode cX3_greatestAbove 21 = .ok (.if_icmp .gt 31, 3) := by decide +kernel
theorem dX3_greatestAbove_24 : decode cX3_greatestAbove 24 = .ok (.aload_n 0, 1) := by decide +kernel
theorem dX3_greatestAbove_25 : decode cX3_greatestAbove 25 = .ok (.getfield 18, 3) := by decide +kernel
theorem dX3_greatestAbove_28 : decode cX3_greatestAbove 28 = .ok (.iload_n 1, 1) := by decide +kernel
theorem dX3_greatestAbove_29 : decode cX3_greatestAbove 29 = .ok (.iload_n 2, 1) := by decide +kernel
theorem dX3_greatestAbove_30 : decode cX3_greatestAbove 30 = .ok (.iload 4, 2) := by decide +kernel
theorem dX3_greatestAbove_32 : decode cX3_greatestAbove 32 = .ok (.iload 5, 2) := by decide +kernel
theorem dX3_greatestAbove_34 : decode cX3_greatestAbove 34 = .ok (.iadd, 1) := by decide +kernel
theorem dX3_greatestAbove_35 : decode cX3_greatestAbove 35 = .ok (.invokevirtual 106, 3) := by decide +kernel
theorem dX3_greatestAbove_38 : decode cX3_greatestAbove 38 = .ok (.iload_n 3, 1) := by decide +kernel
theorem dX3_greatestAbove_39 : decode cX3_greatestAbove 39 = .ok (.invokevirtual 103, 3) := by decide +kernel
theorem dX3_greatestAbove_42 : decode cX3_greatestAbove 42 = .ok (.ifCond .eq 10, 3) := by decide +kernel
theorem dX3_greatestAbove_45 : decode cX3_greatestAbove 45 = .ok (.iload 4, 2) := by decide +kernel
theorem dX3_greatestAbove_47 : decode cX3_greatestAbove 47 = .ok (.iload 5, 2) := by decide +kernel
theorem dX3_greatestAbove_49 : decode cX3_greatestAbove 49 = .ok (.iadd, 1) := by decide +kernel
theorem dX3_greatestAbove_50 : decode cX3_greatestAbove 50 = .ok (.istore 4, 2) := by decide +kernel
theorem dX3_greatestAbove_52 : decode cX3_greatestAbove 52 = .ok (.iload 5, 2) := by decide +kernel
theorem dX3_greatestAbove_54 : decode cX3_greatestAbove 54 = .ok (.iconst 2, 1) := by decide +kernel
theorem dX3_greatestAbove_55 : decode cX3_greatestAbove 55 = .ok (.idiv, 1) := by decide +kernel
theorem dX3_greatestAbove_56 : decode cX3_greatestAbove 56 = .ok (.istore 5, 2) := by decide +kernel
theorem dX3_greatestAbove_58 : decode cX3_greatestAbove 58 = .ok (.goto (-50), 3) := by decide +kernel
theorem dX3_greatestAbove_61 : decode cX3_greatestAbove 61 = .ok (.iload 4, 2) := by decide +kernel
theorem dX3_greatestAbove_63 : decode cX3_greatestAbove 63 = .ok (.ireturn, 1) := by decide +kernel
theorem dL_law_0 : decode cL_law 0 = .ok (.new 7, 3) := by decide +kernel
theorem dL_law_3 : decode cL_law 3 = .ok (.dup, 1) := by decide +kernel
theorem dL_law_4 : decode cL_law 4 = .ok (.invokespecial 9, 3) := by decide +kernel
theorem dL_law_7 : decode cL_law 7 = .ok (.astore_n 1, 1) := by decide +kernel
theorem dL_law_8 : decode cL_law 8 = .ok (.new 10, 3) := by decide +kernel
theorem dL_law_11 : decode cL_law 11 = .ok (.dup, 1) := by decide +kernel
theorem dL_law_12 : decode cL_law 12 = .ok (.invokespecial 12, 3) := by decide +kernel
theorem dL_law_15 : decode cL_law 15 = .ok (.astore_n 2, 1) := by decide +kernel
theorem dL_law_16 : decode cL_law 16 = .ok (.iconst 0, 1) := by decide +kernel
theorem dL_law_17 : decode cL_law 17 = .ok (.istore_n 3, 1) := by decide +kernel
theorem dL_law_18 : decode cL_law 18 = .ok (.iload_n 3, 1) := by decide +kernel
theorem dL_law_19 : decode cL_law 19 = .ok (.aload_n 0, 1) := by decide +kernel
theorem dL_law_20 : decode cL_law 20 = .ok (.arraylength, 1) := by decide +kernel
theorem dL_law_21 : decode cL_law 21 = .ok (.iconst 5, 1) := by decide +kernel
theorem dL_law_22 : decode cL_law 22 = .ok (.isub, 1) := by decide +kernel
theorem dL_law_23 : decode cL_law 23 = .ok (.if_icmp .gt 459, 3) := by decide +kernel
theorem dL_law_26 : decode cL_law 26 = .ok (.aload_n 0, 1) := by decide +kernel
theorem dL_law_27 : decode cL_law 27 = .ok (.iload_n 3, 1) := by decide +kernel
theorem dL_law_28 : decode cL_law 28 = .ok (.iaload, 1) := by decide +kernel
theorem dL_law_29 : decode cL_law 29 = .ok (.bipush 15, 2) := by decide +kernel
theorem dL_law_31 : decode cL_law 31 = .ok (.iand, 1) := by decide +kernel
theorem dL_law_32 : decode cL_law 32 = .ok (.tableswitch 444 0 8 #[52, 65, 108, 167, 226, 259, 318, 388, 421], 52) := by decide +kernel
theorem dL_law_84 : decode cL_law 84 = .ok (.aload_n 1, 1) := by decide +kernel
theorem dL_law_85 : decode cL_law 85 = .ok (.invokevirtual 13, 3) := by decide +kernel
theorem dL_law_88 : decode cL_law 88 = .ok (.aload_n 2, 1) := by decide +kernel
theorem dL_law_89 : decode cL_law 89 = .ok (.invokevirtual 17, 3) := by decide +kernel
theorem dL_law_92 : decode cL_law 92 = .ok (.if_icmp .eq 384, 3) := by decide +kernel
theorem dL_law_95 : decode cL_law 95 = .ok (.iconst 0, 1) := by decide +kernel
theorem dL_law_96 : decode cL_law 96 = .ok (.ireturn, 1) := by decide +kernel
theorem dL_law_97 : decode cL_law 97 = .ok (.aload_n 1, 1) := by decide +kernel
theorem dL_law_98 : decode cL_law 98 = .ok (.aload_n 0, 1) := by decide +kernel
theorem dL_law_99 : decode cL_law 99 = .ok (.iload_n 3, 1) := by decide +kernel
theorem dL_law_100 : decode cL_law 100 = .ok (.iconst 1, 1) := by decide +kernel
theorem dL_law_101 : decode cL_law 101 = .ok (.iadd, 1) := by decide +kernel
theorem dL_law_102 : decode cL_law 102 = .ok (.iaload, 1) := by decide +kernel
theorem dL_law_103 : decode cL_law 103 = .ok (.aload_n 0, 1) := by decide +kernel
theorem dL_law_104 : decode cL_law 104 = .ok (.iload_n 3, 1) := by decide +kernel
theorem dL_law_105 : decode cL_law 105 = .ok (.iconst 2, 1) := by decide +kernel
theorem dL_law_106 : decode cL_law 106 = .ok (.iadd, 1) := by decide +kernel
theorem dL_law_107 : decode cL_law 107 = .ok (.iaload, 1) := by decide +kernel
theorem dL_law_108 : decode cL_law 108 = .ok (.aload_n 0, 1) := by decide +kernel
theorem dL_law_109 : decode cL_law 109 = .ok (.iload_n 3, 1) := by decide +kernel
theorem dL_law_110 : decode cL_law 110 = .ok (.iconst 3, 1) := by decide +kernel
theorem dL_law_111 : decode cL_law 111 = .ok (.iadd, 1) := by decide +kernel
theorem dL_law_112 : decode cL_law 112 = .ok (.iaload, 1) := by decide +kernel
theorem dL_law_113 : decode cL_law 113 = .ok (.invokevirtual 18, 3) := by decide +kernel
theorem dL_law_116 : decode cL_law 116 = .ok (.aload_n 2, 1) := by decide +kernel
theorem dL_law_117 : decode cL_law 117 = .ok (.aload_n 0, 1) := by decide +kernel
theorem dL_law_118 : decode cL_law 118 = .ok (.iload_n 3, 1) := by decide +kernel
theorem dL_law_119 : decode cL_law 119 = .ok (.iconst 1, 1) := by decide +kernel
theorem dL_law_120 : decode cL_law 120 = .ok (.iadd, 1) := by decide +kernel
theorem dL_law_121 : decode cL_law 121 = .ok (.iaload, 1) := by decide +kernel
theorem dL_law_122 : decode cL_law 122 = .ok (.aload_n 0, 1) := by decide +kernel
theorem dL_law_123 : decode cL_law 123 = .ok (.iload_n 3, 1) := by decide +kernel
theorem dL_law_124 : decode cL_law 124 = .ok (.iconst 2, 1) := by decide +kernel
theorem dL_law_125 : decode cL_law 125 = .ok (.iadd, 1) := by decide +kernel
theorem dL_law_126 : decode cL_law 126 = .ok (.iaload, 1) := by decide +kernel
theorem dL_law_127 : decode cL_law 127 = .ok (.aload_n 0, 1) := by decide +kernel
theorem dL_law_128 : decode cL_law 128 = .ok (.iload_n 3, 1) := by decide +kernel
theorem dL_law_129 : decode cL_law 129 = .ok (.iconst 3, 1) := by decide +kernel
theorem dL_law_130 : decode cL_law 130 = .ok (.iadd, 1) := by decide +kernel
theorem dL_law_131 : decode cL_law 131 = .ok (.iaload, 1) := by decide +kernel
theorem dL_law_132 : decode cL_law 132 = .ok (.invokevirtual 22, 3) := by decide +kernel
theorem dL_law_135 : decode cL_law 135 = .ok (.if_icmp .eq 341, 3) := by decide +kernel
theorem dL_law_138 : decode cL_law 138 = .ok (.iconst 0, 1) := by decide +kernel
theorem dL_law_139 : decode cL_law 139 = .ok (.ireturn, 1) := by decide +kernel
theorem dL_law_140 : decode cL_law 140 = .ok (.aload_n 1, 1) := by decide +kernel
theorem dL_law_141 : decode cL_law 141 = .ok (.aload_n 0, 1) := by decide +kernel
theorem dL_law_142 : decode cL_law 142 = .ok (.iload_n 3, 1) := by decide +kernel
theorem dL_law_143 : decode cL_law 143 = .ok (.iconst 1, 1) := by decide +kernel
theorem dL_law_144 : decode cL_law 144 = .ok (.iadd, 1) := by decide +kernel
theorem dL_law_145 : decode cL_law 145 = .ok (.iaload, 1) := by decide +kernel
theorem dL_law_146 : decode cL_law 146 = .ok (.aload_n 0, 1) := by decide +kernel
theorem dL_law_147 : decode cL_law 147 = .ok (.iload_n 3, 1) := by decide +kernel
theorem dL_law_148 : decode cL_law 148 = .ok (.iconst 2, 1) := by decide +kernel
theorem dL_law_149 : decode cL_law 149 = .ok (.iadd, 1) := by decide +kernel
theorem dL_law_150 : decode cL_law 150 = .ok (.iaload, 1) := by decide +kernel
theorem dL_law_151 : decode cL_law 151 = .ok (.aload_n 0, 1) := by decide +kernel
theorem dL_law_152 : decode cL_law 152 = .ok (.iload_n 3, 1) := by decide +kernel
theorem dL_law_153 : decode cL_law 153 = .ok (.iconst 3, 1) := by decide +kernel
theorem dL_law_154 : decode cL_law 154 = .ok (.iadd, 1) := by decide +kernel
theorem dL_law_155 : decode cL_law 155 = .ok (.iaload, 1) := by decide +kernel
theorem dL_law_156 : decode cL_law 156 = .ok (.ifCond .eq 7, 3) := by decide +kernel
theorem dL_law_159 : decode cL_law 159 = .ok (.iconst 1, 1) := by decide +kernel
theorem dL_law_160 : decode cL_law 160 = .ok (.goto 4, 3) := by decide +kernel
theorem dL_law_163 : decode cL_law 163 = .ok (.iconst 0, 1) := by decide +kernel
theorem dL_law_164 : decode cL_law 164 = .ok (.invokevirtual 23, 3) := by decide +kernel
theorem dL_law_167 : decode cL_law 167 = .ok (.aload_n 2, 1) := by decide +kernel
theorem dL_law_168 : decode cL_law 168 = .ok (.aload_n 0, 1) := by decide +kernel
theorem dL_law_169 : decode cL_law 169 = .ok (.iload_n 3, 1) := by decide +kernel
theorem dL_law_170 : decode cL_law 170 = .ok (.iconst 1, 1) := by decide +kernel
theorem dL_law_171 : decode cL_law 171 = .ok (.iadd, 1) := by decide +kernel
theorem dL_law_172 : decode cL_law 172 = .ok (.iaload, 1) := by decide +kernel
theorem dL_law_173 : decode cL_law 173 = .ok (.aload_n 0, 1) := by decide +kernel
theorem dL_law_174 : decode cL_law 174 = .ok (.iload_n 3, 1) := by decide +kernel
theorem dL_law_175 : decode cL_law 175 = .ok (.iconst 2, 1) := by decide +kernel
theorem dL_law_176 : decode cL_law 176 = .ok (.iadd, 1) := by decide +kernel
theorem dL_law_177 : decode cL_law 177 = .ok (.iaload, 1) := by decide +kernel
theorem dL_law_178 : decode cL_law 178 = .ok (.aload_n 0, 1) := by decide +kernel
theorem dL_law_179 : decode cL_law 179 = .ok (.iload_n 3, 1) := by decide +kernel
theorem dL_law_180 : decode cL_law 180 = .ok (.iconst 3, 1) := by decide +kernel
theorem dL_law_181 : decode cL_law 181 = .ok (.iadd, 1) := by decide +kernel
theorem dL_law_182 : decode cL_law 182 = .ok (.iaload, 1) := by decide +kernel
theorem dL_law_183 : decode cL_law 183 = .ok (.ifCond .eq 7, 3) := by decide +kernel
theorem dL_law_186 : decode cL_law 186 = .ok (.iconst 1, 1) := by decide +kernel
theorem dL_law_187 : decode cL_law 187 = .ok (.goto 4, 3) := by decide +kernel
theorem dL_law_190 : decode cL_law 190 = .ok (.iconst 0, 1) := by decide +kernel
theorem dL_law_191 : decode cL_law 191 = .ok (.invokevirtual 27, 3) := by decide +kernel
theorem dL_law_194 : decode cL_law 194 = .ok (.if_icmp .eq 282, 3) := by decide +kernel
theorem dL_law_197 : decode cL_law 197 = .ok (.iconst 0, 1) := by decide +kernel
theorem dL_law_198 : decode cL_law 198 = .ok (.ireturn, 1) := by decide +kernel
theorem dL_law_199 : decode cL_law 199 = .ok (.aload_n 1, 1) := by decide +kernel
theorem dL_law_200 : decode cL_law 200 = .ok (.aload_n 0, 1) := by decide +kernel
theorem dL_law_201 : decode cL_law 201 = .ok (.iload_n 3, 1) := by decide +kernel
theorem dL_law_202 : decode cL_law 202 = .ok (.iconst 1, 1) := by decide +kernel
theorem dL_law_203 : decode cL_law 203 = .ok (.iadd, 1) := by decide +kernel
theorem dL_law_204 : decode cL_law 204 = .ok (.iaload, 1) := by decide +kernel
theorem dL_law_205 : decode cL_law 205 = .ok (.aload_n 0, 1) := by decide +kernel
theorem dL_law_206 : decode cL_law 206 = .ok (.iload_n 3, 1) := by decide +kernel
theorem dL_law_207 : decode cL_law 207 = .ok (.iconst 2, 1) := by decide +kernel
theorem dL_law_208 : decode cL_law 208 = .ok (.iadd, 1) := by decide +kernel
theorem dL_law_209 : decode cL_law 209 = .ok (.iaload, 1) := by decide +kernel
theorem dL_law_210 : decode cL_law 210 = .ok (.aload_n 0, 1) := by decide +kernel
theorem dL_law_211 : decode cL_law 211 = .ok (.iload_n 3, 1) := by decide +kernel
theorem dL_law_212 : decode cL_law 212 = .ok (.iconst 3, 1) := by decide +kernel
theorem dL_law_213 : decode cL_law 213 = .ok (.iadd, 1) := by decide +kernel
theorem dL_law_214 : decode cL_law 214 = .ok (.iaload, 1) := by decide +kernel
theorem dL_law_215 : decode cL_law 215 = .ok (.ifCond .eq 7, 3) := by decide +kernel
theorem dL_law_218 : decode cL_law 218 = .ok (.iconst 1, 1) := by decide +kernel
theorem dL_law_219 : decode cL_law 219 = .ok (.goto 4, 3) := by decide +kernel
theorem dL_law_222 : decode cL_law 222 = .ok (.iconst 0, 1) := by decide +kernel
theorem dL_law_223 : decode cL_law 223 = .ok (.invokevirtual 28, 3) := by decide +kernel
theorem dL_law_226 : decode cL_law 226 = .ok (.aload_n 2, 1) := by decide +kernel
theorem dL_law_227 : decode cL_law 227 = .ok (.aload_n 0, 1) := by decide +kernel
theorem dL_law_228 : decode cL_law 228 = .ok (.iload_n 3, 1) := by decide +kernel
theorem dL_law_229 : decode cL_law 229 = .ok (.iconst 1, 1) := by decide +kernel
theorem dL_law_230 : decode cL_law 230 = .ok (.iadd, 1) := by decide +kernel
theorem dL_law_231 : decode cL_law 231 = .ok (.iaload, 1) := by decide +kernel
theorem dL_law_232 : decode cL_law 232 = .ok (.aload_n 0, 1) := by decide +kernel
theorem dL_law_233 : decode cL_law 233 = .ok (.iload_n 3, 1) := by decide +kernel
theorem dL_law_234 : decode cL_law 234 = .ok (.iconst 2, 1) := by decide +kernel
theorem dL_law_235 : decode cL_law 235 = .ok (.iadd, 1) := by decide +kernel
theorem dL_law_236 : decode cL_law 236 = .ok (.iaload, 1) := by decide +kernel
theorem dL_law_237 : decode cL_law 237 = .ok (.aload_n 0, 1) := by decide +kernel
theorem dL_law_238 : decode cL_law 238 = .ok (.iload_n 3, 1) := by decide +kernel
theorem dL_law_239 : decode cL_law 239 = .ok (.iconst 3, 1) := by decide +kernel
theorem dL_law_240 : decode cL_law 240 = .ok (.iadd, 1) := by decide +kernel
theorem dL_law_241 : decode cL_law 241 = .ok (.iaload, 1) := by decide +kernel
theorem dL_law_242 : decode cL_law 242 = .ok (.ifCond .eq 7, 3) := by decide +kernel
theorem dL_law_245 : decode cL_law 245 = .ok (.iconst 1, 1) := by decide +kernel
theorem dL_law_246 : decode cL_law 246 = .ok (.goto 4, 3) := by decide +kernel
theorem dL_law_249 : decode cL_law 249 = .ok (.iconst 0, 1) := by decide +kernel
theorem dL_law_250 : decode cL_law 250 = .ok (.invokevirtual 32, 3) := by decide +kernel
theorem dL_law_253 : decode cL_law 253 = .ok (.if_icmp .eq 223, 3) := by decide +kernel
theorem dL_law_256 : decode cL_law 256 = .ok (.iconst 0, 1) := by decide +kernel
theorem dL_law_257 : decode cL_law 257 = .ok (.ireturn, 1) := by decide +kernel
theorem dL_law_258 : decode cL_law 258 = .ok (.aload_n 1, 1) := by decide +kernel
theorem dL_law_259 : decode cL_law 259 = .ok (.aload_n 0, 1) := by decide +kernel
theorem dL_law_260 : decode cL_law 260 = .ok (.iload_n 3, 1) := by decide +kernel
theorem dL_law_261 : decode cL_law 261 = .ok (.iconst 1, 1) := by decide +kernel
theorem dL_law_262 : decode cL_law 262 = .ok (.iadd, 1) := by decide +kernel
theorem dL_law_263 : decode cL_law 263 = .ok (.iaload, 1) := by decide +kernel
theorem dL_law_264 : decode cL_law 264 = .ok (.aload_n 0, 1) := by decide +kernel
theorem dL_law_265 : decode cL_law 265 = .ok (.iload_n 3, 1) := by decide +kernel
theorem dL_law_266 : decode cL_law 266 = .ok (.iconst 2, 1) := by decide +kernel
theorem dL_law_267 : decode cL_law 267 = .ok (.iadd, 1) := by decide +kernel
theorem dL_law_268 : decode cL_law 268 = .ok (.iaload, 1) := by decide +kernel
theorem dL_law_269 : decode cL_law 269 = .ok (.invokevirtual 33, 3) := by decide +kernel
theorem dL_law_272 : decode cL_law 272 = .ok (.aload_n 2, 1) := by decide +kernel
theorem dL_law_273 : decode cL_law 273 = .ok (.aload_n 0, 1) := by decide +kernel
theorem dL_law_274 : decode cL_law 274 = .ok (.iload_n 3, 1) := by decide +kernel
theorem dL_law_275 : decode cL_law 275 = .ok (.iconst 1, 1) := by decide +kernel
theorem dL_law_276 : decode cL_law 276 = .ok (.iadd, 1) := by decide +kernel
theorem dL_law_277 : decode cL_law 277 = .ok (.iaload, 1) := by decide +kernel
theorem dL_law_278 : decode cL_law 278 = .ok (.aload_n 0, 1) := by decide +kernel
theorem dL_law_279 : decode cL_law 279 = .ok (.iload_n 3, 1) := by decide +kernel
theorem dL_law_280 : decode cL_law 280 = .ok (.iconst 2, 1) := by decide +kernel
theorem dL_law_281 : decode cL_law 281 = .ok (.iadd, 1) := by decide +kernel
theorem dL_law_282 : decode cL_law 282 = .ok (.iaload, 1) := by decide +kernel
theorem dL_law_283 : decode cL_law 283 = .ok (.invokevirtual 37, 3) := by decide +kernel
theorem dL_law_286 : decode cL_law 286 = .ok (.if_icmp .eq 190, 3) := by decide +kernel
theorem dL_law_289 : decode cL_law 289 = .ok (.iconst 0, 1) := by decide +kernel
theorem dL_law_290 : decode cL_law 290 = .ok (.ireturn, 1) := by decide +kernel
theorem dL_law_291 : decode cL_law 291 = .ok (.aload_n 1, 1) := by decide +kernel
theorem dL_law_292 : decode cL_law 292 = .ok (.aload_n 0, 1) := by decide +kernel
theorem dL_law_293 : decode cL_law 293 = .ok (.iload_n 3, 1) := by decide +kernel
theorem dL_law_294 : decode cL_law 294 = .ok (.iconst 1, 1) := by decide +kernel
theorem dL_law_295 : decode cL_law 295 = .ok (.iadd, 1) := by decide +kernel
theorem dL_law_296 : decode cL_law 296 = .ok (.iaload, 1) := by decide +kernel
theorem dL_law_297 : decode cL_law 297 = .ok (.aload_n 0, 1) := by decide +kernel
theorem dL_law_298 : decode cL_law 298 = .ok (.iload_n 3, 1) := by decide +kernel
theorem dL_law_299 : decode cL_law 299 = .ok (.iconst 2, 1) := by decide +kernel
theorem dL_law_300 : decode cL_law 300 = .ok (.iadd, 1) := by decide +kernel
theorem dL_law_301 : decode cL_law 301 = .ok (.iaload, 1) := by decide +kernel
theorem dL_law_302 : decode cL_law 302 = .ok (.aload_n 0, 1) := by decide +kernel
theorem dL_law_303 : decode cL_law 303 = .ok (.iload_n 3, 1) := by decide +kernel
theorem dL_law_304 : decode cL_law 304 = .ok (.iconst 3, 1) := by decide +kernel
theorem dL_law_305 : decode cL_law 305 = .ok (.iadd, 1) := by decide +kernel
theorem dL_law_306 : decode cL_law 306 = .ok (.iaload, 1) := by decide +kernel
theorem dL_law_307 : decode cL_law 307 = .ok (.ifCond .eq 7, 3) := by decide +kernel
theorem dL_law_310 : decode cL_law 310 = .ok (.iconst 1, 1) := by decide +kernel
theorem dL_law_311 : decode cL_law 311 = .ok (.goto 4, 3) := by decide +kernel
theorem dL_law_314 : decode cL_law 314 = .ok (.iconst 0, 1) := by decide +kernel
theorem dL_law_315 : decode cL_law 315 = .ok (.invokevirtual 38, 3) := by decide +kernel
theorem dL_law_318 : decode cL_law 318 = .ok (.aload_n 2, 1) := by decide +kernel
theorem dL_law_319 : decode cL_law 319 = .ok (.aload_n 0, 1) := by decide +kernel
theorem dL_law_320 : decode cL_law 320 = .ok (.iload_n 3, 1) := by decide +kernel
theorem dL_law_321 : decode cL_law 321 = .ok (.iconst 1, 1) := by decide +kernel
theorem dL_law_322 : decode cL_law 322 = .ok (.iadd, 1) := by decide +kernel
theorem dL_law_323 : decode cL_law 323 = .ok (.iaload, 1) := by decide +kernel
theorem dL_law_324 : decode cL_law 324 = .ok (.aload_n 0, 1) := by decide +kernel
theorem dL_law_325 : decode cL_law 325 = .ok (.iload_n 3, 1) := by decide +kernel
theorem dL_law_326 : decode cL_law 326 = .ok (.iconst 2, 1) := by decide +kernel
theorem dL_law_327 : decode cL_law 327 = .ok (.iadd, 1) := by decide +kernel
theorem dL_law_328 : decode cL_law 328 = .ok (.iaload, 1) := by decide +kernel
theorem dL_law_329 : decode cL_law 329 = .ok (.aload_n 0, 1) := by decide +kernel
theorem dL_law_330 : decode cL_law 330 = .ok (.iload_n 3, 1) := by decide +kernel
theorem dL_law_331 : decode cL_law 331 = .ok (.iconst 3, 1) := by decide +kernel
theorem dL_law_332 : decode cL_law 332 = .ok (.iadd, 1) := by decide +kernel
theorem dL_law_333 : decode cL_law 333 = .ok (.iaload, 1) := by decide +kernel
theorem dL_law_334 : decode cL_law 334 = .ok (.ifCond .eq 7, 3) := by decide +kernel
theorem dL_law_337 : decode cL_law 337 = .ok (.iconst 1, 1) := by decide +kernel
theorem dL_law_338 : decode cL_law 338 = .ok (.goto 4, 3) := by decide +kernel
theorem dL_law_341 : decode cL_law 341 = .ok (.iconst 0, 1) := by decide +kernel
theorem dL_law_342 : decode cL_law 342 = .ok (.invokevirtual 41, 3) := by decide +kernel
theorem dL_law_345 : decode cL_law 345 = .ok (.if_icmp .eq 131, 3) := by decide +kernel
theorem dL_law_348 : decode cL_law 348 = .ok (.iconst 0, 1) := by decide +kernel
theorem dL_law_349 : decode cL_law 349 = .ok (.ireturn, 1) := by decide +kernel
theorem dL_law_350 : decode cL_law 350 = .ok (.aload_n 1, 1) := by decide +kernel
theorem dL_law_351 : decode cL_law 351 = .ok (.aload_n 0, 1) := by decide +kernel
theorem dL_law_352 : decode cL_law 352 = .ok (.iload_n 3, 1) := by decide +kernel
theorem dL_law_353 : decode cL_law 353 = .ok (.iconst 1, 1) := by decide +kernel
theorem dL_law_354 : decode cL_law 354 = .ok (.iadd, 1) := by decide +kernel
theorem dL_law_355 : decode cL_law 355 = .ok (.iaload, 1) := by decide +kernel
theorem dL_law_356 : decode cL_law 356 = .ok (.aload_n 0, 1) := by decide +kernel
theorem dL_law_357 : decode cL_law 357 = .ok (.iload_n 3, 1) := by decide +kernel
theorem dL_law_358 : decode cL_law 358 = .ok (.iconst 2, 1) := by decide +kernel
theorem dL_law_359 : decode cL_law 359 = .ok (.iadd, 1) := by decide +kernel
theorem dL_law_360 : decode cL_law 360 = .ok (.iaload, 1) := by decide +kernel
theorem dL_law_361 : decode cL_law 361 = .ok (.aload_n 0, 1) := by decide +kernel
theorem dL_law_362 : decode cL_law 362 = .ok (.iload_n 3, 1) := by decide +kernel
theorem dL_law_363 : decode cL_law 363 = .ok (.iconst 3, 1) := by decide +kernel
theorem dL_law_364 : decode cL_law 364 = .ok (.iadd, 1) := by decide +kernel
theorem dL_law_365 : decode cL_law 365 = .ok (.iaload, 1) := by decide +kernel
theorem dL_law_366 : decode cL_law 366 = .ok (.ifCond .eq 7, 3) := by decide +kernel
theorem dL_law_369 : decode cL_law 369 = .ok (.iconst 1, 1) := by decide +kernel
theorem dL_law_370 : decode cL_law 370 = .ok (.goto 4, 3) := by decide +kernel
theorem dL_law_373 : decode cL_law 373 = .ok (.iconst 0, 1) := by decide +kernel
theorem dL_law_374 : decode cL_law 374 = .ok (.aload_n 0, 1) := by decide +kernel
theorem dL_law_375 : decode cL_law 375 = .ok (.iload_n 3, 1) := by decide +kernel
theorem dL_law_376 : decode cL_law 376 = .ok (.iconst 4, 1) := by decide +kernel
theorem dL_law_377 : decode cL_law 377 = .ok (.iadd, 1) := by decide +kernel
theorem dL_law_378 : decode cL_law 378 = .ok (.iaload, 1) := by decide +kernel
theorem dL_law_379 : decode cL_law 379 = .ok (.invokevirtual 42, 3) := by decide +kernel
theorem dL_law_382 : decode cL_law 382 = .ok (.aload_n 2, 1) := by decide +kernel
theorem dL_law_383 : decode cL_law 383 = .ok (.aload_n 0, 1) := by decide +kernel
theorem dL_law_384 : decode cL_law 384 = .ok (.iload_n 3, 1) := by decide +kernel
theorem dL_law_385 : decode cL_law 385 = .ok (.iconst 1, 1) := by decide +kernel
theorem dL_law_386 : decode cL_law 386 = .ok (.iadd, 1) := by decide +kernel
theorem dL_law_387 : decode cL_law 387 = .ok (.iaload, 1) := by decide +kernel
theorem dL_law_388 : decode cL_law 388 = .ok (.aload_n 0, 1) := by decide +kernel
theorem dL_law_389 : decode cL_law 389 = .ok (.iload_n 3, 1) := by decide +kernel
theorem dL_law_390 : decode cL_law 390 = .ok (.iconst 2, 1) := by decide +kernel
theorem dL_law_391 : decode cL_law 391 = .ok (.iadd, 1) := by decide +kernel
theorem dL_law_392 : decode cL_law 392 = .ok (.iaload, 1) := by decide +kernel
theorem dL_law_393 : decode cL_law 393 = .ok (.aload_n 0, 1) := by decide +kernel
theorem dL_law_394 : decode cL_law 394 = .ok (.iload_n 3, 1) := by decide +kernel
theorem dL_law_395 : decode cL_law 395 = .ok (.iconst 3, 1) := by decide +kernel
theorem dL_law_396 : decode cL_law 396 = .ok (.iadd, 1) := by decide +kernel
theorem dL_law_397 : decode cL_law 397 = .ok (.iaload, 1) := by decide +kernel
theorem dL_law_398 : decode cL_law 398 = .ok (.ifCond .eq 7, 3) := by decide +kernel
theorem dL_law_401 : decode cL_law 401 = .ok (.iconst 1, 1) := by decide +kernel
theorem dL_law_402 : decode cL_law 402 = .ok (.goto 4, 3) := by decide +kernel
theorem dL_law_405 : decode cL_law 405 = .ok (.iconst 0, 1) := by decide +kernel
theorem dL_law_406 : decode cL_law 406 = .ok (.aload_n 0, 1) := by decide +kernel
theorem dL_law_407 : decode cL_law 407 = .ok (.iload_n 3, 1) := by decide +kernel
theorem dL_law_408 : decode cL_law 408 = .ok (.iconst 4, 1) := by decide +kernel
theorem dL_law_409 : decode cL_law 409 = .ok (.iadd, 1) := by decide +kernel
theorem dL_law_410 : decode cL_law 410 = .ok (.iaload, 1) := by decide +kernel
theorem dL_law_411 : decode cL_law 411 = .ok (.invokevirtual 46, 3) := by decide +kernel
theorem dL_law_414 : decode cL_law 414 = .ok (.lcmp, 1) := by decide +kernel
theorem dL_law_415 : decode cL_law 415 = .ok (.ifCond .eq 61, 3) := by decide +kernel
theorem dL_law_418 : decode cL_law 418 = .ok (.iconst 0, 1) := by decide +kernel
theorem dL_law_419 : decode cL_law 419 = .ok (.ireturn, 1) := by decide +kernel
theorem dL_law_420 : decode cL_law 420 = .ok (.aload_n 1, 1) := by decide +kernel
theorem dL_law_421 : decode cL_law 421 = .ok (.aload_n 0, 1) := by decide +kernel
theorem dL_law_422 : decode cL_law 422 = .ok (.iload_n 3, 1) := by decide +kernel
theorem dL_law_423 : decode cL_law 423 = .ok (.iconst 1, 1) := by decide +kernel
theorem dL_law_424 : decode cL_law 424 = .ok (.iadd, 1) := by decide +kernel
theorem dL_law_425 : decode cL_law 425 = .ok (.iaload, 1) := by decide +kernel
theorem dL_law_426 : decode cL_law 426 = .ok (.aload_n 0, 1) := by decide +kernel
theorem dL_law_427 : decode cL_law 427 = .ok (.iload_n 3, 1) := by decide +kernel
theorem dL_law_428 : decode cL_law 428 = .ok (.iconst 2, 1) := by decide +kernel
theorem dL_law_429 : decode cL_law 429 = .ok (.iadd, 1) := by decide +kernel
theorem dL_law_430 : decode cL_law 430 = .ok (.iaload, 1) := by decide +kernel
theorem dL_law_431 : decode cL_law 431 = .ok (.invokevirtual 47, 3) := by decide +kernel
theorem dL_law_434 : decode cL_law 434 = .ok (.aload_n 2, 1) := by decide +kernel
theorem dL_law_435 : decode cL_law 435 = .ok (.aload_n 0, 1) := by decide +kernel
theorem dL_law_436 : decode cL_law 436 = .ok (.iload_n 3, 1) := by decide +kernel
theorem dL_law_437 : decode cL_law 437 = .ok (.iconst 1, 1) := by decide +kernel
theorem dL_law_438 : decode cL_law 438 = .ok (.iadd, 1) := by decide +kernel
theorem dL_law_439 : decode cL_law 439 = .ok (.iaload, 1) := by decide +kernel
theorem dL_law_440 : decode cL_law 440 = .ok (.aload_n 0, 1) := by decide +kernel
theorem dL_law_441 : decode cL_law 441 = .ok (.iload_n 3, 1) := by decide +kernel
theorem dL_law_442 : decode cL_law 442 = .ok (.iconst 2, 1) := by decide +kernel
theorem dL_law_443 : decode cL_law 443 = .ok (.iadd, 1) := by decide +kernel
theorem dL_law_444 : decode cL_law 444 = .ok (.iaload, 1) := by decide +kernel
theorem dL_law_445 : decode cL_law 445 = .ok (.invokevirtual 51, 3) := by decide +kernel
theorem dL_law_448 : decode cL_law 448 = .ok (.if_icmp .eq 28, 3) := by decide +kernel
theorem dL_law_451 : decode cL_law 451 = .ok (.iconst 0, 1) := by decide +kernel
theorem dL_law_452 : decode cL_law 452 = .ok (.ireturn, 1) := by decide +kernel
theorem dL_law_453 : decode cL_law 453 = .ok (.aload_n 1, 1) := by decide +kernel
theorem dL_law_454 : decode cL_law 454 = .ok (.aload_n 0, 1) := by decide +kernel
theorem dL_law_455 : decode cL_law 455 = .ok (.iload_n 3, 1) := by decide +kernel
theorem dL_law_456 : decode cL_law 456 = .ok (.iconst 1, 1) := by decide +kernel
theorem dL_law_457 : decode cL_law 457 = .ok (.iadd, 1) := by decide +kernel
theorem dL_law_458 : decode cL_law 458 = .ok (.iaload, 1) := by decide +kernel
theorem dL_law_459 : decode cL_law 459 = .ok (.invokevirtual 52, 3) := by decide +kernel
theorem dL_law_462 : decode cL_law 462 = .ok (.aload_n 2, 1) := by decide +kernel
theorem dL_law_463 : decode cL_law 463 = .ok (.aload_n 0, 1) := by decide +kernel
theorem dL_law_464 : decode cL_law 464 = .ok (.iload_n 3, 1) := by decide +kernel
theorem dL_law_465 : decode cL_law 465 = .ok (.iconst 1, 1) := by decide +kernel
theorem dL_law_466 : decode cL_law 466 = .ok (.iadd, 1) := by decide +kernel
theorem dL_law_467 : decode cL_law 467 = .ok (.iaload, 1) := by decide +kernel
theorem dL_law_468 : decode cL_law 468 = .ok (.invokevirtual 56, 3) := by decide +kernel
theorem dL_law_471 : decode cL_law 471 = .ok (.if_icmp .eq 5, 3) := by decide +kernel
theorem dL_law_474 : decode cL_law 474 = .ok (.iconst 0, 1) := by decide +kernel
theorem dL_law_475 : decode cL_law 475 = .ok (.ireturn, 1) := by decide +kernel
theorem dL_law_476 : decode cL_law 476 = .ok (.iinc 3 5, 3) := by decide +kernel
theorem dL_law_479 : decode cL_law 479 = .ok (.goto (-461), 3) := by decide +kernel
theorem dL_law_482 : decode cL_law 482 = .ok (.iconst 1, 1) := by decide +kernel
theorem dL_law_483 : decode cL_law 483 = .ok (.ireturn, 1) := by decide +kernel
end
section
/-! NAMES of the reference and of the law's calls (the printed names leave them out) -/
def RX4 : String := "FlakyBoundsModel"
def TX4 : u_T := fun k => match k with
  | 0 => ("FlakyBoundsModel", "thrown", "I", false)
  | 1 => ("FlakyBoundsModel", "tests", "I", false)
  | 2 => ("FlakyBoundsModel", "level", "I", false)
  | 3 => ("FlakyBoundsModel", "mark", "I", false)
  | 4 => ("FlakyBoundsModel", "clear", "I", false)
  | 5 => ("FlakyBoundsModel", "size", "[I", true)
  | 6 => ("FlakyBoundsModel", "runs", "[I", true)
  | 7 => ("FlakyBoundsModel", "isMarked", "[Z", true)
  | 8 => ("FlakyBoundsModel", "marks", "[I", true)
  | 9 => ("FlakyBoundsModel", "judged", "[I", true)
  | 10 => ("FlakyBoundsModel", "fails", "[I", true)
  | 11 => ("FlakyBoundsModel", "sum", "[J", true)
  | 12 => ("FlakyBoundsModel", "term", "[J", true)
  | _ => ("FlakyBoundsModel", "whole", "[J", true)
def tyX4 : Nat → FieldType := fun k => match k with
  | 0 => .int
  | 1 => .int
  | 2 => .int
  | 3 => .int
  | 4 => .int
  | 5 => .array .int
  | 6 => .array .int
  | 7 => .array .boolean
  | 8 => .array .int
  | 9 => .array .int
  | 10 => .array .int
  | 11 => .array .long
  | 12 => .array .long
  | _ => .array .long
abbrev wsX40 : List Cond := u_ws RX4 TX4 14
theorem nmX4 : ∀ a, a < 14 → ∀ b, b < 14 → a ≠ b → (TX4 a).2.1 ≠ (TX4 b).2.1 := by decide +kernel
theorem tyX4_ok : ∀ k, k < 14 → parseFieldDescriptor (TX4 k).2.2.1 = some (tyX4 k) := by decide +kernel
abbrev cX4_init : ByteArray := prog_6_method_1_code
def yX4_init : MethodName := ⟨RX4, "<init>", "()V"⟩
abbrev cX4_isTest : ByteArray := prog_6_method_3_code
def yX4_isTest : MethodName := ⟨RX4, "isTest", "(I)Z"⟩
abbrev cX4_isEdition : ByteArray := prog_6_method_4_code
def yX4_isEdition : MethodName := ⟨RX4, "isEdition", "(I)Z"⟩
abbrev cX4_set : ByteArray := prog_6_method_5_code
def yX4_set : MethodName := ⟨RX4, "set", "([JJ)V"⟩
abbrev cX4_times : ByteArray := prog_6_method_6_code
def yX4_times : MethodName := ⟨RX4, "times", "([JJ)V"⟩
abbrev cX4_plus : ByteArray := prog_6_method_7_code
def yX4_plus : MethodName := ⟨RX4, "plus", "([J[J)V"⟩
abbrev cX4_isAbove : ByteArray := prog_6_method_8_code
def yX4_isAbove : MethodName := ⟨RX4, "isAbove", "([J[J)Z"⟩
abbrev cX4_over : ByteArray := prog_6_method_9_code
def yX4_over : MethodName := ⟨RX4, "over", "(II)J"⟩
abbrev cX4_add : ByteArray := prog_6_method_10_code
def yX4_add : MethodName := ⟨RX4, "add", "(IIII)V"⟩
abbrev cX4_shareOf : ByteArray := prog_6_method_11_code
def yX4_shareOf : MethodName := ⟨RX4, "shareOf", "(IIZ)V"⟩
abbrev cX4_isAboveLevel : ByteArray := prog_6_method_12_code
def yX4_isAboveLevel : MethodName := ⟨RX4, "isAboveLevel", "(II)Z"⟩
abbrev cX4_boundOf : ByteArray := prog_6_method_13_code
def yX4_boundOf : MethodName := ⟨RX4, "boundOf", "(IIZ)I"⟩
abbrev cX4_edition : ByteArray := prog_6_method_14_code
def yX4_edition : MethodName := ⟨RX4, "edition", "(II)I"⟩
abbrev cX4_isPass : ByteArray := prog_6_method_15_code
def yX4_isPass : MethodName := ⟨RX4, "isPass", "(II)Z"⟩
abbrev cX4_isBadFor : ByteArray := prog_6_method_16_code
def yX4_isBadFor : MethodName := ⟨RX4, "isBadFor", "(II)Z"⟩
abbrev cX4_throwsOf : ByteArray := prog_6_method_17_code
def yX4_throwsOf : MethodName := ⟨RX4, "throwsOf", "(I)I"⟩
abbrev cX4_hitsOf : ByteArray := prog_6_method_18_code
def yX4_hitsOf : MethodName := ⟨RX4, "hitsOf", "(I)I"⟩
abbrev cX4_doubtful : ByteArray := prog_6_method_19_code
def yX4_doubtful : MethodName := ⟨RX4, "doubtful", "(I)I"⟩
abbrev cX4_runs : ByteArray := prog_6_method_20_code
def yX4_runs : MethodName := ⟨RX4, "runs", "(IIZ)V"⟩
abbrev cX4_test : ByteArray := prog_6_method_21_code
def yX4_test : MethodName := ⟨RX4, "test", "()I"⟩
abbrev cX4_rules : ByteArray := prog_6_method_22_code
def yX4_rules : MethodName := ⟨RX4, "rules", "(III)Z"⟩
abbrev cX4_run : ByteArray := prog_6_method_23_code
def yX4_run : MethodName := ⟨RX4, "run", "(IIZ)Z"⟩
abbrev cX4_judge : ByteArray := prog_6_method_24_code
def yX4_judge : MethodName := ⟨RX4, "judge", "(IIZ)I"⟩
abbrev cX4_about : ByteArray := prog_6_method_25_code
def yX4_about : MethodName := ⟨RX4, "about", "(II)I"⟩
abbrev cX4_bound : ByteArray := prog_6_method_26_code
def yX4_bound : MethodName := ⟨RX4, "bound", "(IIZ)I"⟩
abbrev cX4_digit : ByteArray := prog_6_method_27_code
def yX4_digit : MethodName := ⟨RX4, "digit", "(I)I"⟩
abbrev cX4_share : ByteArray := prog_6_method_28_code
def yX4_share : MethodName := ⟨RX4, "share", "(IIZI)J"⟩
abbrev cX4_isBad : ByteArray := prog_6_method_29_code
def yX4_isBad : MethodName := ⟨RX4, "isBad", "(II)Z"⟩
abbrev cX4_broken : ByteArray := prog_6_method_30_code
def yX4_broken : MethodName := ⟨RX4, "broken", "(I)I"⟩
def wsX4_init : List Cond := .code yX4_init cX4_init 1 none :: ([.methodLink RX4 1 objectInit, .instanceMethod objectInit, .code objectInit ⟨#[0xb1]⟩ 1 none, .fieldLink RX4 7 "FlakyBoundsModel" "level" "I", .fieldLink RX4 13 "FlakyBoundsModel" "mark" "I", .fieldLink RX4 16 "FlakyBoundsModel" "clear" "I", .arrayClass .int, .fieldLink RX4 19 "FlakyBoundsModel" "size" "[I", .fieldLink RX4 23 "FlakyBoundsModel" "runs" "[I", .arrayClass .boolean, .fieldLink RX4 26 "FlakyBoundsModel" "isMarked" "[Z", .fieldLink RX4 30 "FlakyBoundsModel" "marks" "[I", .fieldLink RX4 33 "FlakyBoundsModel" "judged" "[I", .fieldLink RX4 36 "FlakyBoundsModel" "fails" "[I", .arrayClass .long, .fieldLink RX4 39 "FlakyBoundsModel" "sum" "[J", .fieldLink RX4 43 "FlakyBoundsModel" "term" "[J", .fieldLink RX4 46 "FlakyBoundsModel" "whole" "[J"] ++ wsX40)
def wsX4_isTest : List Cond := .code yX4_isTest cX4_isTest 2 (some .boolean) :: ([.fieldLink RX4 52 "FlakyBoundsModel" "tests" "I"] ++ wsX40)
def wsX4_isEdition : List Cond := .code yX4_isEdition cX4_isEdition 1 (some .boolean) :: ([] ++ wsX40)
def wsX4_set : List Cond := .code yX4_set cX4_set 4 none :: ([] ++ wsX40)
def wsX4_times : List Cond := .code yX4_times cX4_times 8 none :: ([.constantLong RX4 55 (10000)] ++ wsX40)
def wsX4_plus : List Cond := .code yX4_plus cX4_plus 7 none :: ([.constantLong RX4 55 (10000)] ++ wsX40)
def wsX4_isAbove : List Cond := .code yX4_isAbove cX4_isAbove 3 (some .boolean) :: ([] ++ wsX40)
def wsX4_over : List Cond := .code yX4_over cX4_over 5 (some .long) :: ([] ++ wsX40)
def wsX4_add : List Cond := .code yX4_add cX4_add 7 none :: ([.fieldLink RX4 39 "FlakyBoundsModel" "sum" "[J", .methodLink RX4 57 yX4_set, .static yX4_set, .initialized RX4, .fieldLink RX4 43 "FlakyBoundsModel" "term" "[J", .methodLink RX4 61 yX4_times, .static yX4_times, .methodLink RX4 64 yX4_over, .static yX4_over, .methodLink RX4 68 yX4_plus, .static yX4_plus, .code yX4_set cX4_set 4 none, .code yX4_times cX4_times 8 none, .constantLong RX4 55 (10000), .code yX4_over cX4_over 5 (some .long), .code yX4_plus cX4_plus 7 none] ++ wsX40)
def wsX4_edition : List Cond := .code yX4_edition cX4_edition 3 (some .int) :: ([.fieldLink RX4 23 "FlakyBoundsModel" "runs" "[I"] ++ wsX40)
def wsX4_isPass : List Cond := .code yX4_isPass cX4_isPass 3 (some .boolean) :: ([.fieldLink RX4 23 "FlakyBoundsModel" "runs" "[I"] ++ wsX40)
def wsX4_isBadFor : List Cond := .code yX4_isBadFor cX4_isBadFor 6 (some .boolean) :: ([.fieldLink RX4 19 "FlakyBoundsModel" "size" "[I", .methodLink RX4 97 yX4_edition, .instanceMethod yX4_edition, .selects RX4 yX4_edition yX4_edition, .initialized RX4, .methodLink RX4 101 yX4_isPass, .instanceMethod yX4_isPass, .selects RX4 yX4_isPass yX4_isPass, .code yX4_edition cX4_edition 3 (some .int), .fieldLink RX4 23 "FlakyBoundsModel" "runs" "[I", .code yX4_isPass cX4_isPass 3 (some .boolean)] ++ wsX40)
def wsX4_throwsOf : List Cond := .code yX4_throwsOf cX4_throwsOf 4 (some .int) :: ([.fieldLink RX4 19 "FlakyBoundsModel" "size" "[I", .methodLink RX4 97 yX4_edition, .instanceMethod yX4_edition, .selects RX4 yX4_edition yX4_edition, .initialized RX4, .methodLink RX4 104 yX4_isBadFor, .instanceMethod yX4_isBadFor, .selects RX4 yX4_isBadFor yX4_isBadFor, .code yX4_edition cX4_edition 3 (some .int), .fieldLink RX4 23 "FlakyBoundsModel" "runs" "[I", .code yX4_isBadFor cX4_isBadFor 6 (some .boolean), .methodLink RX4 101 yX4_isPass, .instanceMethod yX4_isPass, .selects RX4 yX4_isPass yX4_isPass, .code yX4_isPass cX4_isPass 3 (some .boolean)] ++ wsX40)
def wsX4_hitsOf : List Cond := .code yX4_hitsOf cX4_hitsOf 4 (some .int) :: ([.fieldLink RX4 19 "FlakyBoundsModel" "size" "[I", .methodLink RX4 97 yX4_edition, .instanceMethod yX4_edition, .selects RX4 yX4_edition yX4_edition, .initialized RX4, .methodLink RX4 104 yX4_isBadFor, .instanceMethod yX4_isBadFor, .selects RX4 yX4_isBadFor yX4_isBadFor, .methodLink RX4 101 yX4_isPass, .instanceMethod yX4_isPass, .selects RX4 yX4_isPass yX4_isPass, .code yX4_edition cX4_edition 3 (some .int), .fieldLink RX4 23 "FlakyBoundsModel" "runs" "[I", .code yX4_isBadFor cX4_isBadFor 6 (some .boolean), .code yX4_isPass cX4_isPass 3 (some .boolean)] ++ wsX40)
def wsX4_shareOf : List Cond := .code yX4_shareOf cX4_shareOf 6 none :: ([.methodLink RX4 72 yX4_throwsOf, .instanceMethod yX4_throwsOf, .selects RX4 yX4_throwsOf yX4_throwsOf, .initialized RX4, .methodLink RX4 76 yX4_hitsOf, .instanceMethod yX4_hitsOf, .selects RX4 yX4_hitsOf yX4_hitsOf, .methodLink RX4 79 yX4_add, .instanceMethod yX4_add, .selects RX4 yX4_add yX4_add, .code yX4_throwsOf cX4_throwsOf 4 (some .int), .fieldLink RX4 19 "FlakyBoundsModel" "size" "[I", .methodLink RX4 97 yX4_edition, .instanceMethod yX4_edition, .selects RX4 yX4_edition yX4_edition, .methodLink RX4 104 yX4_isBadFor, .instanceMethod yX4_isBadFor, .selects RX4 yX4_isBadFor yX4_isBadFor, .code yX4_edition cX4_edition 3 (some .int), .fieldLink RX4 23 "FlakyBoundsModel" "runs" "[I", .code yX4_isBadFor cX4_isBadFor 6 (some .boolean), .methodLink RX4 101 yX4_isPass, .instanceMethod yX4_isPass, .selects RX4 yX4_isPass yX4_isPass, .code yX4_isPass cX4_isPass 3 (some .boolean), .code yX4_hitsOf cX4_hitsOf 4 (some .int), .code yX4_add cX4_add 7 none, .fieldLink RX4 39 "FlakyBoundsModel" "sum" "[J", .methodLink RX4 57 yX4_set, .static yX4_set, .fieldLink RX4 43 "FlakyBoundsModel" "term" "[J", .methodLink RX4 61 yX4_times, .static yX4_times, .methodLink RX4 64 yX4_over, .static yX4_over, .methodLink RX4 68 yX4_plus, .static yX4_plus, .code yX4_set cX4_set 4 none, .code yX4_times cX4_times 8 none, .constantLong RX4 55 (10000), .code yX4_over cX4_over 5 (some .long), .code yX4_plus cX4_plus 7 none] ++ wsX40)
def wsX4_isAboveLevel : List Cond := .code yX4_isAboveLevel cX4_isAboveLevel 4 (some .boolean) :: ([.fieldLink RX4 39 "FlakyBoundsModel" "sum" "[J", .constantLong RX4 83 (1000), .methodLink RX4 61 yX4_times, .static yX4_times, .initialized RX4, .fieldLink RX4 46 "FlakyBoundsModel" "whole" "[J", .methodLink RX4 57 yX4_set, .static yX4_set, .methodLink RX4 85 yX4_isAbove, .static yX4_isAbove, .code yX4_times cX4_times 8 none, .constantLong RX4 55 (10000), .code yX4_set cX4_set 4 none, .code yX4_isAbove cX4_isAbove 3 (some .boolean)] ++ wsX40)
def wsX4_boundOf : List Cond := .code yX4_boundOf cX4_boundOf 8 (some .int) :: ([.methodLink RX4 89 yX4_shareOf, .instanceMethod yX4_shareOf, .selects RX4 yX4_shareOf yX4_shareOf, .initialized RX4, .methodLink RX4 72 yX4_throwsOf, .instanceMethod yX4_throwsOf, .selects RX4 yX4_throwsOf yX4_throwsOf, .methodLink RX4 93 yX4_isAboveLevel, .instanceMethod yX4_isAboveLevel, .selects RX4 yX4_isAboveLevel yX4_isAboveLevel, .code yX4_shareOf cX4_shareOf 6 none, .methodLink RX4 76 yX4_hitsOf, .instanceMethod yX4_hitsOf, .selects RX4 yX4_hitsOf yX4_hitsOf, .methodLink RX4 79 yX4_add, .instanceMethod yX4_add, .selects RX4 yX4_add yX4_add, .code yX4_throwsOf cX4_throwsOf 4 (some .int), .fieldLink RX4 19 "FlakyBoundsModel" "size" "[I", .methodLink RX4 97 yX4_edition, .instanceMethod yX4_edition, .selects RX4 yX4_edition yX4_edition, .methodLink RX4 104 yX4_isBadFor, .instanceMethod yX4_isBadFor, .selects RX4 yX4_isBadFor yX4_isBadFor, .code yX4_edition cX4_edition 3 (some .int), .fieldLink RX4 23 "FlakyBoundsModel" "runs" "[I", .code yX4_isBadFor cX4_isBadFor 6 (some .boolean), .methodLink RX4 101 yX4_isPass, .instanceMethod yX4_isPass, .selects RX4 yX4_isPass yX4_isPass, .code yX4_isPass cX4_isPass 3 (some .boolean), .code yX4_hitsOf cX4_hitsOf 4 (some .int), .code yX4_add cX4_add 7 none, .fieldLink RX4 39 "FlakyBoundsModel" "sum" "[J", .methodLink RX4 57 yX4_set, .static yX4_set, .fieldLink RX4 43 "FlakyBoundsModel" "term" "[J", .methodLink RX4 61 yX4_times, .static yX4_times, .methodLink RX4 64 yX4_over, .static yX4_over, .methodLink RX4 68 yX4_plus, .static yX4_plus, .code yX4_set cX4_set 4 none, .code yX4_times cX4_times 8 none, .constantLong RX4 55 (10000), .code yX4_over cX4_over 5 (some .long), .code yX4_plus cX4_plus 7 none, .code yX4_isAboveLevel cX4_isAboveLevel 4 (some .boolean), .constantLong RX4 83 (1000), .fieldLink RX4 46 "FlakyBoundsModel" "whole" "[J", .methodLink RX4 85 yX4_isAbove, .static yX4_isAbove, .code yX4_isAbove cX4_isAbove 3 (some .boolean)] ++ wsX40)
def wsX4_doubtful : List Cond := .code yX4_doubtful cX4_doubtful 6 (some .int) :: ([.fieldLink RX4 19 "FlakyBoundsModel" "size" "[I", .methodLink RX4 97 yX4_edition, .instanceMethod yX4_edition, .selects RX4 yX4_edition yX4_edition, .initialized RX4, .methodLink RX4 101 yX4_isPass, .instanceMethod yX4_isPass, .selects RX4 yX4_isPass yX4_isPass, .code yX4_edition cX4_edition 3 (some .int), .fieldLink RX4 23 "FlakyBoundsModel" "runs" "[I", .code yX4_isPass cX4_isPass 3 (some .boolean)] ++ wsX40)
def wsX4_runs : List Cond := .code yX4_runs cX4_runs 5 none :: ([.fieldLink RX4 19 "FlakyBoundsModel" "size" "[I", .fieldLink RX4 23 "FlakyBoundsModel" "runs" "[I", .fieldLink RX4 26 "FlakyBoundsModel" "isMarked" "[Z", .fieldLink RX4 7 "FlakyBoundsModel" "level" "I", .methodLink RX4 107 yX4_boundOf, .instanceMethod yX4_boundOf, .selects RX4 yX4_boundOf yX4_boundOf, .initialized RX4, .fieldLink RX4 16 "FlakyBoundsModel" "clear" "I", .fieldLink RX4 13 "FlakyBoundsModel" "mark" "I", .fieldLink RX4 30 "FlakyBoundsModel" "marks" "[I", .code yX4_boundOf cX4_boundOf 8 (some .int), .methodLink RX4 89 yX4_shareOf, .instanceMethod yX4_shareOf, .selects RX4 yX4_shareOf yX4_shareOf, .methodLink RX4 72 yX4_throwsOf, .instanceMethod yX4_throwsOf, .selects RX4 yX4_throwsOf yX4_throwsOf, .methodLink RX4 93 yX4_isAboveLevel, .instanceMethod yX4_isAboveLevel, .selects RX4 yX4_isAboveLevel yX4_isAboveLevel, .code yX4_shareOf cX4_shareOf 6 none, .methodLink RX4 76 yX4_hitsOf, .instanceMethod yX4_hitsOf, .selects RX4 yX4_hitsOf yX4_hitsOf, .methodLink RX4 79 yX4_add, .instanceMethod yX4_add, .selects RX4 yX4_add yX4_add, .code yX4_throwsOf cX4_throwsOf 4 (some .int), .methodLink RX4 97 yX4_edition, .instanceMethod yX4_edition, .selects RX4 yX4_edition yX4_edition, .methodLink RX4 104 yX4_isBadFor, .instanceMethod yX4_isBadFor, .selects RX4 yX4_isBadFor yX4_isBadFor, .code yX4_edition cX4_edition 3 (some .int), .code yX4_isBadFor cX4_isBadFor 6 (some .boolean), .methodLink RX4 101 yX4_isPass, .instanceMethod yX4_isPass, .selects RX4 yX4_isPass yX4_isPass, .code yX4_isPass cX4_isPass 3 (some .boolean), .code yX4_hitsOf cX4_hitsOf 4 (some .int), .code yX4_add cX4_add 7 none, .fieldLink RX4 39 "FlakyBoundsModel" "sum" "[J", .methodLink RX4 57 yX4_set, .static yX4_set, .fieldLink RX4 43 "FlakyBoundsModel" "term" "[J", .methodLink RX4 61 yX4_times, .static yX4_times, .methodLink RX4 64 yX4_over, .static yX4_over, .methodLink RX4 68 yX4_plus, .static yX4_plus, .code yX4_set cX4_set 4 none, .code yX4_times cX4_times 8 none, .constantLong RX4 55 (10000), .code yX4_over cX4_over 5 (some .long), .code yX4_plus cX4_plus 7 none, .code yX4_isAboveLevel cX4_isAboveLevel 4 (some .boolean), .constantLong RX4 83 (1000), .fieldLink RX4 46 "FlakyBoundsModel" "whole" "[J", .methodLink RX4 85 yX4_isAbove, .static yX4_isAbove, .code yX4_isAbove cX4_isAbove 3 (some .boolean)] ++ wsX40)
def wsX4_test : List Cond := .code yX4_test cX4_test 1 (some .int) :: ([.fieldLink RX4 49 "FlakyBoundsModel" "thrown" "I", .fieldLink RX4 52 "FlakyBoundsModel" "tests" "I", .fieldLink RX4 33 "FlakyBoundsModel" "judged" "[I"] ++ wsX40)
def wsX4_rules : List Cond := .code yX4_rules cX4_rules 4 (some .boolean) :: ([.fieldLink RX4 49 "FlakyBoundsModel" "thrown" "I", .fieldLink RX4 7 "FlakyBoundsModel" "level" "I", .fieldLink RX4 13 "FlakyBoundsModel" "mark" "I", .fieldLink RX4 16 "FlakyBoundsModel" "clear" "I"] ++ wsX40)
def wsX4_run : List Cond := .code yX4_run cX4_run 4 (some .boolean) :: ([.fieldLink RX4 49 "FlakyBoundsModel" "thrown" "I", .methodLink RX4 111 yX4_isTest, .instanceMethod yX4_isTest, .selects RX4 yX4_isTest yX4_isTest, .initialized RX4, .methodLink RX4 115 yX4_isEdition, .static yX4_isEdition, .methodLink RX4 118 yX4_runs, .instanceMethod yX4_runs, .selects RX4 yX4_runs yX4_runs, .code yX4_isTest cX4_isTest 2 (some .boolean), .fieldLink RX4 52 "FlakyBoundsModel" "tests" "I", .code yX4_isEdition cX4_isEdition 1 (some .boolean), .code yX4_runs cX4_runs 5 none, .fieldLink RX4 19 "FlakyBoundsModel" "size" "[I", .fieldLink RX4 23 "FlakyBoundsModel" "runs" "[I", .fieldLink RX4 26 "FlakyBoundsModel" "isMarked" "[Z", .fieldLink RX4 7 "FlakyBoundsModel" "level" "I", .methodLink RX4 107 yX4_boundOf, .instanceMethod yX4_boundOf, .selects RX4 yX4_boundOf yX4_boundOf, .fieldLink RX4 16 "FlakyBoundsModel" "clear" "I", .fieldLink RX4 13 "FlakyBoundsModel" "mark" "I", .fieldLink RX4 30 "FlakyBoundsModel" "marks" "[I", .code yX4_boundOf cX4_boundOf 8 (some .int), .methodLink RX4 89 yX4_shareOf, .instanceMethod yX4_shareOf, .selects RX4 yX4_shareOf yX4_shareOf, .methodLink RX4 72 yX4_throwsOf, .instanceMethod yX4_throwsOf, .selects RX4 yX4_throwsOf yX4_throwsOf, .methodLink RX4 93 yX4_isAboveLevel, .instanceMethod yX4_isAboveLevel, .selects RX4 yX4_isAboveLevel yX4_isAboveLevel, .code yX4_shareOf cX4_shareOf 6 none, .methodLink RX4 76 yX4_hitsOf, .instanceMethod yX4_hitsOf, .selects RX4 yX4_hitsOf yX4_hitsOf, .methodLink RX4 79 yX4_add, .instanceMethod yX4_add, .selects RX4 yX4_add yX4_add, .code yX4_throwsOf cX4_throwsOf 4 (some .int), .methodLink RX4 97 yX4_edition, .instanceMethod yX4_edition, .selects RX4 yX4_edition yX4_edition, .methodLink RX4 104 yX4_isBadFor, .instanceMethod yX4_isBadFor, .selects RX4 yX4_isBadFor yX4_isBadFor, .code yX4_edition cX4_edition 3 (some .int), .code yX4_isBadFor cX4_isBadFor 6 (some .boolean), .methodLink RX4 101 yX4_isPass, .instanceMethod yX4_isPass, .selects RX4 yX4_isPass yX4_isPass, .code yX4_isPass cX4_isPass 3 (some .boolean), .code yX4_hitsOf cX4_hitsOf 4 (some .int), .code yX4_add cX4_add 7 none, .fieldLink RX4 39 "FlakyBoundsModel" "sum" "[J", .methodLink RX4 57 yX4_set, .static yX4_set, .fieldLink RX4 43 "FlakyBoundsModel" "term" "[J", .methodLink RX4 61 yX4_times, .static yX4_times, .methodLink RX4 64 yX4_over, .static yX4_over, .methodLink RX4 68 yX4_plus, .static yX4_plus, .code yX4_set cX4_set 4 none, .code yX4_times cX4_times 8 none, .constantLong RX4 55 (10000), .code yX4_over cX4_over 5 (some .long), .code yX4_plus cX4_plus 7 none, .code yX4_isAboveLevel cX4_isAboveLevel 4 (some .boolean), .constantLong RX4 83 (1000), .fieldLink RX4 46 "FlakyBoundsModel" "whole" "[J", .methodLink RX4 85 yX4_isAbove, .static yX4_isAbove, .code yX4_isAbove cX4_isAbove 3 (some .boolean)] ++ wsX40)
def wsX4_judge : List Cond := .code yX4_judge cX4_judge 8 (some .int) :: ([.fieldLink RX4 49 "FlakyBoundsModel" "thrown" "I", .methodLink RX4 111 yX4_isTest, .instanceMethod yX4_isTest, .selects RX4 yX4_isTest yX4_isTest, .initialized RX4, .methodLink RX4 115 yX4_isEdition, .static yX4_isEdition, .fieldLink RX4 26 "FlakyBoundsModel" "isMarked" "[Z", .fieldLink RX4 33 "FlakyBoundsModel" "judged" "[I", .fieldLink RX4 36 "FlakyBoundsModel" "fails" "[I", .methodLink RX4 118 yX4_runs, .instanceMethod yX4_runs, .selects RX4 yX4_runs yX4_runs, .code yX4_isTest cX4_isTest 2 (some .boolean), .fieldLink RX4 52 "FlakyBoundsModel" "tests" "I", .code yX4_isEdition cX4_isEdition 1 (some .boolean), .code yX4_runs cX4_runs 5 none, .fieldLink RX4 19 "FlakyBoundsModel" "size" "[I", .fieldLink RX4 23 "FlakyBoundsModel" "runs" "[I", .fieldLink RX4 7 "FlakyBoundsModel" "level" "I", .methodLink RX4 107 yX4_boundOf, .instanceMethod yX4_boundOf, .selects RX4 yX4_boundOf yX4_boundOf, .fieldLink RX4 16 "FlakyBoundsModel" "clear" "I", .fieldLink RX4 13 "FlakyBoundsModel" "mark" "I", .fieldLink RX4 30 "FlakyBoundsModel" "marks" "[I", .code yX4_boundOf cX4_boundOf 8 (some .int), .methodLink RX4 89 yX4_shareOf, .instanceMethod yX4_shareOf, .selects RX4 yX4_shareOf yX4_shareOf, .methodLink RX4 72 yX4_throwsOf, .instanceMethod yX4_throwsOf, .selects RX4 yX4_throwsOf yX4_throwsOf, .methodLink RX4 93 yX4_isAboveLevel, .instanceMethod yX4_isAboveLevel, .selects RX4 yX4_isAboveLevel yX4_isAboveLevel, .code yX4_shareOf cX4_shareOf 6 none, .methodLink RX4 76 yX4_hitsOf, .instanceMethod yX4_hitsOf, .selects RX4 yX4_hitsOf yX4_hitsOf, .methodLink RX4 79 yX4_add, .instanceMethod yX4_add, .selects RX4 yX4_add yX4_add, .code yX4_throwsOf cX4_throwsOf 4 (some .int), .methodLink RX4 97 yX4_edition, .instanceMethod yX4_edition, .selects RX4 yX4_edition yX4_edition, .methodLink RX4 104 yX4_isBadFor, .instanceMethod yX4_isBadFor, .selects RX4 yX4_isBadFor yX4_isBadFor, .code yX4_edition cX4_edition 3 (some .int), .code yX4_isBadFor cX4_isBadFor 6 (some .boolean), .methodLink RX4 101 yX4_isPass, .instanceMethod yX4_isPass, .selects RX4 yX4_isPass yX4_isPass, .code yX4_isPass cX4_isPass 3 (some .boolean), .code yX4_hitsOf cX4_hitsOf 4 (some .int), .code yX4_add cX4_add 7 none, .fieldLink RX4 39 "FlakyBoundsModel" "sum" "[J", .methodLink RX4 57 yX4_set, .static yX4_set, .fieldLink RX4 43 "FlakyBoundsModel" "term" "[J", .methodLink RX4 61 yX4_times, .static yX4_times, .methodLink RX4 64 yX4_over, .static yX4_over, .methodLink RX4 68 yX4_plus, .static yX4_plus, .code yX4_set cX4_set 4 none, .code yX4_times cX4_times 8 none, .constantLong RX4 55 (10000), .code yX4_over cX4_over 5 (some .long), .code yX4_plus cX4_plus 7 none, .code yX4_isAboveLevel cX4_isAboveLevel 4 (some .boolean), .constantLong RX4 83 (1000), .fieldLink RX4 46 "FlakyBoundsModel" "whole" "[J", .methodLink RX4 85 yX4_isAbove, .static yX4_isAbove, .code yX4_isAbove cX4_isAbove 3 (some .boolean)] ++ wsX40)
def wsX4_about : List Cond := .code yX4_about cX4_about 3 (some .int) :: ([.fieldLink RX4 49 "FlakyBoundsModel" "thrown" "I", .methodLink RX4 111 yX4_isTest, .instanceMethod yX4_isTest, .selects RX4 yX4_isTest yX4_isTest, .initialized RX4, .fieldLink RX4 19 "FlakyBoundsModel" "size" "[I", .methodLink RX4 120 yX4_doubtful, .instanceMethod yX4_doubtful, .selects RX4 yX4_doubtful yX4_doubtful, .methodLink RX4 72 yX4_throwsOf, .instanceMethod yX4_throwsOf, .selects RX4 yX4_throwsOf yX4_throwsOf, .methodLink RX4 76 yX4_hitsOf, .instanceMethod yX4_hitsOf, .selects RX4 yX4_hitsOf yX4_hitsOf, .fieldLink RX4 26 "FlakyBoundsModel" "isMarked" "[Z", .fieldLink RX4 30 "FlakyBoundsModel" "marks" "[I", .code yX4_isTest cX4_isTest 2 (some .boolean), .fieldLink RX4 52 "FlakyBoundsModel" "tests" "I", .code yX4_doubtful cX4_doubtful 6 (some .int), .methodLink RX4 97 yX4_edition, .instanceMethod yX4_edition, .selects RX4 yX4_edition yX4_edition, .methodLink RX4 101 yX4_isPass, .instanceMethod yX4_isPass, .selects RX4 yX4_isPass yX4_isPass, .code yX4_edition cX4_edition 3 (some .int), .fieldLink RX4 23 "FlakyBoundsModel" "runs" "[I", .code yX4_isPass cX4_isPass 3 (some .boolean), .code yX4_throwsOf cX4_throwsOf 4 (some .int), .methodLink RX4 104 yX4_isBadFor, .instanceMethod yX4_isBadFor, .selects RX4 yX4_isBadFor yX4_isBadFor, .code yX4_isBadFor cX4_isBadFor 6 (some .boolean), .code yX4_hitsOf cX4_hitsOf 4 (some .int)] ++ wsX40)
def wsX4_bound : List Cond := .code yX4_bound cX4_bound 4 (some .int) :: ([.fieldLink RX4 49 "FlakyBoundsModel" "thrown" "I", .methodLink RX4 111 yX4_isTest, .instanceMethod yX4_isTest, .selects RX4 yX4_isTest yX4_isTest, .initialized RX4, .methodLink RX4 107 yX4_boundOf, .instanceMethod yX4_boundOf, .selects RX4 yX4_boundOf yX4_boundOf, .code yX4_isTest cX4_isTest 2 (some .boolean), .fieldLink RX4 52 "FlakyBoundsModel" "tests" "I", .code yX4_boundOf cX4_boundOf 8 (some .int), .methodLink RX4 89 yX4_shareOf, .instanceMethod yX4_shareOf, .selects RX4 yX4_shareOf yX4_shareOf, .methodLink RX4 72 yX4_throwsOf, .instanceMethod yX4_throwsOf, .selects RX4 yX4_throwsOf yX4_throwsOf, .methodLink RX4 93 yX4_isAboveLevel, .instanceMethod yX4_isAboveLevel, .selects RX4 yX4_isAboveLevel yX4_isAboveLevel, .code yX4_shareOf cX4_shareOf 6 none, .methodLink RX4 76 yX4_hitsOf, .instanceMethod yX4_hitsOf, .selects RX4 yX4_hitsOf yX4_hitsOf, .methodLink RX4 79 yX4_add, .instanceMethod yX4_add, .selects RX4 yX4_add yX4_add, .code yX4_throwsOf cX4_throwsOf 4 (some .int), .fieldLink RX4 19 "FlakyBoundsModel" "size" "[I", .methodLink RX4 97 yX4_edition, .instanceMethod yX4_edition, .selects RX4 yX4_edition yX4_edition, .methodLink RX4 104 yX4_isBadFor, .instanceMethod yX4_isBadFor, .selects RX4 yX4_isBadFor yX4_isBadFor, .code yX4_edition cX4_edition 3 (some .int), .fieldLink RX4 23 "FlakyBoundsModel" "runs" "[I", .code yX4_isBadFor cX4_isBadFor 6 (some .boolean), .methodLink RX4 101 yX4_isPass, .instanceMethod yX4_isPass, .selects RX4 yX4_isPass yX4_isPass, .code yX4_isPass cX4_isPass 3 (some .boolean), .code yX4_hitsOf cX4_hitsOf 4 (some .int), .code yX4_add cX4_add 7 none, .fieldLink RX4 39 "FlakyBoundsModel" "sum" "[J", .methodLink RX4 57 yX4_set, .static yX4_set, .fieldLink RX4 43 "FlakyBoundsModel" "term" "[J", .methodLink RX4 61 yX4_times, .static yX4_times, .methodLink RX4 64 yX4_over, .static yX4_over, .methodLink RX4 68 yX4_plus, .static yX4_plus, .code yX4_set cX4_set 4 none, .code yX4_times cX4_times 8 none, .constantLong RX4 55 (10000), .code yX4_over cX4_over 5 (some .long), .code yX4_plus cX4_plus 7 none, .code yX4_isAboveLevel cX4_isAboveLevel 4 (some .boolean), .constantLong RX4 83 (1000), .fieldLink RX4 46 "FlakyBoundsModel" "whole" "[J", .methodLink RX4 85 yX4_isAbove, .static yX4_isAbove, .code yX4_isAbove cX4_isAbove 3 (some .boolean)] ++ wsX40)
def wsX4_digit : List Cond := .code yX4_digit cX4_digit 5 (some .int) :: ([.fieldLink RX4 39 "FlakyBoundsModel" "sum" "[J", .constantLong RX4 123 (10)] ++ wsX40)
def wsX4_share : List Cond := .code yX4_share cX4_share 9 (some .long) :: ([.fieldLink RX4 49 "FlakyBoundsModel" "thrown" "I", .methodLink RX4 111 yX4_isTest, .instanceMethod yX4_isTest, .selects RX4 yX4_isTest yX4_isTest, .initialized RX4, .constantLong RX4 125 (-1), .methodLink RX4 89 yX4_shareOf, .instanceMethod yX4_shareOf, .selects RX4 yX4_shareOf yX4_shareOf, .methodLink RX4 72 yX4_throwsOf, .instanceMethod yX4_throwsOf, .selects RX4 yX4_throwsOf yX4_throwsOf, .constantLong RX4 123 (10), .methodLink RX4 127 yX4_digit, .instanceMethod yX4_digit, .selects RX4 yX4_digit yX4_digit, .code yX4_isTest cX4_isTest 2 (some .boolean), .fieldLink RX4 52 "FlakyBoundsModel" "tests" "I", .code yX4_shareOf cX4_shareOf 6 none, .methodLink RX4 76 yX4_hitsOf, .instanceMethod yX4_hitsOf, .selects RX4 yX4_hitsOf yX4_hitsOf, .methodLink RX4 79 yX4_add, .instanceMethod yX4_add, .selects RX4 yX4_add yX4_add, .code yX4_throwsOf cX4_throwsOf 4 (some .int), .fieldLink RX4 19 "FlakyBoundsModel" "size" "[I", .methodLink RX4 97 yX4_edition, .instanceMethod yX4_edition, .selects RX4 yX4_edition yX4_edition, .methodLink RX4 104 yX4_isBadFor, .instanceMethod yX4_isBadFor, .selects RX4 yX4_isBadFor yX4_isBadFor, .code yX4_edition cX4_edition 3 (some .int), .fieldLink RX4 23 "FlakyBoundsModel" "runs" "[I", .code yX4_isBadFor cX4_isBadFor 6 (some .boolean), .methodLink RX4 101 yX4_isPass, .instanceMethod yX4_isPass, .selects RX4 yX4_isPass yX4_isPass, .code yX4_isPass cX4_isPass 3 (some .boolean), .code yX4_hitsOf cX4_hitsOf 4 (some .int), .code yX4_add cX4_add 7 none, .fieldLink RX4 39 "FlakyBoundsModel" "sum" "[J", .methodLink RX4 57 yX4_set, .static yX4_set, .fieldLink RX4 43 "FlakyBoundsModel" "term" "[J", .methodLink RX4 61 yX4_times, .static yX4_times, .methodLink RX4 64 yX4_over, .static yX4_over, .methodLink RX4 68 yX4_plus, .static yX4_plus, .code yX4_set cX4_set 4 none, .code yX4_times cX4_times 8 none, .constantLong RX4 55 (10000), .code yX4_over cX4_over 5 (some .long), .code yX4_plus cX4_plus 7 none, .code yX4_digit cX4_digit 5 (some .int)] ++ wsX40)
def wsX4_isBad : List Cond := .code yX4_isBad cX4_isBad 3 (some .boolean) :: ([.fieldLink RX4 49 "FlakyBoundsModel" "thrown" "I", .methodLink RX4 111 yX4_isTest, .instanceMethod yX4_isTest, .selects RX4 yX4_isTest yX4_isTest, .initialized RX4, .methodLink RX4 115 yX4_isEdition, .static yX4_isEdition, .methodLink RX4 104 yX4_isBadFor, .instanceMethod yX4_isBadFor, .selects RX4 yX4_isBadFor yX4_isBadFor, .code yX4_isTest cX4_isTest 2 (some .boolean), .fieldLink RX4 52 "FlakyBoundsModel" "tests" "I", .code yX4_isEdition cX4_isEdition 1 (some .boolean), .code yX4_isBadFor cX4_isBadFor 6 (some .boolean), .fieldLink RX4 19 "FlakyBoundsModel" "size" "[I", .methodLink RX4 97 yX4_edition, .instanceMethod yX4_edition, .selects RX4 yX4_edition yX4_edition, .methodLink RX4 101 yX4_isPass, .instanceMethod yX4_isPass, .selects RX4 yX4_isPass yX4_isPass, .code yX4_edition cX4_edition 3 (some .int), .fieldLink RX4 23 "FlakyBoundsModel" "runs" "[I", .code yX4_isPass cX4_isPass 3 (some .boolean)] ++ wsX40)
def wsX4_broken : List Cond := .code yX4_broken cX4_broken 4 (some .int) :: ([.fieldLink RX4 49 "FlakyBoundsModel" "thrown" "I", .fieldLink RX4 52 "FlakyBoundsModel" "tests" "I", .methodLink RX4 115 yX4_isEdition, .static yX4_isEdition, .initialized RX4, .methodLink RX4 104 yX4_isBadFor, .instanceMethod yX4_isBadFor, .selects RX4 yX4_isBadFor yX4_isBadFor, .fieldLink RX4 26 "FlakyBoundsModel" "isMarked" "[Z", .code yX4_isEdition cX4_isEdition 1 (some .boolean), .code yX4_isBadFor cX4_isBadFor 6 (some .boolean), .fieldLink RX4 19 "FlakyBoundsModel" "size" "[I", .methodLink RX4 97 yX4_edition, .instanceMethod yX4_edition, .selects RX4 yX4_edition yX4_edition, .methodLink RX4 101 yX4_isPass, .instanceMethod yX4_isPass, .selects RX4 yX4_isPass yX4_isPass, .code yX4_edition cX4_edition 3 (some .int), .fieldLink RX4 23 "FlakyBoundsModel" "runs" "[I", .code yX4_isPass cX4_isPass 3 (some .boolean)] ++ wsX40)
set_option maxRecDepth 20000 in
theorem ggX4_add_X4_set : GoodIn wsX4_add wsX4_set := goodIn_r _ [12, 17, 18, 19, 20, 21, 22, 23, 24, 25, 26, 27, 28, 29, 30] (by decide +kernel) (by decide +kernel)
set_option maxRecDepth 20000 in
theorem gX4_add_X4_set : GoodIn wsX4_add (va_wsS RX4 57 yX4_set wsX4_set) := goodIn_app (goodIn_of _ (by decide +kernel)) ggX4_add_X4_set
set_option maxRecDepth 20000 in
theorem ggX4_add_X4_times : GoodIn wsX4_add wsX4_times := goodIn_r _ [13, 14, 17, 18, 19, 20, 21, 22, 23, 24, 25, 26, 27, 28, 29, 30] (by decide +kernel) (by decide +kernel)
set_option maxRecDepth 20000 in
theorem gX4_add_X4_times : GoodIn wsX4_add (va_wsS RX4 61 yX4_times wsX4_times) := goodIn_app (goodIn_of _ (by decide +kernel)) ggX4_add_X4_times
set_option maxRecDepth 20000 in
theorem ggX4_add_X4_over : GoodIn wsX4_add wsX4_over := goodIn_r _ [15, 17, 18, 19, 20, 21, 22, 23, 24, 25, 26, 27, 28, 29, 30] (by decide +kernel) (by decide +kernel)
set_option maxRecDepth 20000 in
theorem gX4_add_X4_over : GoodIn wsX4_add (va_wsS RX4 64 yX4_over wsX4_over) := goodIn_app (goodIn_of _ (by decide +kernel)) ggX4_add_X4_over
set_option maxRecDepth 20000 in
theorem ggX4_add_X4_plus : GoodIn wsX4_add wsX4_plus := goodIn_r _ [16, 14, 17, 18, 19, 20, 21, 22, 23, 24, 25, 26, 27, 28, 29, 30] (by decide +kernel) (by decide +kernel)
set_option maxRecDepth 20000 in
theorem gX4_add_X4_plus : GoodIn wsX4_add (va_wsS RX4 68 yX4_plus wsX4_plus) := goodIn_app (goodIn_of _ (by decide +kernel)) ggX4_add_X4_plus
set_option maxRecDepth 20000 in
theorem ggX4_isBadFor_X4_edition : GoodIn wsX4_isBadFor wsX4_edition := goodIn_r _ [9, 10, 12, 13, 14, 15, 16, 17, 18, 19, 20, 21, 22, 23, 24, 25] (by decide +kernel) (by decide +kernel)
set_option maxRecDepth 20000 in
theorem gX4_isBadFor_X4_edition : GoodIn wsX4_isBadFor (wsV RX4 97 RX4 yX4_edition wsX4_edition) := goodIn_app (goodIn_of _ (by decide +kernel)) ggX4_isBadFor_X4_edition
set_option maxRecDepth 20000 in
theorem ggX4_isBadFor_X4_isPass : GoodIn wsX4_isBadFor wsX4_isPass := goodIn_r _ [11, 10, 12, 13, 14, 15, 16, 17, 18, 19, 20, 21, 22, 23, 24, 25] (by decide +kernel) (by decide +kernel)
set_option maxRecDepth 20000 in
theorem gX4_isBadFor_X4_isPass : GoodIn wsX4_isBadFor (wsV RX4 101 RX4 yX4_isPass wsX4_isPass) := goodIn_app (goodIn_of _ (by decide +kernel)) ggX4_isBadFor_X4_isPass
set_option maxRecDepth 20000 in
theorem ggX4_throwsOf_X4_edition : GoodIn wsX4_throwsOf wsX4_edition := goodIn_r _ [9, 10, 16, 17, 18, 19, 20, 21, 22, 23, 24, 25, 26, 27, 28, 29] (by decide +kernel) (by decide +kernel)
set_option maxRecDepth 20000 in
theorem gX4_throwsOf_X4_edition : GoodIn wsX4_throwsOf (wsV RX4 97 RX4 yX4_edition wsX4_edition) := goodIn_app (goodIn_of _ (by decide +kernel)) ggX4_throwsOf_X4_edition
set_option maxRecDepth 20000 in
theorem ggX4_throwsOf_X4_isBadFor : GoodIn wsX4_throwsOf wsX4_isBadFor := goodIn_r _ [11, 1, 2, 3, 4, 5, 12, 13, 14, 9, 10, 15, 16, 17, 18, 19, 20, 21, 22, 23, 24, 25, 26, 27, 28, 29] (by decide +kernel) (by decide +kernel)
set_option maxRecDepth 20000 in
theorem gX4_throwsOf_X4_isBadFor : GoodIn wsX4_throwsOf (wsV RX4 104 RX4 yX4_isBadFor wsX4_isBadFor) := goodIn_app (goodIn_of _ (by decide +kernel)) ggX4_throwsOf_X4_isBadFor
set_option maxRecDepth 20000 in
theorem ggX4_hitsOf_X4_edition : GoodIn wsX4_hitsOf wsX4_edition := goodIn_r _ [12, 13, 16, 17, 18, 19, 20, 21, 22, 23, 24, 25, 26, 27, 28, 29] (by decide +kernel) (by decide +kernel)
set_option maxRecDepth 20000 in
theorem gX4_hitsOf_X4_edition : GoodIn wsX4_hitsOf (wsV RX4 97 RX4 yX4_edition wsX4_edition) := goodIn_app (goodIn_of _ (by decide +kernel)) ggX4_hitsOf_X4_edition
set_option maxRecDepth 20000 in
theorem ggX4_hitsOf_X4_isBadFor : GoodIn wsX4_hitsOf wsX4_isBadFor := goodIn_r _ [14, 1, 2, 3, 4, 5, 9, 10, 11, 12, 13, 15, 16, 17, 18, 19, 20, 21, 22, 23, 24, 25, 26, 27, 28, 29] (by decide +kernel) (by decide +kernel)
set_option maxRecDepth 20000 in
theorem gX4_hitsOf_X4_isBadFor : GoodIn wsX4_hitsOf (wsV RX4 104 RX4 yX4_isBadFor wsX4_isBadFor) := goodIn_app (goodIn_of _ (by decide +kernel)) ggX4_hitsOf_X4_isBadFor
set_option maxRecDepth 20000 in
theorem ggX4_hitsOf_X4_isPass : GoodIn wsX4_hitsOf wsX4_isPass := goodIn_r _ [15, 13, 16, 17, 18, 19, 20, 21, 22, 23, 24, 25, 26, 27, 28, 29] (by decide +kernel) (by decide +kernel)
set_option maxRecDepth 20000 in
theorem gX4_hitsOf_X4_isPass : GoodIn wsX4_hitsOf (wsV RX4 101 RX4 yX4_isPass wsX4_isPass) := goodIn_app (goodIn_of _ (by decide +kernel)) ggX4_hitsOf_X4_isPass
set_option maxRecDepth 20000 in
theorem ggX4_shareOf_X4_throwsOf : GoodIn wsX4_shareOf wsX4_throwsOf := goodIn_r _ [11, 12, 13, 14, 15, 4, 16, 17, 18, 19, 20, 21, 22, 23, 24, 25, 43, 44, 45, 46, 47, 48, 49, 50, 51, 52, 53, 54, 55, 56] (by decide +kernel) (by decide +kernel)
set_option maxRecDepth 20000 in
theorem gX4_shareOf_X4_throwsOf : GoodIn wsX4_shareOf (wsV RX4 72 RX4 yX4_throwsOf wsX4_throwsOf) := goodIn_app (goodIn_of _ (by decide +kernel)) ggX4_shareOf_X4_throwsOf
set_option maxRecDepth 20000 in
theorem ggX4_shareOf_X4_hitsOf : GoodIn wsX4_shareOf wsX4_hitsOf := goodIn_r _ [26, 12, 13, 14, 15, 4, 16, 17, 18, 22, 23, 24, 19, 20, 21, 25, 43, 44, 45, 46, 47, 48, 49, 50, 51, 52, 53, 54, 55, 56] (by decide +kernel) (by decide +kernel)
set_option maxRecDepth 20000 in
theorem gX4_shareOf_X4_hitsOf : GoodIn wsX4_shareOf (wsV RX4 76 RX4 yX4_hitsOf wsX4_hitsOf) := goodIn_app (goodIn_of _ (by decide +kernel)) ggX4_shareOf_X4_hitsOf
set_option maxRecDepth 20000 in
theorem ggX4_shareOf_X4_add : GoodIn wsX4_shareOf wsX4_add := goodIn_r _ [27, 28, 29, 30, 4, 31, 32, 33, 34, 35, 36, 37, 38, 39, 40, 41, 42, 43, 44, 45, 46, 47, 48, 49, 50, 51, 52, 53, 54, 55, 56] (by decide +kernel) (by decide +kernel)
set_option maxRecDepth 20000 in
theorem gX4_shareOf_X4_add : GoodIn wsX4_shareOf (wsV RX4 79 RX4 yX4_add wsX4_add) := goodIn_app (goodIn_of _ (by decide +kernel)) ggX4_shareOf_X4_add
set_option maxRecDepth 20000 in
theorem ggX4_isAboveLevel_X4_times : GoodIn wsX4_isAboveLevel wsX4_times := goodIn_r _ [11, 12, 15, 16, 17, 18, 19, 20, 21, 22, 23, 24, 25, 26, 27, 28] (by decide +kernel) (by decide +kernel)
set_option maxRecDepth 20000 in
theorem gX4_isAboveLevel_X4_times : GoodIn wsX4_isAboveLevel (va_wsS RX4 61 yX4_times wsX4_times) := goodIn_app (goodIn_of _ (by decide +kernel)) ggX4_isAboveLevel_X4_times
set_option maxRecDepth 20000 in
theorem ggX4_isAboveLevel_X4_set : GoodIn wsX4_isAboveLevel wsX4_set := goodIn_r _ [13, 15, 16, 17, 18, 19, 20, 21, 22, 23, 24, 25, 26, 27, 28] (by decide +kernel) (by decide +kernel)
set_option maxRecDepth 20000 in
theorem gX4_isAboveLevel_X4_set : GoodIn wsX4_isAboveLevel (va_wsS RX4 57 yX4_set wsX4_set) := goodIn_app (goodIn_of _ (by decide +kernel)) ggX4_isAboveLevel_X4_set
set_option maxRecDepth 20000 in
theorem ggX4_isAboveLevel_X4_isAbove : GoodIn wsX4_isAboveLevel wsX4_isAbove := goodIn_r _ [14, 15, 16, 17, 18, 19, 20, 21, 22, 23, 24, 25, 26, 27, 28] (by decide +kernel) (by decide +kernel)
set_option maxRecDepth 20000 in
theorem gX4_isAboveLevel_X4_isAbove : GoodIn wsX4_isAboveLevel (va_wsS RX4 85 yX4_isAbove wsX4_isAbove) := goodIn_app (goodIn_of _ (by decide +kernel)) ggX4_isAboveLevel_X4_isAbove
set_option maxRecDepth 20000 in
theorem ggX4_boundOf_X4_shareOf : GoodIn wsX4_boundOf wsX4_shareOf := goodIn_r _ [11, 5, 6, 7, 4, 12, 13, 14, 15, 16, 17, 18, 19, 20, 21, 22, 23, 24, 25, 26, 27, 28, 29, 30, 31, 32, 33, 34, 35, 36, 37, 38, 39, 40, 41, 42, 43, 44, 45, 46, 47, 48, 49, 56, 57, 58, 59, 60, 61, 62, 63, 64, 65, 66, 67, 68, 69] (by decide +kernel) (by decide +kernel)
set_option maxRecDepth 20000 in
theorem gX4_boundOf_X4_shareOf : GoodIn wsX4_boundOf (wsV RX4 89 RX4 yX4_shareOf wsX4_shareOf) := goodIn_app (goodIn_of _ (by decide +kernel)) ggX4_boundOf_X4_shareOf
set_option maxRecDepth 20000 in
theorem ggX4_boundOf_X4_throwsOf : GoodIn wsX4_boundOf wsX4_throwsOf := goodIn_r _ [18, 19, 20, 21, 22, 4, 23, 24, 25, 26, 27, 28, 29, 30, 31, 32, 56, 57, 58, 59, 60, 61, 62, 63, 64, 65, 66, 67, 68, 69] (by decide +kernel) (by decide +kernel)
set_option maxRecDepth 20000 in
theorem gX4_boundOf_X4_throwsOf : GoodIn wsX4_boundOf (wsV RX4 72 RX4 yX4_throwsOf wsX4_throwsOf) := goodIn_app (goodIn_of _ (by decide +kernel)) ggX4_boundOf_X4_throwsOf
set_option maxRecDepth 20000 in
theorem ggX4_boundOf_X4_isAboveLevel : GoodIn wsX4_boundOf wsX4_isAboveLevel := goodIn_r _ [50, 35, 51, 39, 40, 4, 52, 36, 37, 53, 54, 46, 47, 45, 55, 56, 57, 58, 59, 60, 61, 62, 63, 64, 65, 66, 67, 68, 69] (by decide +kernel) (by decide +kernel)
set_option maxRecDepth 20000 in
theorem gX4_boundOf_X4_isAboveLevel : GoodIn wsX4_boundOf (wsV RX4 93 RX4 yX4_isAboveLevel wsX4_isAboveLevel) := goodIn_app (goodIn_of _ (by decide +kernel)) ggX4_boundOf_X4_isAboveLevel
set_option maxRecDepth 20000 in
theorem ggX4_doubtful_X4_edition : GoodIn wsX4_doubtful wsX4_edition := goodIn_r _ [9, 10, 12, 13, 14, 15, 16, 17, 18, 19, 20, 21, 22, 23, 24, 25] (by decide +kernel) (by decide +kernel)
set_option maxRecDepth 20000 in
theorem gX4_doubtful_X4_edition : GoodIn wsX4_doubtful (wsV RX4 97 RX4 yX4_edition wsX4_edition) := goodIn_app (goodIn_of _ (by decide +kernel)) ggX4_doubtful_X4_edition
set_option maxRecDepth 20000 in
theorem ggX4_doubtful_X4_isPass : GoodIn wsX4_doubtful wsX4_isPass := goodIn_r _ [11, 10, 12, 13, 14, 15, 16, 17, 18, 19, 20, 21, 22, 23, 24, 25] (by decide +kernel) (by decide +kernel)
set_option maxRecDepth 20000 in
theorem gX4_doubtful_X4_isPass : GoodIn wsX4_doubtful (wsV RX4 101 RX4 yX4_isPass wsX4_isPass) := goodIn_app (goodIn_of _ (by decide +kernel)) ggX4_doubtful_X4_isPass
set_option maxRecDepth 20000 in
theorem ggX4_runs_X4_boundOf : GoodIn wsX4_runs wsX4_boundOf := goodIn_r _ [12, 13, 14, 15, 8, 16, 17, 18, 19, 20, 21, 22, 23, 24, 25, 26, 27, 28, 29, 1, 30, 31, 32, 33, 34, 35, 36, 2, 37, 38, 39, 40, 41, 42, 43, 44, 45, 46, 47, 48, 49, 50, 51, 52, 53, 54, 55, 56, 57, 58, 59, 60, 61, 62, 63, 64, 65, 66, 67, 68, 69, 70, 71, 72, 73, 74, 75, 76, 77, 78] (by decide +kernel) (by decide +kernel)
set_option maxRecDepth 20000 in
theorem gX4_runs_X4_boundOf : GoodIn wsX4_runs (wsV RX4 107 RX4 yX4_boundOf wsX4_boundOf) := goodIn_app (goodIn_of _ (by decide +kernel)) ggX4_runs_X4_boundOf
set_option maxRecDepth 20000 in
theorem ggX4_run_X4_isTest : GoodIn wsX4_run wsX4_isTest := goodIn_r _ [11, 12, 78, 79, 80, 81, 82, 83, 84, 85, 86, 87, 88, 89, 90, 91] (by decide +kernel) (by decide +kernel)
set_option maxRecDepth 20000 in
theorem gX4_run_X4_isTest : GoodIn wsX4_run (wsV RX4 111 RX4 yX4_isTest wsX4_isTest) := goodIn_app (goodIn_of _ (by decide +kernel)) ggX4_run_X4_isTest
set_option maxRecDepth 20000 in
theorem ggX4_run_X4_isEdition : GoodIn wsX4_run wsX4_isEdition := goodIn_r _ [13, 78, 79, 80, 81, 82, 83, 84, 85, 86, 87, 88, 89, 90, 91] (by decide +kernel) (by decide +kernel)
set_option maxRecDepth 20000 in
theorem gX4_run_X4_isEdition : GoodIn wsX4_run (va_wsS RX4 115 yX4_isEdition wsX4_isEdition) := goodIn_app (goodIn_of _ (by decide +kernel)) ggX4_run_X4_isEdition
set_option maxRecDepth 20000 in
theorem ggX4_run_X4_runs : GoodIn wsX4_run wsX4_runs := goodIn_r _ [14, 15, 16, 17, 18, 19, 20, 21, 5, 22, 23, 24, 25, 26, 27, 28, 29, 30, 31, 32, 33, 34, 35, 36, 37, 38, 39, 40, 41, 42, 43, 44, 45, 46, 47, 48, 49, 50, 51, 52, 53, 54, 55, 56, 57, 58, 59, 60, 61, 62, 63, 64, 65, 66, 67, 68, 69, 70, 71, 72, 73, 74, 75, 76, 77, 78, 79, 80, 81, 82, 83, 84, 85, 86, 87, 88, 89, 90, 91] (by decide +kernel) (by decide +kernel)
set_option maxRecDepth 20000 in
theorem gX4_run_X4_runs : GoodIn wsX4_run (wsV RX4 118 RX4 yX4_runs wsX4_runs) := goodIn_app (goodIn_of _ (by decide +kernel)) ggX4_run_X4_runs
set_option maxRecDepth 20000 in
theorem ggX4_judge_X4_isTest : GoodIn wsX4_judge wsX4_isTest := goodIn_r _ [14, 15, 80, 81, 82, 83, 84, 85, 86, 87, 88, 89, 90, 91, 92, 93] (by decide +kernel) (by decide +kernel)
set_option maxRecDepth 20000 in
theorem gX4_judge_X4_isTest : GoodIn wsX4_judge (wsV RX4 111 RX4 yX4_isTest wsX4_isTest) := goodIn_app (goodIn_of _ (by decide +kernel)) ggX4_judge_X4_isTest
set_option maxRecDepth 20000 in
theorem ggX4_judge_X4_isEdition : GoodIn wsX4_judge wsX4_isEdition := goodIn_r _ [16, 80, 81, 82, 83, 84, 85, 86, 87, 88, 89, 90, 91, 92, 93] (by decide +kernel) (by decide +kernel)
set_option maxRecDepth 20000 in
theorem gX4_judge_X4_isEdition : GoodIn wsX4_judge (va_wsS RX4 115 yX4_isEdition wsX4_isEdition) := goodIn_app (goodIn_of _ (by decide +kernel)) ggX4_judge_X4_isEdition
set_option maxRecDepth 20000 in
theorem ggX4_judge_X4_runs : GoodIn wsX4_judge wsX4_runs := goodIn_r _ [17, 18, 19, 8, 20, 21, 22, 23, 5, 24, 25, 26, 27, 28, 29, 30, 31, 32, 33, 34, 35, 36, 37, 38, 39, 40, 41, 42, 43, 44, 45, 46, 47, 48, 49, 50, 51, 52, 53, 54, 55, 56, 57, 58, 59, 60, 61, 62, 63, 64, 65, 66, 67, 68, 69, 70, 71, 72, 73, 74, 75, 76, 77, 78, 79, 80, 81, 82, 83, 84, 85, 86, 87, 88, 89, 90, 91, 92, 93] (by decide +kernel) (by decide +kernel)
set_option maxRecDepth 20000 in
theorem gX4_judge_X4_runs : GoodIn wsX4_judge (wsV RX4 118 RX4 yX4_runs wsX4_runs) := goodIn_app (goodIn_of _ (by decide +kernel)) ggX4_judge_X4_runs
set_option maxRecDepth 20000 in
theorem ggX4_about_X4_isTest : GoodIn wsX4_about wsX4_isTest := goodIn_r _ [18, 19, 36, 37, 38, 39, 40, 41, 42, 43, 44, 45, 46, 47, 48, 49] (by decide +kernel) (by decide +kernel)
set_option maxRecDepth 20000 in
theorem gX4_about_X4_isTest : GoodIn wsX4_about (wsV RX4 111 RX4 yX4_isTest wsX4_isTest) := goodIn_app (goodIn_of _ (by decide +kernel)) ggX4_about_X4_isTest
set_option maxRecDepth 20000 in
theorem ggX4_about_X4_doubtful : GoodIn wsX4_about wsX4_doubtful := goodIn_r _ [20, 6, 21, 22, 23, 5, 24, 25, 26, 27, 28, 29, 36, 37, 38, 39, 40, 41, 42, 43, 44, 45, 46, 47, 48, 49] (by decide +kernel) (by decide +kernel)
set_option maxRecDepth 20000 in
theorem gX4_about_X4_doubtful : GoodIn wsX4_about (wsV RX4 120 RX4 yX4_doubtful wsX4_doubtful) := goodIn_app (goodIn_of _ (by decide +kernel)) ggX4_about_X4_doubtful
set_option maxRecDepth 20000 in
theorem ggX4_about_X4_throwsOf : GoodIn wsX4_about wsX4_throwsOf := goodIn_r _ [30, 6, 21, 22, 23, 5, 31, 32, 33, 27, 28, 34, 24, 25, 26, 29, 36, 37, 38, 39, 40, 41, 42, 43, 44, 45, 46, 47, 48, 49] (by decide +kernel) (by decide +kernel)
set_option maxRecDepth 20000 in
theorem gX4_about_X4_throwsOf : GoodIn wsX4_about (wsV RX4 72 RX4 yX4_throwsOf wsX4_throwsOf) := goodIn_app (goodIn_of _ (by decide +kernel)) ggX4_about_X4_throwsOf
set_option maxRecDepth 20000 in
theorem ggX4_about_X4_hitsOf : GoodIn wsX4_about wsX4_hitsOf := goodIn_r _ [35, 6, 21, 22, 23, 5, 31, 32, 33, 24, 25, 26, 27, 28, 34, 29, 36, 37, 38, 39, 40, 41, 42, 43, 44, 45, 46, 47, 48, 49] (by decide +kernel) (by decide +kernel)
set_option maxRecDepth 20000 in
theorem gX4_about_X4_hitsOf : GoodIn wsX4_about (wsV RX4 76 RX4 yX4_hitsOf wsX4_hitsOf) := goodIn_app (goodIn_of _ (by decide +kernel)) ggX4_about_X4_hitsOf
set_option maxRecDepth 20000 in
theorem ggX4_bound_X4_isTest : GoodIn wsX4_bound wsX4_isTest := goodIn_r _ [9, 10, 66, 67, 68, 69, 70, 71, 72, 73, 74, 75, 76, 77, 78, 79] (by decide +kernel) (by decide +kernel)
set_option maxRecDepth 20000 in
theorem gX4_bound_X4_isTest : GoodIn wsX4_bound (wsV RX4 111 RX4 yX4_isTest wsX4_isTest) := goodIn_app (goodIn_of _ (by decide +kernel)) ggX4_bound_X4_isTest
set_option maxRecDepth 20000 in
theorem ggX4_bound_X4_boundOf : GoodIn wsX4_bound wsX4_boundOf := goodIn_r _ [11, 12, 13, 14, 5, 15, 16, 17, 18, 19, 20, 21, 22, 23, 24, 25, 26, 27, 28, 29, 30, 31, 32, 33, 34, 35, 36, 37, 38, 39, 40, 41, 42, 43, 44, 45, 46, 47, 48, 49, 50, 51, 52, 53, 54, 55, 56, 57, 58, 59, 60, 61, 62, 63, 64, 65, 66, 67, 68, 69, 70, 71, 72, 73, 74, 75, 76, 77, 78, 79] (by decide +kernel) (by decide +kernel)
set_option maxRecDepth 20000 in
theorem gX4_bound_X4_boundOf : GoodIn wsX4_bound (wsV RX4 107 RX4 yX4_boundOf wsX4_boundOf) := goodIn_app (goodIn_of _ (by decide +kernel)) ggX4_bound_X4_boundOf
set_option maxRecDepth 20000 in
theorem ggX4_share_X4_isTest : GoodIn wsX4_share wsX4_isTest := goodIn_r _ [17, 18, 59, 60, 61, 62, 63, 64, 65, 66, 67, 68, 69, 70, 71, 72] (by decide +kernel) (by decide +kernel)
set_option maxRecDepth 20000 in
theorem gX4_share_X4_isTest : GoodIn wsX4_share (wsV RX4 111 RX4 yX4_isTest wsX4_isTest) := goodIn_app (goodIn_of _ (by decide +kernel)) ggX4_share_X4_isTest
set_option maxRecDepth 20000 in
theorem ggX4_share_X4_shareOf : GoodIn wsX4_share wsX4_shareOf := goodIn_r _ [19, 10, 11, 12, 5, 20, 21, 22, 23, 24, 25, 26, 27, 28, 29, 30, 31, 32, 33, 34, 35, 36, 37, 38, 39, 40, 41, 42, 43, 44, 45, 46, 47, 48, 49, 50, 51, 52, 53, 54, 55, 56, 57, 59, 60, 61, 62, 63, 64, 65, 66, 67, 68, 69, 70, 71, 72] (by decide +kernel) (by decide +kernel)
set_option maxRecDepth 20000 in
theorem gX4_share_X4_shareOf : GoodIn wsX4_share (wsV RX4 89 RX4 yX4_shareOf wsX4_shareOf) := goodIn_app (goodIn_of _ (by decide +kernel)) ggX4_share_X4_shareOf
set_option maxRecDepth 20000 in
theorem ggX4_share_X4_throwsOf : GoodIn wsX4_share wsX4_throwsOf := goodIn_r _ [26, 27, 28, 29, 30, 5, 31, 32, 33, 34, 35, 36, 37, 38, 39, 40, 59, 60, 61, 62, 63, 64, 65, 66, 67, 68, 69, 70, 71, 72] (by decide +kernel) (by decide +kernel)
set_option maxRecDepth 20000 in
theorem gX4_share_X4_throwsOf : GoodIn wsX4_share (wsV RX4 72 RX4 yX4_throwsOf wsX4_throwsOf) := goodIn_app (goodIn_of _ (by decide +kernel)) ggX4_share_X4_throwsOf
set_option maxRecDepth 20000 in
theorem ggX4_share_X4_digit : GoodIn wsX4_share wsX4_digit := goodIn_r _ [58, 43, 13, 59, 60, 61, 62, 63, 64, 65, 66, 67, 68, 69, 70, 71, 72] (by decide +kernel) (by decide +kernel)
set_option maxRecDepth 20000 in
theorem gX4_share_X4_digit : GoodIn wsX4_share (wsV RX4 127 RX4 yX4_digit wsX4_digit) := goodIn_app (goodIn_of _ (by decide +kernel)) ggX4_share_X4_digit
set_option maxRecDepth 20000 in
theorem ggX4_isBad_X4_isTest : GoodIn wsX4_isBad wsX4_isTest := goodIn_r _ [11, 12, 25, 26, 27, 28, 29, 30, 31, 32, 33, 34, 35, 36, 37, 38] (by decide +kernel) (by decide +kernel)
set_option maxRecDepth 20000 in
theorem gX4_isBad_X4_isTest : GoodIn wsX4_isBad (wsV RX4 111 RX4 yX4_isTest wsX4_isTest) := goodIn_app (goodIn_of _ (by decide +kernel)) ggX4_isBad_X4_isTest
set_option maxRecDepth 20000 in
theorem ggX4_isBad_X4_isEdition : GoodIn wsX4_isBad wsX4_isEdition := goodIn_r _ [13, 25, 26, 27, 28, 29, 30, 31, 32, 33, 34, 35, 36, 37, 38] (by decide +kernel) (by decide +kernel)
set_option maxRecDepth 20000 in
theorem gX4_isBad_X4_isEdition : GoodIn wsX4_isBad (va_wsS RX4 115 yX4_isEdition wsX4_isEdition) := goodIn_app (goodIn_of _ (by decide +kernel)) ggX4_isBad_X4_isEdition
set_option maxRecDepth 20000 in
theorem ggX4_isBad_X4_isBadFor : GoodIn wsX4_isBad wsX4_isBadFor := goodIn_r _ [14, 15, 16, 17, 18, 5, 19, 20, 21, 22, 23, 24, 25, 26, 27, 28, 29, 30, 31, 32, 33, 34, 35, 36, 37, 38] (by decide +kernel) (by decide +kernel)
set_option maxRecDepth 20000 in
theorem gX4_isBad_X4_isBadFor : GoodIn wsX4_isBad (wsV RX4 104 RX4 yX4_isBadFor wsX4_isBadFor) := goodIn_app (goodIn_of _ (by decide +kernel)) ggX4_isBad_X4_isBadFor
set_option maxRecDepth 20000 in
theorem ggX4_broken_X4_isEdition : GoodIn wsX4_broken wsX4_isEdition := goodIn_r _ [10, 22, 23, 24, 25, 26, 27, 28, 29, 30, 31, 32, 33, 34, 35] (by decide +kernel) (by decide +kernel)
set_option maxRecDepth 20000 in
theorem gX4_broken_X4_isEdition : GoodIn wsX4_broken (va_wsS RX4 115 yX4_isEdition wsX4_isEdition) := goodIn_app (goodIn_of _ (by decide +kernel)) ggX4_broken_X4_isEdition
set_option maxRecDepth 20000 in
theorem ggX4_broken_X4_isBadFor : GoodIn wsX4_broken wsX4_isBadFor := goodIn_r _ [11, 12, 13, 14, 15, 5, 16, 17, 18, 19, 20, 21, 22, 23, 24, 25, 26, 27, 28, 29, 30, 31, 32, 33, 34, 35] (by decide +kernel) (by decide +kernel)
set_option maxRecDepth 20000 in
theorem gX4_broken_X4_isBadFor : GoodIn wsX4_broken (wsV RX4 104 RX4 yX4_isBadFor wsX4_isBadFor) := goodIn_app (goodIn_of _ (by decide +kernel)) ggX4_broken_X4_isBadFor
set_option maxRecDepth 100000 in
theorem ggL_law_X3_init : GoodIn lw_tbl wsX3_init := goodIn_r _ [32, 33, 34, 35, 36, 62, 38, 39, 24, 63, 64, 65, 66, 67, 40, 41, 42, 43, 44, 45, 25, 55, 56, 46, 47, 48, 49, 54, 50, 68, 70, 72, 74, 76, 78, 57, 59, 51] (by decide +kernel) (by decide +kernel)
set_option maxRecDepth 100000 in
theorem gL_law_X3_init : GoodIn lw_tbl (wsX3_init) := ggL_law_X3_init
set_option maxRecDepth 100000 in
theorem ggL_law_X4_init : GoodIn lw_tbl wsX4_init := goodIn_r _ [257, 258, 34, 35, 261, 262, 263, 129, 264, 265, 130, 266, 267, 268, 269, 54, 270, 271, 272, 273, 275, 277, 279, 281, 283, 285, 287, 289, 291, 293, 295, 297, 299] (by decide +kernel) (by decide +kernel)
set_option maxRecDepth 100000 in
theorem gL_law_X4_init : GoodIn lw_tbl (wsX4_init) := ggL_law_X4_init
set_option maxRecDepth 100000 in
theorem ggL_law_X3_test : GoodIn lw_tbl wsX3_test := goodIn_r _ [84, 64, 62, 36, 85, 27, 86, 87, 88, 89, 34, 35, 129, 90, 130, 91, 104, 68, 70, 72, 74, 76, 78, 106, 108, 110, 112, 114, 116, 118, 120, 122, 124, 126] (by decide +kernel) (by decide +kernel)
set_option maxRecDepth 100000 in
theorem gL_law_X3_test : GoodIn lw_tbl (wsV RL 13 RX3 yX3_test wsX3_test) := goodIn_app (goodIn_of _ (by decide +kernel)) ggL_law_X3_test
set_option maxRecDepth 100000 in
theorem ggL_law_X4_test : GoodIn lw_tbl wsX4_test := goodIn_r _ [305, 259, 260, 268, 273, 275, 277, 279, 281, 283, 285, 287, 289, 291, 293, 295, 297, 299] (by decide +kernel) (by decide +kernel)
set_option maxRecDepth 100000 in
theorem gL_law_X4_test : GoodIn lw_tbl (wsV RL 17 RX4 yX4_test wsX4_test) := goodIn_app (goodIn_of _ (by decide +kernel)) ggL_law_X4_test
set_option maxRecDepth 100000 in
theorem ggL_law_X3_rules : GoodIn lw_tbl wsX3_rules := goodIn_r _ [134, 65, 66, 67, 135, 136, 23, 137, 138, 139, 140, 68, 70, 72, 74, 76, 78] (by decide +kernel) (by decide +kernel)
set_option maxRecDepth 100000 in
theorem gL_law_X3_rules : GoodIn lw_tbl (wsV RL 18 RX3 yX3_rules wsX3_rules) := goodIn_app (goodIn_of _ (by decide +kernel)) ggL_law_X3_rules
set_option maxRecDepth 100000 in
theorem ggL_law_X4_rules : GoodIn lw_tbl wsX4_rules := goodIn_r _ [309, 259, 261, 262, 263, 273, 275, 277, 279, 281, 283, 285, 287, 289, 291, 293, 295, 297, 299] (by decide +kernel) (by decide +kernel)
set_option maxRecDepth 100000 in
theorem gL_law_X4_rules : GoodIn lw_tbl (wsV RL 22 RX4 yX4_rules wsX4_rules) := goodIn_app (goodIn_of _ (by decide +kernel)) ggL_law_X4_rules
set_option maxRecDepth 100000 in
theorem ggL_law_X3_run : GoodIn lw_tbl wsX3_run := goodIn_r _ [144, 145, 147, 0, 23, 148, 64, 62, 149, 150, 151, 152, 154, 1, 155, 67, 65, 66, 156, 157, 158, 27, 159, 92, 94, 90, 91, 160, 162, 2, 163, 96, 98, 100, 164, 166, 3, 167, 168, 170, 4, 171, 63, 172, 173, 174, 24, 175, 55, 56, 176, 177, 178, 25, 179, 50, 180, 181, 182, 183, 184, 185, 186, 187, 188, 189, 190, 191, 192, 193, 194, 195, 196, 197, 198, 199, 201, 5, 202, 68, 70, 72, 74, 76, 78, 106, 108, 110, 112, 114, 116, 118, 120, 122, 124, 126, 57, 59, 51] (by decide +kernel) (by decide +kernel)
set_option maxRecDepth 100000 in
theorem gL_law_X3_run : GoodIn lw_tbl (wsV RL 23 RX3 yX3_run wsX3_run) := goodIn_app (goodIn_of _ (by decide +kernel)) ggL_law_X3_run
set_option maxRecDepth 100000 in
theorem ggL_law_X4_run : GoodIn lw_tbl wsX4_run := goodIn_r _ [313, 259, 314, 316, 9, 26, 318, 319, 321, 323, 10, 317, 260, 320, 324, 264, 265, 266, 261, 325, 327, 11, 263, 262, 267, 328, 329, 331, 12, 333, 335, 13, 370, 372, 19, 332, 349, 351, 17, 353, 355, 18, 336, 337, 339, 14, 341, 343, 15, 340, 344, 345, 347, 16, 348, 352, 356, 270, 357, 358, 271, 360, 361, 364, 365, 367, 368, 359, 362, 363, 366, 369, 373, 374, 272, 375, 376, 377, 273, 275, 277, 279, 281, 283, 285, 287, 289, 291, 293, 295, 297, 299] (by decide +kernel) (by decide +kernel)
set_option maxRecDepth 100000 in
theorem gL_law_X4_run : GoodIn lw_tbl (wsV RL 27 RX4 yX4_run wsX4_run) := goodIn_app (goodIn_of _ (by decide +kernel)) ggL_law_X4_run
set_option maxRecDepth 100000 in
theorem ggL_law_X3_judge : GoodIn lw_tbl wsX3_judge := goodIn_r _ [206, 145, 147, 0, 23, 148, 64, 62, 149, 150, 151, 207, 208, 209, 27, 210, 104, 105, 211, 213, 6, 214, 215, 217, 7, 218, 101, 152, 154, 1, 155, 67, 65, 66, 156, 157, 158, 159, 92, 94, 90, 91, 160, 162, 2, 163, 96, 98, 100, 164, 166, 3, 167, 168, 170, 4, 171, 63, 172, 173, 174, 24, 175, 55, 56, 176, 177, 178, 25, 179, 50, 180, 181, 182, 183, 184, 185, 186, 187, 188, 189, 190, 191, 192, 193, 194, 195, 196, 197, 198, 199, 201, 5, 202, 68, 70, 72, 74, 76, 78, 106, 108, 110, 112, 114, 116, 118, 120, 122, 124, 126, 57, 59, 51] (by decide +kernel) (by decide +kernel)
set_option maxRecDepth 100000 in
theorem gL_law_X3_judge : GoodIn lw_tbl (wsV RL 28 RX3 yX3_judge wsX3_judge) := goodIn_app (goodIn_of _ (by decide +kernel)) ggL_law_X3_judge
set_option maxRecDepth 100000 in
theorem ggL_law_X4_judge : GoodIn lw_tbl wsX4_judge := goodIn_r _ [381, 259, 314, 316, 9, 26, 318, 319, 266, 268, 269, 321, 323, 10, 317, 260, 320, 324, 264, 265, 261, 325, 327, 11, 263, 262, 267, 328, 329, 331, 12, 333, 335, 13, 370, 372, 19, 332, 349, 351, 17, 353, 355, 18, 336, 337, 339, 14, 341, 343, 15, 340, 344, 345, 347, 16, 348, 352, 356, 270, 357, 358, 271, 360, 361, 364, 365, 367, 368, 359, 362, 363, 366, 369, 373, 374, 272, 375, 376, 377, 273, 275, 277, 279, 281, 283, 285, 287, 289, 291, 293, 295, 297, 299] (by decide +kernel) (by decide +kernel)
set_option maxRecDepth 100000 in
theorem gL_law_X4_judge : GoodIn lw_tbl (wsV RL 32 RX4 yX4_judge wsX4_judge) := goodIn_app (goodIn_of _ (by decide +kernel)) ggL_law_X4_judge
set_option maxRecDepth 100000 in
theorem ggL_law_X3_about : GoodIn lw_tbl wsX3_about := goodIn_r _ [222, 145, 147, 0, 23, 148, 64, 62, 106, 108, 110, 112, 114, 116, 118, 120, 122, 124, 126, 68, 70, 72, 74, 76, 78] (by decide +kernel) (by decide +kernel)
set_option maxRecDepth 100000 in
theorem gL_law_X3_about : GoodIn lw_tbl (wsV RL 33 RX3 yX3_about wsX3_about) := goodIn_app (goodIn_of _ (by decide +kernel)) ggL_law_X3_about
set_option maxRecDepth 100000 in
theorem ggL_law_X4_about : GoodIn lw_tbl wsX4_about := goodIn_r _ [385, 259, 314, 316, 9, 26, 264, 386, 388, 20, 333, 335, 13, 349, 351, 17, 266, 267, 317, 260, 389, 337, 339, 14, 345, 347, 16, 340, 265, 348, 336, 341, 343, 15, 344, 352, 273, 275, 277, 279, 281, 283, 285, 287, 289, 291, 293, 295, 297, 299] (by decide +kernel) (by decide +kernel)
set_option maxRecDepth 100000 in
theorem gL_law_X4_about : GoodIn lw_tbl (wsV RL 37 RX4 yX4_about wsX4_about) := goodIn_app (goodIn_of _ (by decide +kernel)) ggL_law_X4_about
set_option maxRecDepth 100000 in
theorem ggL_law_X3_bound : GoodIn lw_tbl wsX3_bound := goodIn_r _ [226, 145, 147, 0, 23, 148, 64, 62, 135, 136, 137, 227, 229, 8, 230, 63, 172, 173, 174, 24, 175, 55, 56, 176, 177, 178, 25, 179, 50, 180, 181, 182, 183, 184, 185, 186, 187, 188, 189, 190, 191, 192, 193, 194, 195, 196, 197, 198, 106, 108, 110, 112, 114, 116, 118, 120, 122, 124, 126, 68, 70, 72, 74, 76, 78, 57, 59, 51] (by decide +kernel) (by decide +kernel)
set_option maxRecDepth 100000 in
theorem gL_law_X3_bound : GoodIn lw_tbl (wsV RL 38 RX3 yX3_bound wsX3_bound) := goodIn_app (goodIn_of _ (by decide +kernel)) ggL_law_X3_bound
set_option maxRecDepth 100000 in
theorem ggL_law_X4_bound : GoodIn lw_tbl wsX4_bound := goodIn_r _ [393, 259, 314, 316, 9, 26, 325, 327, 11, 317, 260, 328, 329, 331, 12, 333, 335, 13, 370, 372, 19, 332, 349, 351, 17, 353, 355, 18, 336, 264, 337, 339, 14, 341, 343, 15, 340, 265, 344, 345, 347, 16, 348, 352, 356, 270, 357, 358, 271, 360, 361, 364, 365, 367, 368, 359, 362, 363, 366, 369, 373, 374, 272, 375, 376, 377, 273, 275, 277, 279, 281, 283, 285, 287, 289, 291, 293, 295, 297, 299] (by decide +kernel) (by decide +kernel)
set_option maxRecDepth 100000 in
theorem gL_law_X4_bound : GoodIn lw_tbl (wsV RL 41 RX4 yX4_bound wsX4_bound) := goodIn_app (goodIn_of _ (by decide +kernel)) ggL_law_X4_bound
set_option maxRecDepth 100000 in
theorem ggL_law_X3_share : GoodIn lw_tbl wsX3_share := goodIn_r _ [234, 235, 145, 147, 0, 23, 148, 64, 62, 138, 139, 140, 168, 170, 4, 171, 63, 172, 173, 174, 24, 175, 55, 56, 176, 177, 178, 25, 179, 50, 180, 181, 182, 183, 184, 185, 186, 187, 188, 189, 190, 191, 192, 193, 199, 201, 5, 202, 236, 237, 238, 239, 240, 68, 70, 72, 74, 76, 78, 106, 108, 110, 112, 114, 116, 118, 120, 122, 124, 126, 57, 59, 51] (by decide +kernel) (by decide +kernel)
set_option maxRecDepth 100000 in
theorem gL_law_X3_share : GoodIn lw_tbl (wsV RL 42 RX3 yX3_share wsX3_share) := goodIn_app (goodIn_of _ (by decide +kernel)) ggL_law_X3_share
set_option maxRecDepth 100000 in
theorem ggL_law_X4_share : GoodIn lw_tbl wsX4_share := goodIn_r _ [397, 259, 314, 316, 9, 26, 398, 329, 331, 12, 333, 335, 13, 399, 400, 402, 21, 317, 260, 332, 349, 351, 17, 353, 355, 18, 336, 264, 337, 339, 14, 341, 343, 15, 340, 265, 344, 345, 347, 16, 348, 352, 356, 270, 357, 358, 271, 360, 361, 364, 365, 367, 368, 359, 362, 363, 366, 369, 403, 273, 275, 277, 279, 281, 283, 285, 287, 289, 291, 293, 295, 297, 299] (by decide +kernel) (by decide +kernel)
set_option maxRecDepth 100000 in
theorem gL_law_X4_share : GoodIn lw_tbl (wsV RL 46 RX4 yX4_share wsX4_share) := goodIn_app (goodIn_of _ (by decide +kernel)) ggL_law_X4_share
set_option maxRecDepth 100000 in
theorem ggL_law_X3_isBad : GoodIn lw_tbl wsX3_isBad := goodIn_r _ [244, 145, 147, 0, 23, 148, 64, 62, 245, 246, 247, 27, 248, 164, 166, 3, 167, 92, 90, 91, 68, 70, 72, 74, 76, 78, 106, 108, 110, 112, 114, 116, 118, 120, 122, 124, 126] (by decide +kernel) (by decide +kernel)
set_option maxRecDepth 100000 in
theorem gL_law_X3_isBad : GoodIn lw_tbl (wsV RL 47 RX3 yX3_isBad wsX3_isBad) := goodIn_app (goodIn_of _ (by decide +kernel)) ggL_law_X3_isBad
set_option maxRecDepth 100000 in
theorem ggL_law_X4_isBad : GoodIn lw_tbl wsX4_isBad := goodIn_r _ [407, 259, 314, 316, 9, 26, 318, 319, 341, 343, 15, 317, 260, 320, 344, 264, 337, 339, 14, 345, 347, 16, 340, 265, 348, 273, 275, 277, 279, 281, 283, 285, 287, 289, 291, 293, 295, 297, 299] (by decide +kernel) (by decide +kernel)
set_option maxRecDepth 100000 in
theorem gL_law_X4_isBad : GoodIn lw_tbl (wsV RL 51 RX4 yX4_isBad wsX4_isBad) := goodIn_app (goodIn_of _ (by decide +kernel)) ggL_law_X4_isBad
set_option maxRecDepth 100000 in
theorem ggL_law_X3_broken : GoodIn lw_tbl wsX3_broken := goodIn_r _ [252, 145, 147, 0, 23, 148, 64, 62, 245, 246, 247, 27, 248, 164, 166, 3, 167, 92, 90, 91, 106, 108, 110, 112, 114, 116, 118, 120, 122, 124, 126, 68, 70, 72, 74, 76, 78] (by decide +kernel) (by decide +kernel)
set_option maxRecDepth 100000 in
theorem gL_law_X3_broken : GoodIn lw_tbl (wsV RL 52 RX3 yX3_broken wsX3_broken) := goodIn_app (goodIn_of _ (by decide +kernel)) ggL_law_X3_broken
set_option maxRecDepth 100000 in
theorem ggL_law_X4_broken : GoodIn lw_tbl wsX4_broken := goodIn_r _ [411, 259, 260, 318, 319, 26, 341, 343, 15, 266, 320, 344, 264, 337, 339, 14, 345, 347, 16, 340, 265, 348, 273, 275, 277, 279, 281, 283, 285, 287, 289, 291, 293, 295, 297, 299] (by decide +kernel) (by decide +kernel)
set_option maxRecDepth 100000 in
theorem gL_law_X4_broken : GoodIn lw_tbl (wsV RL 56 RX4 yX4_broken wsX4_broken) := goodIn_app (goodIn_of _ (by decide +kernel)) ggL_law_X4_broken
theorem inX0 : ∀ w ∈ wsX00, w ∈ lw_tbl := by decide +kernel
theorem inX1 : ∀ w ∈ wsX10, w ∈ lw_tbl := by decide +kernel
theorem inX2 : ∀ w ∈ wsX20, w ∈ lw_tbl := by decide +kernel
theorem inX3 : ∀ w ∈ wsX30, w ∈ lw_tbl := by decide +kernel
theorem inX4 : ∀ w ∈ wsX40, w ∈ lw_tbl := by decide +kernel
abbrev vwCl : List vw_C := [(RX0, TX0, 2), (RX1, TX1, 1), (RX2, TX2, 11), (RX3, TX3, 6), (RX4, TX4, 14)]
/-- the tables' words that a contract's own words can't hold: fields of nest mates, arrays of histories -/
def fw_N (U : State) : Prop := va_AO RX2 U ∧ va_Nw (.fieldLinkNest RX3 58 "FlakyBounds$History" "size" "I" "FlakyBounds") U ∧ va_Nw (.fieldLinkNest RX3 61 "FlakyBounds$History" "doubtful" "I" "FlakyBounds") U ∧ va_Nw (.fieldLinkNest RX3 64 "FlakyBounds$History" "throwsCounted" "I" "FlakyBounds") U ∧ va_Nw (.fieldLinkNest RX3 67 "FlakyBounds$History" "failsCounted" "I" "FlakyBounds") U ∧ va_Nw (.fieldLinkNest RX3 70 "FlakyBounds$History" "marked" "Z" "FlakyBounds") U ∧ va_Nw (.fieldLinkNest RX3 74 "FlakyBounds$History" "timesMarked" "I" "FlakyBounds") U
theorem fw_N.warm {s U : State} (hW : s.WarmedH U.vm) (h : fw_N s) : fw_N U := ⟨h.1.moved hW.alike, (h.2.1).warmF hW, (h.2.2.1).warmF hW, (h.2.2.2.1).warmF hW, (h.2.2.2.2.1).warmF hW, (h.2.2.2.2.2.1).warmF hW, (h.2.2.2.2.2.2).warmF hW⟩
theorem fw_N.same {s U : State} (hv : s.vm = U.vm) (h : fw_N s) : fw_N U := ⟨h.1.moved (by rw [hv]; exact Vm.Alike.refl U.vm), va_Nw.same rfl hv (h.2.1), va_Nw.same rfl hv (h.2.2.1), va_Nw.same rfl hv (h.2.2.2.1), va_Nw.same rfl hv (h.2.2.2.2.1), va_Nw.same rfl hv (h.2.2.2.2.2.1), va_Nw.same rfl hv (h.2.2.2.2.2.2)⟩
theorem fw_N.of {args : Array Value} {s : State} (hts : ∀ w ∈ lw_tbl, w.before args s = true) : fw_N s := ⟨va_AO.of (hts _ (List.mem_of_getElem? (i := 37) rfl)), va_Nw.of rfl (hts _ (List.mem_of_getElem? (i := 93) rfl)), va_Nw.of rfl (hts _ (List.mem_of_getElem? (i := 95) rfl)), va_Nw.of rfl (hts _ (List.mem_of_getElem? (i := 97) rfl)), va_Nw.of rfl (hts _ (List.mem_of_getElem? (i := 99) rfl)), va_Nw.of rfl (hts _ (List.mem_of_getElem? (i := 102) rfl)), va_Nw.of rfl (hts _ (List.mem_of_getElem? (i := 103) rfl))⟩
theorem dX4_init_0 : decode cX4_init 0 = .ok (.aload_n 0, 1) := by decide +kernel
theorem dX4_init_1 : decode cX4_init 1 = .ok (.invokespecial 1, 3) := by decide +kernel
theorem dX4_init_4 : decode cX4_init 4 = .ok (.aload_n 0, 1) := by decide +kernel
theorem dX4_init_5 : decode cX4_init 5 = .ok (.bipush 50, 2) := by decide +kernel
theorem dX4_init_7 : decode cX4_init 7 = .ok (.putfield 7, 3) := by decide +kernel
theorem dX4_init_10 : decode cX4_init 10 = .ok (.aload_n 0, 1) := by decide +kernel
theorem dX4_init_11 : decode cX4_init 11 = .ok (.bipush 20, 2) := by decide +kernel
theorem dX4_init_13 : decode cX4_init 13 = .ok (.putfield 13, 3) := by decide +kernel
theorem dX4_init_16 : decode cX4_init 16 = .ok (.aload_n 0, 1) := by decide +kernel
theorem dX4_init_17 : decode cX4_init 17 = .ok (.iconst 5, 1) := by decide +kernel
theorem dX4_init_18 : decode cX4_init 18 = .ok (.putfield 16, 3) := by decide +kernel
theorem dX4_init_21 : decode cX4_init 21 = .ok (.aload_n 0, 1) := by decide +kernel
theorem dX4_init_22 : decode cX4_init 22 = .ok (.bipush 12, 2) := by decide +kernel
theorem dX4_init_24 : decode cX4_init 24 = .ok (.newarray .int, 2) := by decide +kernel
theorem dX4_init_26 : decode cX4_init 26 = .ok (.putfield 19, 3) := by decide +kernel
theorem dX4_init_29 : decode cX4_init 29 = .ok (.aload_n 0, 1) := by decide +kernel
theorem dX4_init_30 : decode cX4_init 30 = .ok (.sipush 576, 3) := by decide +kernel
theorem dX4_init_33 : decode cX4_init 33 = .ok (.newarray .int, 2) := by decide +kernel
theorem dX4_init_35 : decode cX4_init 35 = .ok (.putfield 23, 3) := by decide +kernel
theorem dX4_init_38 : decode cX4_init 38 = .ok (.aload_n 0, 1) := by decide +kernel
theorem dX4_init_39 : decode cX4_init 39 = .ok (.bipush 12, 2) := by decide +kernel
theorem dX4_init_41 : decode cX4_init 41 = .ok (.newarray .boolean, 2) := by decide +kernel
theorem dX4_init_43 : decode cX4_init 43 = .ok (.putfield 26, 3) := by decide +kernel
theorem dX4_init_46 : decode cX4_init 46 = .ok (.aload_n 0, 1) := by decide +kernel
theorem dX4_init_47 : decode cX4_init 47 = .ok (.bipush 12, 2) := by decide +kernel
theorem dX4_init_49 : decode cX4_init 49 = .ok (.newarray .int, 2) := by decide +kernel
theorem dX4_init_51 : decode cX4_init 51 = .ok (.putfield 30, 3) := by decide +kernel
theorem dX4_init_54 : decode cX4_init 54 = .ok (.aload_n 0, 1) := by decide +kernel
theorem dX4_init_55 : decode cX4_init 55 = .ok (.bipush 12, 2) := by decide +kernel
theorem dX4_init_57 : decode cX4_init 57 = .ok (.newarray .int, 2) := by decide +kernel
theorem dX4_init_59 : decode cX4_init 59 = .ok (.putfield 33, 3) := by decide +kernel
theorem dX4_init_62 : decode cX4_init 62 = .ok (.aload_n 0, 1) := by decide +kernel
theorem dX4_init_63 : decode cX4_init 63 = .ok (.bipush 12, 2) := by decide +kernel
theorem dX4_init_65 : decode cX4_init 65 = .ok (.newarray .int, 2) := by decide +kernel
theorem dX4_init_67 : decode cX4_init 67 = .ok (.putfield 36, 3) := by decide +kernel
theorem dX4_init_70 : decode cX4_init 70 = .ok (.aload_n 0, 1) := by decide +kernel
theorem dX4_init_71 : decode cX4_init 71 = .ok (.bipush 48, 2) := by decide +kernel
theorem dX4_init_73 : decode cX4_init 73 = .ok (.newarray .long, 2) := by decide +kernel
theorem dX4_init_75 : decode cX4_init 75 = .ok (.putfield 39, 3) := by decide +kernel
theorem dX4_init_78 : decode cX4_init 78 = .ok (.aload_n 0, 1) := by decide +kernel
theorem dX4_init_79 : decode cX4_init 79 = .ok (.bipush 48, 2) := by decide +kernel
theorem dX4_init_81 : decode cX4_init 81 = .ok (.newarray .long, 2) := by decide +kernel
theorem dX4_init_83 : decode cX4_init 83 = .ok (.putfield 43, 3) := by decide +kernel
theorem dX4_init_86 : decode cX4_init 86 = .ok (.aload_n 0, 1) := by decide +kernel
theorem dX4_init_87 : decode cX4_init 87 = .ok (.bipush 48, 2) := by decide +kernel
theorem dX4_init_89 : decode cX4_init 89 = .ok (.newarray .long, 2) := by decide +kernel
theorem dX4_init_91 : decode cX4_init 91 = .ok (.putfield 46, 3) := by decide +kernel
theorem dX4_init_94 : decode cX4_init 94 = .ok (.return_, 1) := by decide +kernel
theorem dX4_isTest_0 : decode cX4_isTest 0 = .ok (.iload_n 1, 1) := by decide +kernel
theorem dX4_isTest_1 : decode cX4_isTest 1 = .ok (.ifCond .lt 15, 3) := by decide +kernel
theorem dX4_isTest_4 : decode cX4_isTest 4 = .ok (.iload_n 1, 1) := by decide +kernel
theorem dX4_isTest_5 : decode cX4_isTest 5 = .ok (.aload_n 0, 1) := by decide +kernel
theorem dX4_isTest_6 : decode cX4_isTest 6 = .ok (.getfield 52, 3) := by decide +kernel
theorem dX4_isTest_9 : decode cX4_isTest 9 = .ok (.if_icmp .ge 7, 3) := by decide +kernel
theorem dX4_isTest_12 : decode cX4_isTest 12 = .ok (.iconst 1, 1) := by decide +kernel
theorem dX4_isTest_13 : decode cX4_isTest 13 = .ok (.goto 4, 3) := by decide +kernel
theorem dX4_isTest_16 : decode cX4_isTest 16 = .ok (.iconst 0, 1) := by decide +kernel
theorem dX4_isTest_17 : decode cX4_isTest 17 = .ok (.ireturn, 1) := by decide +kernel
theorem dX4_isEdition_0 : decode cX4_isEdition 0 = .ok (.iload_n 0, 1) := by decide +kernel
theorem dX4_isEdition_1 : decode cX4_isEdition 1 = .ok (.ifCond .lt 14, 3) := by decide +kernel
theorem dX4_isEdition_4 : decode cX4_isEdition 4 = .ok (.iload_n 0, 1) := by decide +kernel
theorem dX4_isEdition_5 : decode cX4_isEdition 5 = .ok (.sipush 1000, 3) := by decide +kernel
theorem dX4_isEdition_8 : decode cX4_isEdition 8 = .ok (.if_icmp .ge 7, 3) := by decide +kernel
theorem dX4_isEdition_11 : decode cX4_isEdition 11 = .ok (.iconst 1, 1) := by decide +kernel
theorem dX4_isEdition_12 : decode cX4_isEdition 12 = .ok (.goto 4, 3) := by decide +kernel
theorem dX4_isEdition_15 : decode cX4_isEdition 15 = .ok (.iconst 0, 1) := by decide +kernel
theorem dX4_isEdition_16 : decode cX4_isEdition 16 = .ok (.ireturn, 1) := by decide +kernel
theorem dX4_set_0 : decode cX4_set 0 = .ok (.iconst 0, 1) := by decide +kernel
theorem dX4_set_1 : decode cX4_set 1 = .ok (.istore_n 3, 1) := by decide +kernel
theorem dX4_set_2 : decode cX4_set 2 = .ok (.iload_n 3, 1) := by decide +kernel
theorem dX4_set_3 : decode cX4_set 3 = .ok (.bipush 48, 2) := by decide +kernel
theorem dX4_set_5 : decode cX4_set 5 = .ok (.if_icmp .ge 13, 3) := by decide +kernel
theorem dX4_set_8 : decode cX4_set 8 = .ok (.aload_n 0, 1) := by decide +kernel
theorem dX4_set_9 : decode cX4_set 9 = .ok (.iload_n 3, 1) := by decide +kernel
theorem dX4_set_10 : decode cX4_set 10 = .ok (.lconst 0, 1) := by decide +kernel
theorem dX4_set_11 : decode cX4_set 11 = .ok (.lastore, 1) := by decide +kernel
theorem dX4_set_12 : decode cX4_set 12 = .ok (.iinc 3 1, 3) := by decide +kernel
theorem dX4_set_15 : decode cX4_set 15 = .ok (.goto (-13), 3) := by decide +kernel
theorem dX4_set_18 : decode cX4_set 18 = .ok (.aload_n 0, 1) := by decide +kernel
theorem dX4_set_19 : decode cX4_set 19 = .ok (.iconst 0, 1) := by decide +kernel
theorem dX4_set_20 : decode cX4_set 20 = .ok (.lload_n 1, 1) := by decide +kernel
theorem dX4_set_21 : decode cX4_set 21 = .ok (.lastore, 1) := by decide +kernel
theorem dX4_set_22 : decode cX4_set 22 = .ok (.return_, 1) := by decide +kernel
theorem dX4_times_0 : decode cX4_times 0 = .ok (.lconst 0, 1) := by decide +kernel
theorem dX4_times_1 : decode cX4_times 1 = .ok (.lstore_n 3, 1) := by decide +kernel
theorem dX4_times_2 : decode cX4_times 2 = .ok (.iconst 0, 1) := by decide +kernel
theorem dX4_times_3 : decode cX4_times 3 = .ok (.istore 5, 2) := by decide +kernel
theorem dX4_times_5 : decode cX4_times 5 = .ok (.iload 5, 2) := by decide +kernel
theorem dX4_times_7 : decode cX4_times 7 = .ok (.bipush 48, 2) := by decide +kernel
theorem dX4_times_9 : decode cX4_times 9 = .ok (.if_icmp .ge 36, 3) := by decide +kernel
theorem dX4_times_12 : decode cX4_times 12 = .ok (.aload_n 0, 1) := by decide +kernel
theorem dX4_times_13 : decode cX4_times 13 = .ok (.iload 5, 2) := by decide +kernel
theorem dX4_times_15 : decode cX4_times 15 = .ok (.laload, 1) := by decide +kernel
theorem dX4_times_16 : decode cX4_times 16 = .ok (.lload_n 1, 1) := by decide +kernel
theorem dX4_times_17 : decode cX4_times 17 = .ok (.lmul, 1) := by decide +kernel
theorem dX4_times_18 : decode cX4_times 18 = .ok (.lload_n 3, 1) := by decide +kernel
theorem dX4_times_19 : decode cX4_times 19 = .ok (.ladd, 1) := by decide +kernel
theorem dX4_times_20 : decode cX4_times 20 = .ok (.lstore 6, 2) := by decide +kernel
theorem dX4_times_22 : decode cX4_times 22 = .ok (.aload_n 0, 1) := by decide +kernel
theorem dX4_times_23 : decode cX4_times 23 = .ok (.iload 5, 2) := by decide +kernel
theorem dX4_times_25 : decode cX4_times 25 = .ok (.lload 6, 2) := by decide +kernel
theorem dX4_times_27 : decode cX4_times 27 = .ok (.ldc2_w 55, 3) := by decide +kernel
theorem dX4_times_30 : decode cX4_times 30 = .ok (.lrem, 1) := by decide +kernel
theorem dX4_times_31 : decode cX4_times 31 = .ok (.lastore, 1) := by decide +kernel
theorem dX4_times_32 : decode cX4_times 32 = .ok (.lload 6, 2) := by decide +kernel
theorem dX4_times_34 : decode cX4_times 34 = .ok (.ldc2_w 55, 3) := by decide +kernel
theorem dX4_times_37 : decode cX4_times 37 = .ok (.ldiv, 1) := by decide +kernel
theorem dX4_times_38 : decode cX4_times 38 = .ok (.lstore_n 3, 1) := by decide +kernel
theorem dX4_times_39 : decode cX4_times 39 = .ok (.iinc 5 1, 3) := by decide +kernel
theorem dX4_times_42 : decode cX4_times 42 = .ok (.goto (-37), 3) := by decide +kernel
theorem dX4_times_45 : decode cX4_times 45 = .ok (.return_, 1) := by decide +kernel
theorem dX4_plus_0 : decode cX4_plus 0 = .ok (.lconst 0, 1) := by decide +kernel
theorem dX4_plus_1 : decode cX4_plus 1 = .ok (.lstore_n 2, 1) := by decide +kernel
theorem dX4_plus_2 : decode cX4_plus 2 = .ok (.iconst 0, 1) := by decide +kernel
theorem dX4_plus_3 : decode cX4_plus 3 = .ok (.istore 4, 2) := by decide +kernel
theorem dX4_plus_5 : decode cX4_plus 5 = .ok (.iload 4, 2) := by decide +kernel
theorem dX4_plus_7 : decode cX4_plus 7 = .ok (.bipush 48, 2) := by decide +kernel
theorem dX4_plus_9 : decode cX4_plus 9 = .ok (.if_icmp .ge 39, 3) := by decide +kernel
theorem dX4_plus_12 : decode cX4_plus 12 = .ok (.aload_n 0, 1) := by decide +kernel
theorem dX4_plus_13 : decode cX4_plus 13 = .ok (.iload 4, 2) := by decide +kernel
theorem dX4_plus_15 : decode cX4_plus 15 = .ok (.laload, 1) := by decide +kernel
theorem dX4_plus_16 : decode cX4_plus 16 = .ok (.aload_n 1, 1) := by decide +kernel
theorem dX4_plus_17 : decode cX4_plus 17 = .ok (.iload 4, 2) := by decide +kernel
theorem dX4_plus_19 : decode cX4_plus 19 = .ok (.laload, 1) := by decide +kernel
theorem dX4_plus_20 : decode cX4_plus 20 = .ok (.ladd, 1) := by decide +kernel
theorem dX4_plus_21 : decode cX4_plus 21 = .ok (.lload_n 2, 1) := by decide +kernel
theorem dX4_plus_22 : decode cX4_plus 22 = .ok (.ladd, 1) := by decide +kernel
theorem dX4_plus_23 : decode cX4_plus 23 = .ok (.lstore 5, 2) := by decide +kernel
theorem dX4_plus_25 : decode cX4_plus 25 = .ok (.aload_n 0, 1) := by decide +kernel
theorem dX4_plus_26 : decode cX4_plus 26 = .ok (.iload 4, 2) := by decide +kernel
theorem dX4_plus_28 : decode cX4_plus 28 = .ok (.lload 5, 2) := by decide +kernel
theorem dX4_plus_30 : decode cX4_plus 30 = .ok (.ldc2_w 55, 3) := by decide +kernel
theorem dX4_plus_33 : decode cX4_plus 33 = .ok (.lrem, 1) := by decide +kernel
theorem dX4_plus_34 : decode cX4_plus 34 = .ok (.lastore, 1) := by decide +kernel
theorem dX4_plus_35 : decode cX4_plus 35 = .ok (.lload 5, 2) := by decide +kernel
theorem dX4_plus_37 : decode cX4_plus 37 = .ok (.ldc2_w 55, 3) := by decide +kernel
theorem dX4_plus_40 : decode cX4_plus 40 = .ok (.ldiv, 1) := by decide +kernel
theorem dX4_plus_41 : decode cX4_plus 41 = .ok (.lstore_n 2, 1) := by decide +kernel
theorem dX4_plus_42 : decode cX4_plus 42 = .ok (.iinc 4 1, 3) := by decide +kernel
theorem dX4_plus_45 : decode cX4_plus 45 = .ok (.goto (-40), 3) := by decide +kernel
theorem dX4_plus_48 : decode cX4_plus 48 = .ok (.return_, 1) := by decide +kernel
theorem dX4_isAbove_0 : decode cX4_isAbove 0 = .ok (.bipush 47, 2) := by decide +kernel
theorem dX4_isAbove_2 : decode cX4_isAbove 2 = .ok (.istore_n 2, 1) := by decide +kernel
theorem dX4_isAbove_3 : decode cX4_isAbove 3 = .ok (.iload_n 2, 1) := by decide +kernel
theorem dX4_isAbove_4 : decode cX4_isAbove 4 = .ok (.ifCond .le 19, 3) := by decide +kernel
theorem dX4_isAbove_7 : decode cX4_isAbove 7 = .ok (.aload_n 0, 1) := by decide +kernel
theorem dX4_isAbove_8 : decode cX4_isAbove 8 = .ok (.iload_n 2, 1) := by decide +kernel
theorem dX4_isAbove_9 : decode cX4_isAbove 9 = .ok (.laload, 1) := by decide +kernel
theorem dX4_isAbove_10 : decode cX4_isAbove 10 = .ok (.aload_n 1, 1) := by decide +kernel
theorem dX4_isAbove_11 : decode cX4_isAbove 11 = .ok (.iload_n 2, 1) := by decide +kernel
theorem dX4_isAbove_12 : decode cX4_isAbove 12 = .ok (.laload, 1) := by decide +kernel
theorem dX4_isAbove_13 : decode cX4_isAbove 13 = .ok (.lcmp, 1) := by decide +kernel
theorem dX4_isAbove_14 : decode cX4_isAbove 14 = .ok (.ifCond .ne 9, 3) := by decide +kernel
theorem dX4_isAbove_17 : decode cX4_isAbove 17 = .ok (.iinc 2 (-1), 3) := by decide +kernel
theorem dX4_isAbove_20 : decode cX4_isAbove 20 = .ok (.goto (-17), 3) := by decide +kernel
theorem dX4_isAbove_23 : decode cX4_isAbove 23 = .ok (.aload_n 0, 1) := by decide +kernel
theorem dX4_isAbove_24 : decode cX4_isAbove 24 = .ok (.iload_n 2, 1) := by decide +kernel
theorem dX4_isAbove_25 : decode cX4_isAbove 25 = .ok (.laload, 1) := by decide +kernel
theorem dX4_isAbove_26 : decode cX4_isAbove 26 = .ok (.aload_n 1, 1) := by decide +kernel
theorem dX4_isAbove_27 : decode cX4_isAbove 27 = .ok (.iload_n 2, 1) := by decide +kernel
theorem dX4_isAbove_28 : decode cX4_isAbove 28 = .ok (.laload, 1) := by decide +kernel
theorem dX4_isAbove_29 : decode cX4_isAbove 29 = .ok (.lcmp, 1) := by decide +kernel
theorem dX4_isAbove_30 : decode cX4_isAbove 30 = .ok (.ifCond .le 7, 3) := by decide +kernel
theorem dX4_isAbove_33 : decode cX4_isAbove 33 = .ok (.iconst 1, 1) := by decide +kernel
theorem dX4_isAbove_34 : decode cX4_isAbove 34 = .ok (.goto 4, 3) := by decide +kernel
theorem dX4_isAbove_37 : decode cX4_isAbove 37 = .ok (.iconst 0, 1) := by decide +kernel
theorem dX4_isAbove_38 : decode cX4_isAbove 38 = .ok (.ireturn, 1) := by decide +kernel
theorem dX4_over_0 : decode cX4_over 0 = .ok (.lconst 1, 1) := by decide +kernel
theorem dX4_over_1 : decode cX4_over 1 = .ok (.lstore_n 2, 1) := by decide +kernel
theorem dX4_over_2 : decode cX4_over 2 = .ok (.iconst 1, 1) := by decide +kernel
theorem dX4_over_3 : decode cX4_over 3 = .ok (.istore 4, 2) := by decide +kernel
theorem dX4_over_5 : decode cX4_over 5 = .ok (.iload 4, 2) := by decide +kernel
theorem dX4_over_7 : decode cX4_over 7 = .ok (.iload_n 1, 1) := by decide +kernel
theorem dX4_over_8 : decode cX4_over 8 = .ok (.if_icmp .gt 23, 3) := by decide +kernel
theorem dX4_over_11 : decode cX4_over 11 = .ok (.lload_n 2, 1) := by decide +kernel
theorem dX4_over_12 : decode cX4_over 12 = .ok (.iload_n 0, 1) := by decide +kernel
theorem dX4_over_13 : decode cX4_over 13 = .ok (.iload_n 1, 1) := by decide +kernel
theorem dX4_over_14 : decode cX4_over 14 = .ok (.isub, 1) := by decide +kernel
theorem dX4_over_15 : decode cX4_over 15 = .ok (.iload 4, 2) := by decide +kernel
theorem dX4_over_17 : decode cX4_over 17 = .ok (.iadd, 1) := by decide +kernel
theorem dX4_over_18 : decode cX4_over 18 = .ok (.i2l, 1) := by decide +kernel
theorem dX4_over_19 : decode cX4_over 19 = .ok (.lmul, 1) := by decide +kernel
theorem dX4_over_20 : decode cX4_over 20 = .ok (.iload 4, 2) := by decide +kernel
theorem dX4_over_22 : decode cX4_over 22 = .ok (.i2l, 1) := by decide +kernel
theorem dX4_over_23 : decode cX4_over 23 = .ok (.ldiv, 1) := by decide +kernel
theorem dX4_over_24 : decode cX4_over 24 = .ok (.lstore_n 2, 1) := by decide +kernel
theorem dX4_over_25 : decode cX4_over 25 = .ok (.iinc 4 1, 3) := by decide +kernel
theorem dX4_over_28 : decode cX4_over 28 = .ok (.goto (-23), 3) := by decide +kernel
theorem dX4_over_31 : decode cX4_over 31 = .ok (.lload_n 2, 1) := by decide +kernel
theorem dX4_over_32 : decode cX4_over 32 = .ok (.lreturn, 1) := by decide +kernel
theorem dX4_add_0 : decode cX4_add 0 = .ok (.aload_n 0, 1) := by decide +kernel
theorem dX4_add_1 : decode cX4_add 1 = .ok (.getfield 39, 3) := by decide +kernel
theorem dX4_add_4 : decode cX4_add 4 = .ok (.lconst 0, 1) := by decide +kernel
theorem dX4_add_5 : decode cX4_add 5 = .ok (.invokestatic 57, 3) := by decide +kernel
theorem dX4_add_8 : decode cX4_add 8 = .ok (.iload_n 2, 1) := by decide +kernel
theorem dX4_add_9 : decode cX4_add 9 = .ok (.istore 5, 2) := by decide +kernel
theorem dX4_add_11 : decode cX4_add 11 = .ok (.iload 5, 2) := by decide +kernel
theorem dX4_add_13 : decode cX4_add 13 = .ok (.iload_n 3, 1) := by decide +kernel
theorem dX4_add_14 : decode cX4_add 14 = .ok (.if_icmp .gt 83, 3) := by decide +kernel
theorem dX4_add_17 : decode cX4_add 17 = .ok (.aload_n 0, 1) := by decide +kernel
theorem dX4_add_18 : decode cX4_add 18 = .ok (.getfield 43, 3) := by decide +kernel
theorem dX4_add_21 : decode cX4_add 21 = .ok (.lconst 1, 1) := by decide +kernel
theorem dX4_add_22 : decode cX4_add 22 = .ok (.invokestatic 57, 3) := by decide +kernel
theorem dX4_add_25 : decode cX4_add 25 = .ok (.iconst 0, 1) := by decide +kernel
theorem dX4_add_26 : decode cX4_add 26 = .ok (.istore 6, 2) := by decide +kernel
theorem dX4_add_28 : decode cX4_add 28 = .ok (.iload 6, 2) := by decide +kernel
theorem dX4_add_30 : decode cX4_add 30 = .ok (.iload_n 1, 1) := by decide +kernel
theorem dX4_add_31 : decode cX4_add 31 = .ok (.if_icmp .ge 36, 3) := by decide +kernel
theorem dX4_add_34 : decode cX4_add 34 = .ok (.aload_n 0, 1) := by decide +kernel
theorem dX4_add_35 : decode cX4_add 35 = .ok (.getfield 43, 3) := by decide +kernel
theorem dX4_add_38 : decode cX4_add 38 = .ok (.iload 6, 2) := by decide +kernel
theorem dX4_add_40 : decode cX4_add 40 = .ok (.iload 5, 2) := by decide +kernel
theorem dX4_add_42 : decode cX4_add 42 = .ok (.if_icmp .ge 9, 3) := by decide +kernel
theorem dX4_add_45 : decode cX4_add 45 = .ok (.iload 4, 2) := by decide +kernel
theorem dX4_add_47 : decode cX4_add 47 = .ok (.i2l, 1) := by decide +kernel
theorem dX4_add_48 : decode cX4_add 48 = .ok (.goto 10, 3) := by decide +kernel
theorem dX4_add_51 : decode cX4_add 51 = .ok (.sipush 1000, 3) := by decide +kernel
theorem dX4_add_54 : decode cX4_add 54 = .ok (.iload 4, 2) := by decide +kernel
theorem dX4_add_56 : decode cX4_add 56 = .ok (.isub, 1) := by decide +kernel
theorem dX4_add_57 : decode cX4_add 57 = .ok (.i2l, 1) := by decide +kernel
theorem dX4_add_58 : decode cX4_add 58 = .ok (.invokestatic 61, 3) := by decide +kernel
theorem dX4_add_61 : decode cX4_add 61 = .ok (.iinc 6 1, 3) := by decide +kernel
theorem dX4_add_64 : decode cX4_add 64 = .ok (.goto (-36), 3) := by decide +kernel
theorem dX4_add_67 : decode cX4_add 67 = .ok (.aload_n 0, 1) := by decide +kernel
theorem dX4_add_68 : decode cX4_add 68 = .ok (.getfield 43, 3) := by decide +kernel
theorem dX4_add_71 : decode cX4_add 71 = .ok (.iload_n 1, 1) := by decide +kernel
theorem dX4_add_72 : decode cX4_add 72 = .ok (.iload 5, 2) := by decide +kernel
theorem dX4_add_74 : decode cX4_add 74 = .ok (.invokestatic 64, 3) := by decide +kernel
theorem dX4_add_77 : decode cX4_add 77 = .ok (.invokestatic 61, 3) := by decide +kernel
theorem dX4_add_80 : decode cX4_add 80 = .ok (.aload_n 0, 1) := by decide +kernel
theorem dX4_add_81 : decode cX4_add 81 = .ok (.getfield 39, 3) := by decide +kernel
theorem dX4_add_84 : decode cX4_add 84 = .ok (.aload_n 0, 1) := by decide +kernel
theorem dX4_add_85 : decode cX4_add 85 = .ok (.getfield 43, 3) := by decide +kernel
theorem dX4_add_88 : decode cX4_add 88 = .ok (.invokestatic 68, 3) := by decide +kernel
theorem dX4_add_91 : decode cX4_add 91 = .ok (.iinc 5 1, 3) := by decide +kernel
theorem dX4_add_94 : decode cX4_add 94 = .ok (.goto (-83), 3) := by decide +kernel
theorem dX4_add_97 : decode cX4_add 97 = .ok (.return_, 1) := by decide +kernel
theorem dX4_shareOf_0 : decode cX4_shareOf 0 = .ok (.aload_n 0, 1) := by decide +kernel
theorem dX4_shareOf_1 : decode cX4_shareOf 1 = .ok (.iload_n 1, 1) := by decide +kernel
theorem dX4_shareOf_2 : decode cX4_shareOf 2 = .ok (.invokevirtual 72, 3) := by decide +kernel
theorem dX4_shareOf_5 : decode cX4_shareOf 5 = .ok (.istore 4, 2) := by decide +kernel
theorem dX4_shareOf_7 : decode cX4_shareOf 7 = .ok (.aload_n 0, 1) := by decide +kernel
theorem dX4_shareOf_8 : decode cX4_shareOf 8 = .ok (.iload_n 1, 1) := by decide +kernel
theorem dX4_shareOf_9 : decode cX4_shareOf 9 = .ok (.invokevirtual 76, 3) := by decide +kernel
theorem dX4_shareOf_12 : decode cX4_shareOf 12 = .ok (.istore 5, 2) := by decide +kernel
theorem dX4_shareOf_14 : decode cX4_shareOf 14 = .ok (.aload_n 0, 1) := by decide +kernel
theorem dX4_shareOf_15 : decode cX4_shareOf 15 = .ok (.iload 4, 2) := by decide +kernel
theorem dX4_shareOf_17 : decode cX4_shareOf 17 = .ok (.iload_n 3, 1) := by decide +kernel
theorem dX4_shareOf_18 : decode cX4_shareOf 18 = .ok (.ifCond .eq 7, 3) := by decide +kernel
theorem dX4_shareOf_21 : decode cX4_shareOf 21 = .ok (.iconst 0, 1) := by decide +kernel
theorem dX4_shareOf_22 : decode cX4_shareOf 22 = .ok (.goto 5, 3) := by decide +kernel
theorem dX4_shareOf_25 : decode cX4_shareOf 25 = .ok (.iload 5, 2) := by decide +kernel
theorem dX4_shareOf_27 : decode cX4_shareOf 27 = .ok (.iload_n 3, 1) := by decide +kernel
theorem dX4_shareOf_28 : decode cX4_shareOf 28 = .ok (.ifCond .eq 8, 3) := by decide +kernel
theorem dX4_shareOf_31 : decode cX4_shareOf 31 = .ok (.iload 5, 2) := by decide +kernel
theorem dX4_shareOf_33 : decode cX4_shareOf 33 = .ok (.goto 5, 3) := by decide +kernel
theorem dX4_shareOf_36 : decode cX4_shareOf 36 = .ok (.iload 4, 2) := by decide +kernel
theorem dX4_shareOf_38 : decode cX4_shareOf 38 = .ok (.iload_n 2, 1) := by decide +kernel
theorem dX4_shareOf_39 : decode cX4_shareOf 39 = .ok (.invokevirtual 79, 3) := by decide +kernel
theorem dX4_shareOf_42 : decode cX4_shareOf 42 = .ok (.return_, 1) := by decide +kernel
theorem dX4_isAboveLevel_0 : decode cX4_isAboveLevel 0 = .ok (.aload_n 0, 1) := by decide +kernel
theorem dX4_isAboveLevel_1 : decode cX4_isAboveLevel 1 = .ok (.getfield 39, 3) := by decide +kernel
theorem dX4_isAboveLevel_4 : decode cX4_isAboveLevel 4 = .ok (.ldc2_w 83, 3) := by decide +kernel
theorem dX4_isAboveLevel_7 : decode cX4_isAboveLevel 7 = .ok (.invokestatic 61, 3) := by decide +kernel
theorem dX4_isAboveLevel_10 : decode cX4_isAboveLevel 10 = .ok (.aload_n 0, 1) := by decide +kernel
theorem dX4_isAboveLevel_11 : decode cX4_isAboveLevel 11 = .ok (.getfield 46, 3) := by decide +kernel
theorem dX4_isAboveLevel_14 : decode cX4_isAboveLevel 14 = .ok (.iload_n 2, 1) := by decide +kernel
theorem dX4_isAboveLevel_15 : decode cX4_isAboveLevel 15 = .ok (.i2l, 1) := by decide +kernel
theorem dX4_isAboveLevel_16 : decode cX4_isAboveLevel 16 = .ok (.invokestatic 57, 3) := by decide +kernel
theorem dX4_isAboveLevel_19 : decode cX4_isAboveLevel 19 = .ok (.iconst 0, 1) := by decide +kernel
theorem dX4_isAboveLevel_20 : decode cX4_isAboveLevel 20 = .ok (.istore_n 3, 1) := by decide +kernel
theorem dX4_isAboveLevel_21 : decode cX4_isAboveLevel 21 = .ok (.iload_n 3, 1) := by decide +kernel
theorem dX4_isAboveLevel_22 : decode cX4_isAboveLevel 22 = .ok (.iload_n 1, 1) := by decide +kernel
theorem dX4_isAboveLevel_23 : decode cX4_isAboveLevel 23 = .ok (.if_icmp .ge 19, 3) := by decide +kernel
theorem dX4_isAboveLevel_26 : decode cX4_isAboveLevel 26 = .ok (.aload_n 0, 1) := by decide +kernel
theorem dX4_isAboveLevel_27 : decode cX4_isAboveLevel 27 = .ok (.getfield 46, 3) := by decide +kernel
theorem dX4_isAboveLevel_30 : decode cX4_isAboveLevel 30 = .ok (.ldc2_w 83, 3) := by decide +kernel
theorem dX4_isAboveLevel_33 : decode cX4_isAboveLevel 33 = .ok (.invokestatic 61, 3) := by decide +kernel
theorem dX4_isAboveLevel_36 : decode cX4_isAboveLevel 36 = .ok (.iinc 3 1, 3) := by decide +kernel
theorem dX4_isAboveLevel_39 : decode cX4_isAboveLevel 39 = .ok (.goto (-18), 3) := by decide +kernel
theorem dX4_isAboveLevel_42 : decode cX4_isAboveLevel 42 = .ok (.aload_n 0, 1) := by decide +kernel
theorem dX4_isAboveLevel_43 : decode cX4_isAboveLevel 43 = .ok (.getfield 39, 3) := by decide +kernel
theorem dX4_isAboveLevel_46 : decode cX4_isAboveLevel 46 = .ok (.aload_n 0, 1) := by decide +kernel
theorem dX4_isAboveLevel_47 : decode cX4_isAboveLevel 47 = .ok (.getfield 46, 3) := by decide +kernel
theorem dX4_isAboveLevel_50 : decode cX4_isAboveLevel 50 = .ok (.invokestatic 85, 3) := by decide +kernel
theorem dX4_isAboveLevel_53 : decode cX4_isAboveLevel 53 = .ok (.ireturn, 1) := by decide +kernel
theorem dX4_boundOf_0 : decode cX4_boundOf 0 = .ok (.iconst 0, 1) := by decide +kernel
theorem dX4_boundOf_1 : decode cX4_boundOf 1 = .ok (.istore 4, 2) := by decide +kernel
theorem dX4_boundOf_3 : decode cX4_boundOf 3 = .ok (.sipush 1000, 3) := by decide +kernel
theorem dX4_boundOf_6 : decode cX4_boundOf 6 = .ok (.istore 5, 2) := by decide +kernel
theorem dX4_boundOf_8 : decode cX4_boundOf 8 = .ok (.iload 4, 2) := by decide +kernel
theorem dX4_boundOf_10 : decode cX4_boundOf 10 = .ok (.iload 5, 2) := by decide +kernel
theorem dX4_boundOf_12 : decode cX4_boundOf 12 = .ok (.if_icmp .ge 118, 3) := by decide +kernel
theorem dX4_boundOf_15 : decode cX4_boundOf 15 = .ok (.iload_n 3, 1) := by decide +kernel
theorem dX4_boundOf_16 : decode cX4_boundOf 16 = .ok (.ifCond .eq 15, 3) := by decide +kernel
theorem dX4_boundOf_19 : decode cX4_boundOf 19 = .ok (.iload 4, 2) := by decide +kernel
theorem dX4_boundOf_21 : decode cX4_boundOf 21 = .ok (.iload 5, 2) := by decide +kernel
theorem dX4_boundOf_23 : decode cX4_boundOf 23 = .ok (.iadd, 1) := by decide +kernel
theorem dX4_boundOf_24 : decode cX4_boundOf 24 = .ok (.iconst 1, 1) := by decide +kernel
theorem dX4_boundOf_25 : decode cX4_boundOf 25 = .ok (.iadd, 1) := by decide +kernel
theorem dX4_boundOf_26 : decode cX4_boundOf 26 = .ok (.iconst 2, 1) := by decide +kernel
theorem dX4_boundOf_27 : decode cX4_boundOf 27 = .ok (.idiv, 1) := by decide +kernel
theorem dX4_boundOf_28 : decode cX4_boundOf 28 = .ok (.goto 10, 3) := by decide +kernel
theorem dX4_boundOf_31 : decode cX4_boundOf 31 = .ok (.iload 4, 2) := by decide +kernel
theorem dX4_boundOf_33 : decode cX4_boundOf 33 = .ok (.iload 5, 2) := by decide +kernel
theorem dX4_boundOf_35 : decode cX4_boundOf 35 = .ok (.iadd, 1) := by decide +kernel
theorem dX4_boundOf_36 : decode cX4_boundOf 36 = .ok (.iconst 2, 1) := by decide +kernel
theorem dX4_boundOf_37 : decode cX4_boundOf 37 = .ok (.idiv, 1) := by decide +kernel
theorem dX4_boundOf_38 : decode cX4_boundOf 38 = .ok (.istore 6, 2) := by decide +kernel
theorem dX4_boundOf_40 : decode cX4_boundOf 40 = .ok (.aload_n 0, 1) := by decide +kernel
theorem dX4_boundOf_41 : decode cX4_boundOf 41 = .ok (.iload_n 1, 1) := by decide +kernel
theorem dX4_boundOf_42 : decode cX4_boundOf 42 = .ok (.iload 6, 2) := by decide +kernel
theorem dX4_boundOf_44 : decode cX4_boundOf 44 = .ok (.iload_n 3, 1) := by decide +kernel
theorem dX4_boundOf_45 : decode cX4_boundOf 45 = .ok (.invokevirtual 89, 3) := by decide +kernel
theorem dX4_boundOf_48 : decode cX4_boundOf 48 = .ok (.aload_n 0, 1) := by decide +kernel
theorem dX4_boundOf_49 : decode cX4_boundOf 49 = .ok (.aload_n 0, 1) := by decide +kernel
theorem dX4_boundOf_50 : decode cX4_boundOf 50 = .ok (.iload_n 1, 1) := by decide +kernel
theorem dX4_boundOf_51 : decode cX4_boundOf 51 = .ok (.invokevirtual 72, 3) := by decide +kernel
theorem dX4_boundOf_54 : decode cX4_boundOf 54 = .ok (.iload_n 2, 1) := by decide +kernel
theorem dX4_boundOf_55 : decode cX4_boundOf 55 = .ok (.invokevirtual 93, 3) := by decide +kernel
theorem dX4_boundOf_58 : decode cX4_boundOf 58 = .ok (.istore 7, 2) := by decide +kernel
theorem dX4_boundOf_60 : decode cX4_boundOf 60 = .ok (.iload_n 3, 1) := by decide +kernel
theorem dX4_boundOf_61 : decode cX4_boundOf 61 = .ok (.ifCond .eq 36, 3) := by decide +kernel
theorem dX4_boundOf_64 : decode cX4_boundOf 64 = .ok (.iload 7, 2) := by decide +kernel
theorem dX4_boundOf_66 : decode cX4_boundOf 66 = .ok (.ifCond .eq 8, 3) := by decide +kernel
theorem dX4_boundOf_69 : decode cX4_boundOf 69 = .ok (.iload 6, 2) := by decide +kernel
theorem dX4_boundOf_71 : decode cX4_boundOf 71 = .ok (.goto 5, 3) := by decide +kernel
theorem dX4_boundOf_74 : decode cX4_boundOf 74 = .ok (.iload 4, 2) := by decide +kernel
theorem dX4_boundOf_76 : decode cX4_boundOf 76 = .ok (.istore 4, 2) := by decide +kernel
theorem dX4_boundOf_78 : decode cX4_boundOf 78 = .ok (.iload 7, 2) := by decide +kernel
theorem dX4_boundOf_80 : decode cX4_boundOf 80 = .ok (.ifCond .eq 8, 3) := by decide +kernel
theorem dX4_boundOf_83 : decode cX4_boundOf 83 = .ok (.iload 5, 2) := by decide +kernel
theorem dX4_boundOf_85 : decode cX4_boundOf 85 = .ok (.goto 7, 3) := by decide +kernel
theorem dX4_boundOf_88 : decode cX4_boundOf 88 = .ok (.iload 6, 2) := by decide +kernel
theorem dX4_boundOf_90 : decode cX4_boundOf 90 = .ok (.iconst 1, 1) := by decide +kernel
theorem dX4_boundOf_91 : decode cX4_boundOf 91 = .ok (.isub, 1) := by decide +kernel
theorem dX4_boundOf_92 : decode cX4_boundOf 92 = .ok (.istore 5, 2) := by decide +kernel
theorem dX4_boundOf_94 : decode cX4_boundOf 94 = .ok (.goto 33, 3) := by decide +kernel
theorem dX4_boundOf_97 : decode cX4_boundOf 97 = .ok (.iload 7, 2) := by decide +kernel
theorem dX4_boundOf_99 : decode cX4_boundOf 99 = .ok (.ifCond .eq 8, 3) := by decide +kernel
theorem dX4_boundOf_102 : decode cX4_boundOf 102 = .ok (.iload 6, 2) := by decide +kernel
theorem dX4_boundOf_104 : decode cX4_boundOf 104 = .ok (.goto 5, 3) := by decide +kernel
theorem dX4_boundOf_107 : decode cX4_boundOf 107 = .ok (.iload 5, 2) := by decide +kernel
theorem dX4_boundOf_109 : decode cX4_boundOf 109 = .ok (.istore 5, 2) := by decide +kernel
theorem dX4_boundOf_111 : decode cX4_boundOf 111 = .ok (.iload 7, 2) := by decide +kernel
theorem dX4_boundOf_113 : decode cX4_boundOf 113 = .ok (.ifCond .eq 8, 3) := by decide +kernel
theorem dX4_boundOf_116 : decode cX4_boundOf 116 = .ok (.iload 4, 2) := by decide +kernel
theorem dX4_boundOf_118 : decode cX4_boundOf 118 = .ok (.goto 7, 3) := by decide +kernel
theorem dX4_boundOf_121 : decode cX4_boundOf 121 = .ok (.iload 6, 2) := by decide +kernel
theorem dX4_boundOf_123 : decode cX4_boundOf 123 = .ok (.iconst 1, 1) := by decide +kernel
theorem dX4_boundOf_124 : decode cX4_boundOf 124 = .ok (.iadd, 1) := by decide +kernel
theorem dX4_boundOf_125 : decode cX4_boundOf 125 = .ok (.istore 4, 2) := by decide +kernel
theorem dX4_boundOf_127 : decode cX4_boundOf 127 = .ok (.goto (-119), 3) := by decide +kernel
theorem dX4_boundOf_130 : decode cX4_boundOf 130 = .ok (.iload 4, 2) := by decide +kernel
theorem dX4_boundOf_132 : decode cX4_boundOf 132 = .ok (.ireturn, 1) := by decide +kernel
theorem dX4_edition_0 : decode cX4_edition 0 = .ok (.aload_n 0, 1) := by decide +kernel
theorem dX4_edition_1 : decode cX4_edition 1 = .ok (.getfield 23, 3) := by decide +kernel
theorem dX4_edition_4 : decode cX4_edition 4 = .ok (.bipush 48, 2) := by decide +kernel
theorem dX4_edition_6 : decode cX4_edition 6 = .ok (.iload_n 1, 1) := by decide +kernel
theorem dX4_edition_7 : decode cX4_edition 7 = .ok (.imul, 1) := by decide +kernel
theorem dX4_edition_8 : decode cX4_edition 8 = .ok (.iload_n 2, 1) := by decide +kernel
theorem dX4_edition_9 : decode cX4_edition 9 = .ok (.iadd, 1) := by decide +kernel
theorem dX4_edition_10 : decode cX4_edition 10 = .ok (.iaload, 1) := by decide +kernel
theorem dX4_edition_11 : decode cX4_edition 11 = .ok (.iconst 2, 1) := by decide +kernel
theorem dX4_edition_12 : decode cX4_edition 12 = .ok (.idiv, 1) := by decide +kernel
theorem dX4_edition_13 : decode cX4_edition 13 = .ok (.ireturn, 1) := by decide +kernel
theorem dX4_isPass_0 : decode cX4_isPass 0 = .ok (.aload_n 0, 1) := by decide +kernel
theorem dX4_isPass_1 : decode cX4_isPass 1 = .ok (.getfield 23, 3) := by decide +kernel
theorem dX4_isPass_4 : decode cX4_isPass 4 = .ok (.bipush 48, 2) := by decide +kernel
theorem dX4_isPass_6 : decode cX4_isPass 6 = .ok (.iload_n 1, 1) := by decide +kernel
theorem dX4_isPass_7 : decode cX4_isPass 7 = .ok (.imul, 1) := by decide +kernel
theorem dX4_isPass_8 : decode cX4_isPass 8 = .ok (.iload_n 2, 1) := by decide +kernel
theorem dX4_isPass_9 : decode cX4_isPass 9 = .ok (.iadd, 1) := by decide +kernel
theorem dX4_isPass_10 : decode cX4_isPass 10 = .ok (.iaload, 1) := by decide +kernel
theorem dX4_isPass_11 : decode cX4_isPass 11 = .ok (.iconst 2, 1) := by decide +kernel
theorem dX4_isPass_12 : decode cX4_isPass 12 = .ok (.irem, 1) := by decide +kernel
theorem dX4_isPass_13 : decode cX4_isPass 13 = .ok (.iconst 1, 1) := by decide +kernel
theorem dX4_isPass_14 : decode cX4_isPass 14 = .ok (.if_icmp .ne 7, 3) := by decide +kernel
theorem dX4_isPass_17 : decode cX4_isPass 17 = .ok (.iconst 1, 1) := by decide +kernel
theorem dX4_isPass_18 : decode cX4_isPass 18 = .ok (.goto 4, 3) := by decide +kernel
theorem dX4_isPass_21 : decode cX4_isPass 21 = .ok (.iconst 0, 1) := by decide +kernel
theorem dX4_isPass_22 : decode cX4_isPass 22 = .ok (.ireturn, 1) := by decide +kernel
theorem dX4_isBadFor_0 : decode cX4_isBadFor 0 = .ok (.iconst 0, 1) := by decide +kernel
theorem dX4_isBadFor_1 : decode cX4_isBadFor 1 = .ok (.istore_n 3, 1) := by decide +kernel
theorem dX4_isBadFor_2 : decode cX4_isBadFor 2 = .ok (.iconst 1, 1) := by decide +kernel
theorem dX4_isBadFor_3 : decode cX4_isBadFor 3 = .ok (.istore 4, 2) := by decide +kernel
theorem dX4_isBadFor_5 : decode cX4_isBadFor 5 = .ok (.iconst 0, 1) := by decide +kernel
theorem dX4_isBadFor_6 : decode cX4_isBadFor 6 = .ok (.istore 5, 2) := by decide +kernel
theorem dX4_isBadFor_8 : decode cX4_isBadFor 8 = .ok (.iload 5, 2) := by decide +kernel
theorem dX4_isBadFor_10 : decode cX4_isBadFor 10 = .ok (.aload_n 0, 1) := by decide +kernel
theorem dX4_isBadFor_11 : decode cX4_isBadFor 11 = .ok (.getfield 19, 3) := by decide +kernel
theorem dX4_isBadFor_14 : decode cX4_isBadFor 14 = .ok (.iload_n 1, 1) := by decide +kernel
theorem dX4_isBadFor_15 : decode cX4_isBadFor 15 = .ok (.iaload, 1) := by decide +kernel
theorem dX4_isBadFor_16 : decode cX4_isBadFor 16 = .ok (.if_icmp .ge 63, 3) := by decide +kernel
theorem dX4_isBadFor_19 : decode cX4_isBadFor 19 = .ok (.iload_n 3, 1) := by decide +kernel
theorem dX4_isBadFor_20 : decode cX4_isBadFor 20 = .ok (.ifCond .ne 14, 3) := by decide +kernel
theorem dX4_isBadFor_23 : decode cX4_isBadFor 23 = .ok (.aload_n 0, 1) := by decide +kernel
theorem dX4_isBadFor_24 : decode cX4_isBadFor 24 = .ok (.iload_n 1, 1) := by decide +kernel
theorem dX4_isBadFor_25 : decode cX4_isBadFor 25 = .ok (.iload 5, 2) := by decide +kernel
theorem dX4_isBadFor_27 : decode cX4_isBadFor 27 = .ok (.invokevirtual 97, 3) := by decide +kernel
theorem dX4_isBadFor_30 : decode cX4_isBadFor 30 = .ok (.iload_n 2, 1) := by decide +kernel
theorem dX4_isBadFor_31 : decode cX4_isBadFor 31 = .ok (.if_icmp .ne 7, 3) := by decide +kernel
theorem dX4_isBadFor_34 : decode cX4_isBadFor 34 = .ok (.iconst 1, 1) := by decide +kernel
theorem dX4_isBadFor_35 : decode cX4_isBadFor 35 = .ok (.goto 4, 3) := by decide +kernel
theorem dX4_isBadFor_38 : decode cX4_isBadFor 38 = .ok (.iconst 0, 1) := by decide +kernel
theorem dX4_isBadFor_39 : decode cX4_isBadFor 39 = .ok (.istore_n 3, 1) := by decide +kernel
theorem dX4_isBadFor_40 : decode cX4_isBadFor 40 = .ok (.iload 4, 2) := by decide +kernel
theorem dX4_isBadFor_42 : decode cX4_isBadFor 42 = .ok (.ifCond .eq 28, 3) := by decide +kernel
theorem dX4_isBadFor_45 : decode cX4_isBadFor 45 = .ok (.aload_n 0, 1) := by decide +kernel
theorem dX4_isBadFor_46 : decode cX4_isBadFor 46 = .ok (.iload_n 1, 1) := by decide +kernel
theorem dX4_isBadFor_47 : decode cX4_isBadFor 47 = .ok (.iload 5, 2) := by decide +kernel
theorem dX4_isBadFor_49 : decode cX4_isBadFor 49 = .ok (.invokevirtual 97, 3) := by decide +kernel
theorem dX4_isBadFor_52 : decode cX4_isBadFor 52 = .ok (.iload_n 2, 1) := by decide +kernel
theorem dX4_isBadFor_53 : decode cX4_isBadFor 53 = .ok (.if_icmp .ne 13, 3) := by decide +kernel
theorem dX4_isBadFor_56 : decode cX4_isBadFor 56 = .ok (.aload_n 0, 1) := by decide +kernel
theorem dX4_isBadFor_57 : decode cX4_isBadFor 57 = .ok (.iload_n 1, 1) := by decide +kernel
theorem dX4_isBadFor_58 : decode cX4_isBadFor 58 = .ok (.iload 5, 2) := by decide +kernel
theorem dX4_isBadFor_60 : decode cX4_isBadFor 60 = .ok (.invokevirtual 101, 3) := by decide +kernel
theorem dX4_isBadFor_63 : decode cX4_isBadFor 63 = .ok (.ifCond .ne 7, 3) := by decide +kernel
theorem dX4_isBadFor_66 : decode cX4_isBadFor 66 = .ok (.iconst 1, 1) := by decide +kernel
theorem dX4_isBadFor_67 : decode cX4_isBadFor 67 = .ok (.goto 4, 3) := by decide +kernel
theorem dX4_isBadFor_70 : decode cX4_isBadFor 70 = .ok (.iconst 0, 1) := by decide +kernel
theorem dX4_isBadFor_71 : decode cX4_isBadFor 71 = .ok (.istore 4, 2) := by decide +kernel
theorem dX4_isBadFor_73 : decode cX4_isBadFor 73 = .ok (.iinc 5 1, 3) := by decide +kernel
theorem dX4_isBadFor_76 : decode cX4_isBadFor 76 = .ok (.goto (-68), 3) := by decide +kernel
theorem dX4_isBadFor_79 : decode cX4_isBadFor 79 = .ok (.iload_n 3, 1) := by decide +kernel
theorem dX4_isBadFor_80 : decode cX4_isBadFor 80 = .ok (.ifCond .eq 12, 3) := by decide +kernel
theorem dX4_isBadFor_83 : decode cX4_isBadFor 83 = .ok (.iload 4, 2) := by decide +kernel
theorem dX4_isBadFor_85 : decode cX4_isBadFor 85 = .ok (.ifCond .eq 7, 3) := by decide +kernel
theorem dX4_isBadFor_88 : decode cX4_isBadFor 88 = .ok (.iconst 1, 1) := by decide +kernel
theorem dX4_isBadFor_89 : decode cX4_isBadFor 89 = .ok (.goto 4, 3) := by decide +kernel
theorem dX4_isBadFor_92 : decode cX4_isBadFor 92 = .ok (.iconst 0, 1) := by decide +kernel
theorem dX4_isBadFor_93 : decode cX4_isBadFor 93 = .ok (.ireturn, 1) := by decide +kernel
theorem dX4_throwsOf_0 : decode cX4_throwsOf 0 = .ok (.iconst 0, 1) := by decide +kernel
theorem dX4_throwsOf_1 : decode cX4_throwsOf 1 = .ok (.istore_n 2, 1) := by decide +kernel
theorem dX4_throwsOf_2 : decode cX4_throwsOf 2 = .ok (.iconst 0, 1) := by decide +kernel
theorem dX4_throwsOf_3 : decode cX4_throwsOf 3 = .ok (.istore_n 3, 1) := by decide +kernel
theorem dX4_throwsOf_4 : decode cX4_throwsOf 4 = .ok (.iload_n 3, 1) := by decide +kernel
theorem dX4_throwsOf_5 : decode cX4_throwsOf 5 = .ok (.aload_n 0, 1) := by decide +kernel
theorem dX4_throwsOf_6 : decode cX4_throwsOf 6 = .ok (.getfield 19, 3) := by decide +kernel
theorem dX4_throwsOf_9 : decode cX4_throwsOf 9 = .ok (.iload_n 1, 1) := by decide +kernel
theorem dX4_throwsOf_10 : decode cX4_throwsOf 10 = .ok (.iaload, 1) := by decide +kernel
theorem dX4_throwsOf_11 : decode cX4_throwsOf 11 = .ok (.if_icmp .ge 31, 3) := by decide +kernel
theorem dX4_throwsOf_14 : decode cX4_throwsOf 14 = .ok (.iload_n 2, 1) := by decide +kernel
theorem dX4_throwsOf_15 : decode cX4_throwsOf 15 = .ok (.aload_n 0, 1) := by decide +kernel
theorem dX4_throwsOf_16 : decode cX4_throwsOf 16 = .ok (.iload_n 1, 1) := by decide +kernel
theorem dX4_throwsOf_17 : decode cX4_throwsOf 17 = .ok (.aload_n 0, 1) := by decide +kernel
theorem dX4_throwsOf_18 : decode cX4_throwsOf 18 = .ok (.iload_n 1, 1) := by decide +kernel
theorem dX4_throwsOf_19 : decode cX4_throwsOf 19 = .ok (.iload_n 3, 1) := by decide +kernel
theorem dX4_throwsOf_20 : decode cX4_throwsOf 20 = .ok (.invokevirtual 97, 3) := by decide +kernel
theorem dX4_throwsOf_23 : decode cX4_throwsOf 23 = .ok (.invokevirtual 104, 3) := by decide +kernel
theorem dX4_throwsOf_26 : decode cX4_throwsOf 26 = .ok (.ifCond .eq 7, 3) := by decide +kernel
theorem dX4_throwsOf_29 : decode cX4_throwsOf 29 = .ok (.iconst 0, 1) := by decide +kernel
theorem dX4_throwsOf_30 : decode cX4_throwsOf 30 = .ok (.goto 4, 3) := by decide +kernel
theorem dX4_throwsOf_33 : decode cX4_throwsOf 33 = .ok (.iconst 1, 1) := by decide +kernel
theorem dX4_throwsOf_34 : decode cX4_throwsOf 34 = .ok (.iadd, 1) := by decide +kernel
theorem dX4_throwsOf_35 : decode cX4_throwsOf 35 = .ok (.istore_n 2, 1) := by decide +kernel
theorem dX4_throwsOf_36 : decode cX4_throwsOf 36 = .ok (.iinc 3 1, 3) := by decide +kernel
theorem dX4_throwsOf_39 : decode cX4_throwsOf 39 = .ok (.goto (-35), 3) := by decide +kernel
theorem dX4_throwsOf_42 : decode cX4_throwsOf 42 = .ok (.iload_n 2, 1) := by decide +kernel
theorem dX4_throwsOf_43 : decode cX4_throwsOf 43 = .ok (.ireturn, 1) := by decide +kernel
theorem dX4_hitsOf_0 : decode cX4_hitsOf 0 = .ok (.iconst 0, 1) := by decide +kernel
theorem dX4_hitsOf_1 : decode cX4_hitsOf 1 = .ok (.istore_n 2, 1) := by decide +kernel
theorem dX4_hitsOf_2 : decode cX4_hitsOf 2 = .ok (.iconst 0, 1) := by decide +kernel
theorem dX4_hitsOf_3 : decode cX4_hitsOf 3 = .ok (.istore_n 3, 1) := by decide +kernel
theorem dX4_hitsOf_4 : decode cX4_hitsOf 4 = .ok (.iload_n 3, 1) := by decide +kernel
theorem dX4_hitsOf_5 : decode cX4_hitsOf 5 = .ok (.aload_n 0, 1) := by decide +kernel
theorem dX4_hitsOf_6 : decode cX4_hitsOf 6 = .ok (.getfield 19, 3) := by decide +kernel
theorem dX4_hitsOf_9 : decode cX4_hitsOf 9 = .ok (.iload_n 1, 1) := by decide +kernel
theorem dX4_hitsOf_10 : decode cX4_hitsOf 10 = .ok (.iaload, 1) := by decide +kernel
theorem dX4_hitsOf_11 : decode cX4_hitsOf 11 = .ok (.if_icmp .ge 40, 3) := by decide +kernel
theorem dX4_hitsOf_14 : decode cX4_hitsOf 14 = .ok (.iload_n 2, 1) := by decide +kernel
theorem dX4_hitsOf_15 : decode cX4_hitsOf 15 = .ok (.aload_n 0, 1) := by decide +kernel
theorem dX4_hitsOf_16 : decode cX4_hitsOf 16 = .ok (.iload_n 1, 1) := by decide +kernel
theorem dX4_hitsOf_17 : decode cX4_hitsOf 17 = .ok (.aload_n 0, 1) := by decide +kernel
theorem dX4_hitsOf_18 : decode cX4_hitsOf 18 = .ok (.iload_n 1, 1) := by decide +kernel
theorem dX4_hitsOf_19 : decode cX4_hitsOf 19 = .ok (.iload_n 3, 1) := by decide +kernel
theorem dX4_hitsOf_20 : decode cX4_hitsOf 20 = .ok (.invokevirtual 97, 3) := by decide +kernel
theorem dX4_hitsOf_23 : decode cX4_hitsOf 23 = .ok (.invokevirtual 104, 3) := by decide +kernel
theorem dX4_hitsOf_26 : decode cX4_hitsOf 26 = .ok (.ifCond .ne 12, 3) := by decide +kernel
theorem dX4_hitsOf_29 : decode cX4_hitsOf 29 = .ok (.aload_n 0, 1) := by decide +kernel
theorem dX4_hitsOf_30 : decode cX4_hitsOf 30 = .ok (.iload_n 1, 1) := by decide +kernel
theorem dX4_hitsOf_31 : decode cX4_hitsOf 31 = .ok (.iload_n 3, 1) := by decide +kernel
theorem dX4_hitsOf_32 : decode cX4_hitsOf 32 = .ok (.invokevirtual 101, 3) := by decide +kernel
theorem dX4_hitsOf_35 : decode cX4_hitsOf 35 = .ok (.ifCond .eq 7, 3) := by decide +kernel
theorem dX4_hitsOf_38 : decode cX4_hitsOf 38 = .ok (.iconst 0, 1) := by decide +kernel
theorem dX4_hitsOf_39 : decode cX4_hitsOf 39 = .ok (.goto 4, 3) := by decide +kernel
theorem dX4_hitsOf_42 : decode cX4_hitsOf 42 = .ok (.iconst 1, 1) := by decide +kernel
theorem dX4_hitsOf_43 : decode cX4_hitsOf 43 = .ok (.iadd, 1) := by decide +kernel
theorem dX4_hitsOf_44 : decode cX4_hitsOf 44 = .ok (.istore_n 2, 1) := by decide +kernel
theorem dX4_hitsOf_45 : decode cX4_hitsOf 45 = .ok (.iinc 3 1, 3) := by decide +kernel
theorem dX4_hitsOf_48 : decode cX4_hitsOf 48 = .ok (.goto (-44), 3) := by decide +kernel
theorem dX4_hitsOf_51 : decode cX4_hitsOf 51 = .ok (.iload_n 2, 1) := by decide +kernel
theorem dX4_hitsOf_52 : decode cX4_hitsOf 52 = .ok (.ireturn, 1) := by decide +kernel
theorem dX4_doubtful_0 : decode cX4_doubtful 0 = .ok (.iconst 0, 1) := by decide +kernel
theorem dX4_doubtful_1 : decode cX4_doubtful 1 = .ok (.istore_n 2, 1) := by decide +kernel
theorem dX4_doubtful_2 : decode cX4_doubtful 2 = .ok (.iconst 0, 1) := by decide +kernel
theorem dX4_doubtful_3 : decode cX4_doubtful 3 = .ok (.istore_n 3, 1) := by decide +kernel
theorem dX4_doubtful_4 : decode cX4_doubtful 4 = .ok (.iload_n 3, 1) := by decide +kernel
theorem dX4_doubtful_5 : decode cX4_doubtful 5 = .ok (.aload_n 0, 1) := by decide +kernel
theorem dX4_doubtful_6 : decode cX4_doubtful 6 = .ok (.getfield 19, 3) := by decide +kernel
theorem dX4_doubtful_9 : decode cX4_doubtful 9 = .ok (.iload_n 1, 1) := by decide +kernel
theorem dX4_doubtful_10 : decode cX4_doubtful 10 = .ok (.iaload, 1) := by decide +kernel
theorem dX4_doubtful_11 : decode cX4_doubtful 11 = .ok (.if_icmp .ge 89, 3) := by decide +kernel
theorem dX4_doubtful_14 : decode cX4_doubtful 14 = .ok (.iconst 0, 1) := by decide +kernel
theorem dX4_doubtful_15 : decode cX4_doubtful 15 = .ok (.istore 4, 2) := by decide +kernel
theorem dX4_doubtful_17 : decode cX4_doubtful 17 = .ok (.iconst 0, 1) := by decide +kernel
theorem dX4_doubtful_18 : decode cX4_doubtful 18 = .ok (.istore 5, 2) := by decide +kernel
theorem dX4_doubtful_20 : decode cX4_doubtful 20 = .ok (.iload 5, 2) := by decide +kernel
theorem dX4_doubtful_22 : decode cX4_doubtful 22 = .ok (.aload_n 0, 1) := by decide +kernel
theorem dX4_doubtful_23 : decode cX4_doubtful 23 = .ok (.getfield 19, 3) := by decide +kernel
theorem dX4_doubtful_26 : decode cX4_doubtful 26 = .ok (.iload_n 1, 1) := by decide +kernel
theorem dX4_doubtful_27 : decode cX4_doubtful 27 = .ok (.iaload, 1) := by decide +kernel
theorem dX4_doubtful_28 : decode cX4_doubtful 28 = .ok (.if_icmp .ge 53, 3) := by decide +kernel
theorem dX4_doubtful_31 : decode cX4_doubtful 31 = .ok (.iload 4, 2) := by decide +kernel
theorem dX4_doubtful_33 : decode cX4_doubtful 33 = .ok (.ifCond .ne 35, 3) := by decide +kernel
theorem dX4_doubtful_36 : decode cX4_doubtful 36 = .ok (.aload_n 0, 1) := by decide +kernel
theorem dX4_doubtful_37 : decode cX4_doubtful 37 = .ok (.iload_n 1, 1) := by decide +kernel
theorem dX4_doubtful_38 : decode cX4_doubtful 38 = .ok (.iload 5, 2) := by decide +kernel
theorem dX4_doubtful_40 : decode cX4_doubtful 40 = .ok (.invokevirtual 97, 3) := by decide +kernel
theorem dX4_doubtful_43 : decode cX4_doubtful 43 = .ok (.aload_n 0, 1) := by decide +kernel
theorem dX4_doubtful_44 : decode cX4_doubtful 44 = .ok (.iload_n 1, 1) := by decide +kernel
theorem dX4_doubtful_45 : decode cX4_doubtful 45 = .ok (.iload_n 3, 1) := by decide +kernel
theorem dX4_doubtful_46 : decode cX4_doubtful 46 = .ok (.invokevirtual 97, 3) := by decide +kernel
theorem dX4_doubtful_49 : decode cX4_doubtful 49 = .ok (.if_icmp .ne 23, 3) := by decide +kernel
theorem dX4_doubtful_52 : decode cX4_doubtful 52 = .ok (.aload_n 0, 1) := by decide +kernel
theorem dX4_doubtful_53 : decode cX4_doubtful 53 = .ok (.iload_n 1, 1) := by decide +kernel
theorem dX4_doubtful_54 : decode cX4_doubtful 54 = .ok (.iload 5, 2) := by decide +kernel
theorem dX4_doubtful_56 : decode cX4_doubtful 56 = .ok (.invokevirtual 101, 3) := by decide +kernel
theorem dX4_doubtful_59 : decode cX4_doubtful 59 = .ok (.aload_n 0, 1) := by decide +kernel
theorem dX4_doubtful_60 : decode cX4_doubtful 60 = .ok (.iload_n 1, 1) := by decide +kernel
theorem dX4_doubtful_61 : decode cX4_doubtful 61 = .ok (.iload_n 3, 1) := by decide +kernel
theorem dX4_doubtful_62 : decode cX4_doubtful 62 = .ok (.invokevirtual 101, 3) := by decide +kernel
theorem dX4_doubtful_65 : decode cX4_doubtful 65 = .ok (.if_icmp .eq 7, 3) := by decide +kernel
theorem dX4_doubtful_68 : decode cX4_doubtful 68 = .ok (.iconst 1, 1) := by decide +kernel
theorem dX4_doubtful_69 : decode cX4_doubtful 69 = .ok (.goto 4, 3) := by decide +kernel
theorem dX4_doubtful_72 : decode cX4_doubtful 72 = .ok (.iconst 0, 1) := by decide +kernel
theorem dX4_doubtful_73 : decode cX4_doubtful 73 = .ok (.istore 4, 2) := by decide +kernel
theorem dX4_doubtful_75 : decode cX4_doubtful 75 = .ok (.iinc 5 1, 3) := by decide +kernel
theorem dX4_doubtful_78 : decode cX4_doubtful 78 = .ok (.goto (-58), 3) := by decide +kernel
theorem dX4_doubtful_81 : decode cX4_doubtful 81 = .ok (.iload_n 2, 1) := by decide +kernel
theorem dX4_doubtful_82 : decode cX4_doubtful 82 = .ok (.iload 4, 2) := by decide +kernel
theorem dX4_doubtful_84 : decode cX4_doubtful 84 = .ok (.ifCond .eq 7, 3) := by decide +kernel
theorem dX4_doubtful_87 : decode cX4_doubtful 87 = .ok (.iconst 1, 1) := by decide +kernel
theorem dX4_doubtful_88 : decode cX4_doubtful 88 = .ok (.goto 4, 3) := by decide +kernel
theorem dX4_doubtful_91 : decode cX4_doubtful 91 = .ok (.iconst 0, 1) := by decide +kernel
theorem dX4_doubtful_92 : decode cX4_doubtful 92 = .ok (.iadd, 1) := by decide +kernel
theorem dX4_doubtful_93 : decode cX4_doubtful 93 = .ok (.istore_n 2, 1) := by decide +kernel
theorem dX4_doubtful_94 : decode cX4_doubtful 94 = .ok (.iinc 3 1, 3) := by decide +kernel
theorem dX4_doubtful_97 : decode cX4_doubtful 97 = .ok (.goto (-93), 3) := by decide +kernel
theorem dX4_doubtful_100 : decode cX4_doubtful 100 = .ok (.iload_n 2, 1) := by decide +kernel
theorem dX4_doubtful_101 : decode cX4_doubtful 101 = .ok (.ireturn, 1) := by decide +kernel
theorem dX4_runs_0 : decode cX4_runs 0 = .ok (.aload_n 0, 1) := by decide +kernel
theorem dX4_runs_1 : decode cX4_runs 1 = .ok (.getfield 19, 3) := by decide +kernel
theorem dX4_runs_4 : decode cX4_runs 4 = .ok (.iload_n 1, 1) := by decide +kernel
theorem dX4_runs_5 : decode cX4_runs 5 = .ok (.iaload, 1) := by decide +kernel
theorem dX4_runs_6 : decode cX4_runs 6 = .ok (.bipush 48, 2) := by decide +kernel
theorem dX4_runs_8 : decode cX4_runs 8 = .ok (.if_icmp .ne 55, 3) := by decide +kernel
theorem dX4_runs_11 : decode cX4_runs 11 = .ok (.iconst 1, 1) := by decide +kernel
theorem dX4_runs_12 : decode cX4_runs 12 = .ok (.istore 4, 2) := by decide +kernel
theorem dX4_runs_14 : decode cX4_runs 14 = .ok (.iload 4, 2) := by decide +kernel
theorem dX4_runs_16 : decode cX4_runs 16 = .ok (.bipush 48, 2) := by decide +kernel
theorem dX4_runs_18 : decode cX4_runs 18 = .ok (.if_icmp .ge 35, 3) := by decide +kernel
theorem dX4_runs_21 : decode cX4_runs 21 = .ok (.aload_n 0, 1) := by decide +kernel
theorem dX4_runs_22 : decode cX4_runs 22 = .ok (.getfield 23, 3) := by decide +kernel
theorem dX4_runs_25 : decode cX4_runs 25 = .ok (.bipush 48, 2) := by decide +kernel
theorem dX4_runs_27 : decode cX4_runs 27 = .ok (.iload_n 1, 1) := by decide +kernel
theorem dX4_runs_28 : decode cX4_runs 28 = .ok (.imul, 1) := by decide +kernel
theorem dX4_runs_29 : decode cX4_runs 29 = .ok (.iload 4, 2) := by decide +kernel
theorem dX4_runs_31 : decode cX4_runs 31 = .ok (.iadd, 1) := by decide +kernel
theorem dX4_runs_32 : decode cX4_runs 32 = .ok (.iconst 1, 1) := by decide +kernel
theorem dX4_runs_33 : decode cX4_runs 33 = .ok (.isub, 1) := by decide +kernel
theorem dX4_runs_34 : decode cX4_runs 34 = .ok (.aload_n 0, 1) := by decide +kernel
theorem dX4_runs_35 : decode cX4_runs 35 = .ok (.getfield 23, 3) := by decide +kernel
theorem dX4_runs_38 : decode cX4_runs 38 = .ok (.bipush 48, 2) := by decide +kernel
theorem dX4_runs_40 : decode cX4_runs 40 = .ok (.iload_n 1, 1) := by decide +kernel
theorem dX4_runs_41 : decode cX4_runs 41 = .ok (.imul, 1) := by decide +kernel
theorem dX4_runs_42 : decode cX4_runs 42 = .ok (.iload 4, 2) := by decide +kernel
theorem dX4_runs_44 : decode cX4_runs 44 = .ok (.iadd, 1) := by decide +kernel
theorem dX4_runs_45 : decode cX4_runs 45 = .ok (.iaload, 1) := by decide +kernel
theorem dX4_runs_46 : decode cX4_runs 46 = .ok (.iastore, 1) := by decide +kernel
theorem dX4_runs_47 : decode cX4_runs 47 = .ok (.iinc 4 1, 3) := by decide +kernel
theorem dX4_runs_50 : decode cX4_runs 50 = .ok (.goto (-36), 3) := by decide +kernel
theorem dX4_runs_53 : decode cX4_runs 53 = .ok (.aload_n 0, 1) := by decide +kernel
theorem dX4_runs_54 : decode cX4_runs 54 = .ok (.getfield 19, 3) := by decide +kernel
theorem dX4_runs_57 : decode cX4_runs 57 = .ok (.iload_n 1, 1) := by decide +kernel
theorem dX4_runs_58 : decode cX4_runs 58 = .ok (.dup2, 1) := by decide +kernel
theorem dX4_runs_59 : decode cX4_runs 59 = .ok (.iaload, 1) := by decide +kernel
theorem dX4_runs_60 : decode cX4_runs 60 = .ok (.iconst 1, 1) := by decide +kernel
theorem dX4_runs_61 : decode cX4_runs 61 = .ok (.isub, 1) := by decide +kernel
theorem dX4_runs_62 : decode cX4_runs 62 = .ok (.iastore, 1) := by decide +kernel
theorem dX4_runs_63 : decode cX4_runs 63 = .ok (.aload_n 0, 1) := by decide +kernel
theorem dX4_runs_64 : decode cX4_runs 64 = .ok (.getfield 23, 3) := by decide +kernel
theorem dX4_runs_67 : decode cX4_runs 67 = .ok (.bipush 48, 2) := by decide +kernel
theorem dX4_runs_69 : decode cX4_runs 69 = .ok (.iload_n 1, 1) := by decide +kernel
theorem dX4_runs_70 : decode cX4_runs 70 = .ok (.imul, 1) := by decide +kernel
theorem dX4_runs_71 : decode cX4_runs 71 = .ok (.aload_n 0, 1) := by decide +kernel
theorem dX4_runs_72 : decode cX4_runs 72 = .ok (.getfield 19, 3) := by decide +kernel
theorem dX4_runs_75 : decode cX4_runs 75 = .ok (.iload_n 1, 1) := by decide +kernel
theorem dX4_runs_76 : decode cX4_runs 76 = .ok (.iaload, 1) := by decide +kernel
theorem dX4_runs_77 : decode cX4_runs 77 = .ok (.iadd, 1) := by decide +kernel
theorem dX4_runs_78 : decode cX4_runs 78 = .ok (.iconst 2, 1) := by decide +kernel
theorem dX4_runs_79 : decode cX4_runs 79 = .ok (.iload_n 2, 1) := by decide +kernel
theorem dX4_runs_80 : decode cX4_runs 80 = .ok (.imul, 1) := by decide +kernel
theorem dX4_runs_81 : decode cX4_runs 81 = .ok (.iload_n 3, 1) := by decide +kernel
theorem dX4_runs_82 : decode cX4_runs 82 = .ok (.ifCond .eq 7, 3) := by decide +kernel
theorem dX4_runs_85 : decode cX4_runs 85 = .ok (.iconst 1, 1) := by decide +kernel
theorem dX4_runs_86 : decode cX4_runs 86 = .ok (.goto 4, 3) := by decide +kernel
theorem dX4_runs_89 : decode cX4_runs 89 = .ok (.iconst 0, 1) := by decide +kernel
theorem dX4_runs_90 : decode cX4_runs 90 = .ok (.iadd, 1) := by decide +kernel
theorem dX4_runs_91 : decode cX4_runs 91 = .ok (.iastore, 1) := by decide +kernel
theorem dX4_runs_92 : decode cX4_runs 92 = .ok (.aload_n 0, 1) := by decide +kernel
theorem dX4_runs_93 : decode cX4_runs 93 = .ok (.getfield 19, 3) := by decide +kernel
theorem dX4_runs_96 : decode cX4_runs 96 = .ok (.iload_n 1, 1) := by decide +kernel
theorem dX4_runs_97 : decode cX4_runs 97 = .ok (.dup2, 1) := by decide +kernel
theorem dX4_runs_98 : decode cX4_runs 98 = .ok (.iaload, 1) := by decide +kernel
theorem dX4_runs_99 : decode cX4_runs 99 = .ok (.iconst 1, 1) := by decide +kernel
theorem dX4_runs_100 : decode cX4_runs 100 = .ok (.iadd, 1) := by decide +kernel
theorem dX4_runs_101 : decode cX4_runs 101 = .ok (.iastore, 1) := by decide +kernel
theorem dX4_runs_102 : decode cX4_runs 102 = .ok (.aload_n 0, 1) := by decide +kernel
theorem dX4_runs_103 : decode cX4_runs 103 = .ok (.getfield 26, 3) := by decide +kernel
theorem dX4_runs_106 : decode cX4_runs 106 = .ok (.iload_n 1, 1) := by decide +kernel
theorem dX4_runs_107 : decode cX4_runs 107 = .ok (.baload, 1) := by decide +kernel
theorem dX4_runs_108 : decode cX4_runs 108 = .ok (.ifCond .eq 34, 3) := by decide +kernel
theorem dX4_runs_111 : decode cX4_runs 111 = .ok (.aload_n 0, 1) := by decide +kernel
theorem dX4_runs_112 : decode cX4_runs 112 = .ok (.getfield 26, 3) := by decide +kernel
theorem dX4_runs_115 : decode cX4_runs 115 = .ok (.iload_n 1, 1) := by decide +kernel
theorem dX4_runs_116 : decode cX4_runs 116 = .ok (.aload_n 0, 1) := by decide +kernel
theorem dX4_runs_117 : decode cX4_runs 117 = .ok (.iload_n 1, 1) := by decide +kernel
theorem dX4_runs_118 : decode cX4_runs 118 = .ok (.aload_n 0, 1) := by decide +kernel
theorem dX4_runs_119 : decode cX4_runs 119 = .ok (.getfield 7, 3) := by decide +kernel
theorem dX4_runs_122 : decode cX4_runs 122 = .ok (.iconst 1, 1) := by decide +kernel
theorem dX4_runs_123 : decode cX4_runs 123 = .ok (.invokevirtual 107, 3) := by decide +kernel
theorem dX4_runs_126 : decode cX4_runs 126 = .ok (.aload_n 0, 1) := by decide +kernel
theorem dX4_runs_127 : decode cX4_runs 127 = .ok (.getfield 16, 3) := by decide +kernel
theorem dX4_runs_130 : decode cX4_runs 130 = .ok (.if_icmp .lt 7, 3) := by decide +kernel
theorem dX4_runs_133 : decode cX4_runs 133 = .ok (.iconst 1, 1) := by decide +kernel
theorem dX4_runs_134 : decode cX4_runs 134 = .ok (.goto 4, 3) := by decide +kernel
theorem dX4_runs_137 : decode cX4_runs 137 = .ok (.iconst 0, 1) := by decide +kernel
theorem dX4_runs_138 : decode cX4_runs 138 = .ok (.bastore, 1) := by decide +kernel
theorem dX4_runs_139 : decode cX4_runs 139 = .ok (.goto 37, 3) := by decide +kernel
theorem dX4_runs_142 : decode cX4_runs 142 = .ok (.aload_n 0, 1) := by decide +kernel
theorem dX4_runs_143 : decode cX4_runs 143 = .ok (.iload_n 1, 1) := by decide +kernel
theorem dX4_runs_144 : decode cX4_runs 144 = .ok (.aload_n 0, 1) := by decide +kernel
theorem dX4_runs_145 : decode cX4_runs 145 = .ok (.getfield 7, 3) := by decide +kernel
theorem dX4_runs_148 : decode cX4_runs 148 = .ok (.iconst 0, 1) := by decide +kernel
theorem dX4_runs_149 : decode cX4_runs 149 = .ok (.invokevirtual 107, 3) := by decide +kernel
theorem dX4_runs_152 : decode cX4_runs 152 = .ok (.aload_n 0, 1) := by decide +kernel
theorem dX4_runs_153 : decode cX4_runs 153 = .ok (.getfield 13, 3) := by decide +kernel
theorem dX4_runs_156 : decode cX4_runs 156 = .ok (.if_icmp .le 20, 3) := by decide +kernel
theorem dX4_runs_159 : decode cX4_runs 159 = .ok (.aload_n 0, 1) := by decide +kernel
theorem dX4_runs_160 : decode cX4_runs 160 = .ok (.getfield 26, 3) := by decide +kernel
theorem dX4_runs_163 : decode cX4_runs 163 = .ok (.iload_n 1, 1) := by decide +kernel
theorem dX4_runs_164 : decode cX4_runs 164 = .ok (.iconst 1, 1) := by decide +kernel
theorem dX4_runs_165 : decode cX4_runs 165 = .ok (.bastore, 1) := by decide +kernel
theorem dX4_runs_166 : decode cX4_runs 166 = .ok (.aload_n 0, 1) := by decide +kernel
theorem dX4_runs_167 : decode cX4_runs 167 = .ok (.getfield 30, 3) := by decide +kernel
theorem dX4_runs_170 : decode cX4_runs 170 = .ok (.iload_n 1, 1) := by decide +kernel
theorem dX4_runs_171 : decode cX4_runs 171 = .ok (.dup2, 1) := by decide +kernel
theorem dX4_runs_172 : decode cX4_runs 172 = .ok (.iaload, 1) := by decide +kernel
theorem dX4_runs_173 : decode cX4_runs 173 = .ok (.iconst 1, 1) := by decide +kernel
theorem dX4_runs_174 : decode cX4_runs 174 = .ok (.iadd, 1) := by decide +kernel
theorem dX4_runs_175 : decode cX4_runs 175 = .ok (.iastore, 1) := by decide +kernel
theorem dX4_runs_176 : decode cX4_runs 176 = .ok (.return_, 1) := by decide +kernel
theorem dX4_test_0 : decode cX4_test 0 = .ok (.aload_n 0, 1) := by decide +kernel
theorem dX4_test_1 : decode cX4_test 1 = .ok (.iconst 0, 1) := by decide +kernel
theorem dX4_test_2 : decode cX4_test 2 = .ok (.putfield 49, 3) := by decide +kernel
theorem dX4_test_5 : decode cX4_test 5 = .ok (.aload_n 0, 1) := by decide +kernel
theorem dX4_test_6 : decode cX4_test 6 = .ok (.getfield 52, 3) := by decide +kernel
theorem dX4_test_9 : decode cX4_test 9 = .ok (.bipush 12, 2) := by decide +kernel
theorem dX4_test_11 : decode cX4_test 11 = .ok (.if_icmp .ne 5, 3) := by decide +kernel
theorem dX4_test_14 : decode cX4_test 14 = .ok (.iconst (-1), 1) := by decide +kernel
theorem dX4_test_15 : decode cX4_test 15 = .ok (.ireturn, 1) := by decide +kernel
theorem dX4_test_16 : decode cX4_test 16 = .ok (.aload_n 0, 1) := by decide +kernel
theorem dX4_test_17 : decode cX4_test 17 = .ok (.getfield 33, 3) := by decide +kernel
theorem dX4_test_20 : decode cX4_test 20 = .ok (.aload_n 0, 1) := by decide +kernel
theorem dX4_test_21 : decode cX4_test 21 = .ok (.getfield 52, 3) := by decide +kernel
theorem dX4_test_24 : decode cX4_test 24 = .ok (.iconst (-1), 1) := by decide +kernel
theorem dX4_test_25 : decode cX4_test 25 = .ok (.iastore, 1) := by decide +kernel
theorem dX4_test_26 : decode cX4_test 26 = .ok (.aload_n 0, 1) := by decide +kernel
theorem dX4_test_27 : decode cX4_test 27 = .ok (.dup, 1) := by decide +kernel
theorem dX4_test_28 : decode cX4_test 28 = .ok (.getfield 52, 3) := by decide +kernel
theorem dX4_test_31 : decode cX4_test 31 = .ok (.iconst 1, 1) := by decide +kernel
theorem dX4_test_32 : decode cX4_test 32 = .ok (.iadd, 1) := by decide +kernel
theorem dX4_test_33 : decode cX4_test 33 = .ok (.putfield 52, 3) := by decide +kernel
theorem dX4_test_36 : decode cX4_test 36 = .ok (.aload_n 0, 1) := by decide +kernel
theorem dX4_test_37 : decode cX4_test 37 = .ok (.getfield 52, 3) := by decide +kernel
theorem dX4_test_40 : decode cX4_test 40 = .ok (.iconst 1, 1) := by decide +kernel
theorem dX4_test_41 : decode cX4_test 41 = .ok (.isub, 1) := by decide +kernel
theorem dX4_test_42 : decode cX4_test 42 = .ok (.ireturn, 1) := by decide +kernel
theorem dX4_rules_0 : decode cX4_rules 0 = .ok (.aload_n 0, 1) := by decide +kernel
theorem dX4_rules_1 : decode cX4_rules 1 = .ok (.iconst 0, 1) := by decide +kernel
theorem dX4_rules_2 : decode cX4_rules 2 = .ok (.putfield 49, 3) := by decide +kernel
theorem dX4_rules_5 : decode cX4_rules 5 = .ok (.iload_n 1, 1) := by decide +kernel
theorem dX4_rules_6 : decode cX4_rules 6 = .ok (.iconst 1, 1) := by decide +kernel
theorem dX4_rules_7 : decode cX4_rules 7 = .ok (.if_icmp .lt 30, 3) := by decide +kernel
theorem dX4_rules_10 : decode cX4_rules 10 = .ok (.iload_n 1, 1) := by decide +kernel
theorem dX4_rules_11 : decode cX4_rules 11 = .ok (.sipush 999, 3) := by decide +kernel
theorem dX4_rules_14 : decode cX4_rules 14 = .ok (.if_icmp .gt 23, 3) := by decide +kernel
theorem dX4_rules_17 : decode cX4_rules 17 = .ok (.iload_n 2, 1) := by decide +kernel
theorem dX4_rules_18 : decode cX4_rules 18 = .ok (.ifCond .lt 19, 3) := by decide +kernel
theorem dX4_rules_21 : decode cX4_rules 21 = .ok (.iload_n 2, 1) := by decide +kernel
theorem dX4_rules_22 : decode cX4_rules 22 = .ok (.sipush 1000, 3) := by decide +kernel
theorem dX4_rules_25 : decode cX4_rules 25 = .ok (.if_icmp .gt 12, 3) := by decide +kernel
theorem dX4_rules_28 : decode cX4_rules 28 = .ok (.iload_n 3, 1) := by decide +kernel
theorem dX4_rules_29 : decode cX4_rules 29 = .ok (.ifCond .lt 8, 3) := by decide +kernel
theorem dX4_rules_32 : decode cX4_rules 32 = .ok (.iload_n 3, 1) := by decide +kernel
theorem dX4_rules_33 : decode cX4_rules 33 = .ok (.iload_n 2, 1) := by decide +kernel
theorem dX4_rules_34 : decode cX4_rules 34 = .ok (.if_icmp .le 5, 3) := by decide +kernel
theorem dX4_rules_37 : decode cX4_rules 37 = .ok (.iconst 0, 1) := by decide +kernel
theorem dX4_rules_38 : decode cX4_rules 38 = .ok (.ireturn, 1) := by decide +kernel
theorem dX4_rules_39 : decode cX4_rules 39 = .ok (.aload_n 0, 1) := by decide +kernel
theorem dX4_rules_40 : decode cX4_rules 40 = .ok (.iload_n 1, 1) := by decide +kernel
theorem dX4_rules_41 : decode cX4_rules 41 = .ok (.putfield 7, 3) := by decide +kernel
theorem dX4_rules_44 : decode cX4_rules 44 = .ok (.aload_n 0, 1) := by decide +kernel
theorem dX4_rules_45 : decode cX4_rules 45 = .ok (.iload_n 2, 1) := by decide +kernel
theorem dX4_rules_46 : decode cX4_rules 46 = .ok (.putfield 13, 3) := by decide +kernel
theorem dX4_rules_49 : decode cX4_rules 49 = .ok (.aload_n 0, 1) := by decide +kernel
theorem dX4_rules_50 : decode cX4_rules 50 = .ok (.iload_n 3, 1) := by decide +kernel
theorem dX4_rules_51 : decode cX4_rules 51 = .ok (.putfield 16, 3) := by decide +kernel
theorem dX4_rules_54 : decode cX4_rules 54 = .ok (.iconst 1, 1) := by decide +kernel
theorem dX4_rules_55 : decode cX4_rules 55 = .ok (.ireturn, 1) := by decide +kernel
theorem dX4_run_0 : decode cX4_run 0 = .ok (.aload_n 0, 1) := by decide +kernel
theorem dX4_run_1 : decode cX4_run 1 = .ok (.iconst 0, 1) := by decide +kernel
theorem dX4_run_2 : decode cX4_run 2 = .ok (.putfield 49, 3) := by decide +kernel
theorem dX4_run_5 : decode cX4_run 5 = .ok (.aload_n 0, 1) := by decide +kernel
theorem dX4_run_6 : decode cX4_run 6 = .ok (.iload_n 1, 1) := by decide +kernel
theorem dX4_run_7 : decode cX4_run 7 = .ok (.invokevirtual 111, 3) := by decide +kernel
theorem dX4_run_10 : decode cX4_run 10 = .ok (.ifCond .eq 10, 3) := by decide +kernel
theorem dX4_run_13 : decode cX4_run 13 = .ok (.iload_n 2, 1) := by decide +kernel
theorem dX4_run_14 : decode cX4_run 14 = .ok (.invokestatic 115, 3) := by decide +kernel
theorem dX4_run_17 : decode cX4_run 17 = .ok (.ifCond .ne 5, 3) := by decide +kernel
theorem dX4_run_20 : decode cX4_run 20 = .ok (.iconst 0, 1) := by decide +kernel
theorem dX4_run_21 : decode cX4_run 21 = .ok (.ireturn, 1) := by decide +kernel
theorem dX4_run_22 : decode cX4_run 22 = .ok (.aload_n 0, 1) := by decide +kernel
theorem dX4_run_23 : decode cX4_run 23 = .ok (.iload_n 1, 1) := by decide +kernel
theorem dX4_run_24 : decode cX4_run 24 = .ok (.iload_n 2, 1) := by decide +kernel
theorem dX4_run_25 : decode cX4_run 25 = .ok (.iload_n 3, 1) := by decide +kernel
theorem dX4_run_26 : decode cX4_run 26 = .ok (.invokevirtual 118, 3) := by decide +kernel
theorem dX4_run_29 : decode cX4_run 29 = .ok (.iconst 1, 1) := by decide +kernel
theorem dX4_run_30 : decode cX4_run 30 = .ok (.ireturn, 1) := by decide +kernel
theorem dX4_judge_0 : decode cX4_judge 0 = .ok (.aload_n 0, 1) := by decide +kernel
theorem dX4_judge_1 : decode cX4_judge 1 = .ok (.iconst 0, 1) := by decide +kernel
theorem dX4_judge_2 : decode cX4_judge 2 = .ok (.putfield 49, 3) := by decide +kernel
theorem dX4_judge_5 : decode cX4_judge 5 = .ok (.aload_n 0, 1) := by decide +kernel
theorem dX4_judge_6 : decode cX4_judge 6 = .ok (.iload_n 1, 1) := by decide +kernel
theorem dX4_judge_7 : decode cX4_judge 7 = .ok (.invokevirtual 111, 3) := by decide +kernel
theorem dX4_judge_10 : decode cX4_judge 10 = .ok (.ifCond .eq 10, 3) := by decide +kernel
theorem dX4_judge_13 : decode cX4_judge 13 = .ok (.iload_n 2, 1) := by decide +kernel
theorem dX4_judge_14 : decode cX4_judge 14 = .ok (.invokestatic 115, 3) := by decide +kernel
theorem dX4_judge_17 : decode cX4_judge 17 = .ok (.ifCond .ne 5, 3) := by decide +kernel
theorem dX4_judge_20 : decode cX4_judge 20 = .ok (.iconst (-1), 1) := by decide +kernel
theorem dX4_judge_21 : decode cX4_judge 21 = .ok (.ireturn, 1) := by decide +kernel
theorem dX4_judge_22 : decode cX4_judge 22 = .ok (.aload_n 0, 1) := by decide +kernel
theorem dX4_judge_23 : decode cX4_judge 23 = .ok (.getfield 26, 3) := by decide +kernel
theorem dX4_judge_26 : decode cX4_judge 26 = .ok (.iload_n 1, 1) := by decide +kernel
theorem dX4_judge_27 : decode cX4_judge 27 = .ok (.baload, 1) := by decide +kernel
theorem dX4_judge_28 : decode cX4_judge 28 = .ok (.istore 4, 2) := by decide +kernel
theorem dX4_judge_30 : decode cX4_judge 30 = .ok (.aload_n 0, 1) := by decide +kernel
theorem dX4_judge_31 : decode cX4_judge 31 = .ok (.getfield 33, 3) := by decide +kernel
theorem dX4_judge_34 : decode cX4_judge 34 = .ok (.iload_n 1, 1) := by decide +kernel
theorem dX4_judge_35 : decode cX4_judge 35 = .ok (.iaload, 1) := by decide +kernel
theorem dX4_judge_36 : decode cX4_judge 36 = .ok (.iload_n 2, 1) := by decide +kernel
theorem dX4_judge_37 : decode cX4_judge 37 = .ok (.if_icmp .ne 12, 3) := by decide +kernel
theorem dX4_judge_40 : decode cX4_judge 40 = .ok (.aload_n 0, 1) := by decide +kernel
theorem dX4_judge_41 : decode cX4_judge 41 = .ok (.getfield 36, 3) := by decide +kernel
theorem dX4_judge_44 : decode cX4_judge 44 = .ok (.iload_n 1, 1) := by decide +kernel
theorem dX4_judge_45 : decode cX4_judge 45 = .ok (.iaload, 1) := by decide +kernel
theorem dX4_judge_46 : decode cX4_judge 46 = .ok (.goto 4, 3) := by decide +kernel
theorem dX4_judge_49 : decode cX4_judge 49 = .ok (.iconst 0, 1) := by decide +kernel
theorem dX4_judge_50 : decode cX4_judge 50 = .ok (.istore 5, 2) := by decide +kernel
theorem dX4_judge_52 : decode cX4_judge 52 = .ok (.aload_n 0, 1) := by decide +kernel
theorem dX4_judge_53 : decode cX4_judge 53 = .ok (.iload_n 1, 1) := by decide +kernel
theorem dX4_judge_54 : decode cX4_judge 54 = .ok (.iload_n 2, 1) := by decide +kernel
theorem dX4_judge_55 : decode cX4_judge 55 = .ok (.iload_n 3, 1) := by decide +kernel
theorem dX4_judge_56 : decode cX4_judge 56 = .ok (.invokevirtual 118, 3) := by decide +kernel
theorem dX4_judge_59 : decode cX4_judge 59 = .ok (.iload 5, 2) := by decide +kernel
theorem dX4_judge_61 : decode cX4_judge 61 = .ok (.iload_n 3, 1) := by decide +kernel
theorem dX4_judge_62 : decode cX4_judge 62 = .ok (.ifCond .eq 7, 3) := by decide +kernel
theorem dX4_judge_65 : decode cX4_judge 65 = .ok (.iconst 0, 1) := by decide +kernel
theorem dX4_judge_66 : decode cX4_judge 66 = .ok (.goto 4, 3) := by decide +kernel
theorem dX4_judge_69 : decode cX4_judge 69 = .ok (.iconst 1, 1) := by decide +kernel
theorem dX4_judge_70 : decode cX4_judge 70 = .ok (.iadd, 1) := by decide +kernel
theorem dX4_judge_71 : decode cX4_judge 71 = .ok (.istore 6, 2) := by decide +kernel
theorem dX4_judge_73 : decode cX4_judge 73 = .ok (.iload_n 3, 1) := by decide +kernel
theorem dX4_judge_74 : decode cX4_judge 74 = .ok (.ifCond .eq 16, 3) := by decide +kernel
theorem dX4_judge_77 : decode cX4_judge 77 = .ok (.iload 5, 2) := by decide +kernel
theorem dX4_judge_79 : decode cX4_judge 79 = .ok (.ifCond .ne 7, 3) := by decide +kernel
theorem dX4_judge_82 : decode cX4_judge 82 = .ok (.iconst 1, 1) := by decide +kernel
theorem dX4_judge_83 : decode cX4_judge 83 = .ok (.goto 36, 3) := by decide +kernel
theorem dX4_judge_86 : decode cX4_judge 86 = .ok (.iconst 2, 1) := by decide +kernel
theorem dX4_judge_87 : decode cX4_judge 87 = .ok (.goto 32, 3) := by decide +kernel
theorem dX4_judge_90 : decode cX4_judge 90 = .ok (.iload 6, 2) := by decide +kernel
theorem dX4_judge_92 : decode cX4_judge 92 = .ok (.iload 4, 2) := by decide +kernel
theorem dX4_judge_94 : decode cX4_judge 94 = .ok (.ifCond .eq 7, 3) := by decide +kernel
theorem dX4_judge_97 : decode cX4_judge 97 = .ok (.iconst 3, 1) := by decide +kernel
theorem dX4_judge_98 : decode cX4_judge 98 = .ok (.goto 4, 3) := by decide +kernel
theorem dX4_judge_101 : decode cX4_judge 101 = .ok (.iconst 1, 1) := by decide +kernel
theorem dX4_judge_102 : decode cX4_judge 102 = .ok (.if_icmp .ge 7, 3) := by decide +kernel
theorem dX4_judge_105 : decode cX4_judge 105 = .ok (.iconst 0, 1) := by decide +kernel
theorem dX4_judge_106 : decode cX4_judge 106 = .ok (.goto 13, 3) := by decide +kernel
theorem dX4_judge_109 : decode cX4_judge 109 = .ok (.iload 4, 2) := by decide +kernel
theorem dX4_judge_111 : decode cX4_judge 111 = .ok (.ifCond .eq 7, 3) := by decide +kernel
theorem dX4_judge_114 : decode cX4_judge 114 = .ok (.iconst 4, 1) := by decide +kernel
theorem dX4_judge_115 : decode cX4_judge 115 = .ok (.goto 4, 3) := by decide +kernel
theorem dX4_judge_118 : decode cX4_judge 118 = .ok (.iconst 3, 1) := by decide +kernel
theorem dX4_judge_119 : decode cX4_judge 119 = .ok (.istore 7, 2) := by decide +kernel
theorem dX4_judge_121 : decode cX4_judge 121 = .ok (.aload_n 0, 1) := by decide +kernel
theorem dX4_judge_122 : decode cX4_judge 122 = .ok (.getfield 33, 3) := by decide +kernel
theorem dX4_judge_125 : decode cX4_judge 125 = .ok (.iload_n 1, 1) := by decide +kernel
theorem dX4_judge_126 : decode cX4_judge 126 = .ok (.iload 7, 2) := by decide +kernel
theorem dX4_judge_128 : decode cX4_judge 128 = .ok (.ifCond .ne 7, 3) := by decide +kernel
theorem dX4_judge_131 : decode cX4_judge 131 = .ok (.iload_n 2, 1) := by decide +kernel
theorem dX4_judge_132 : decode cX4_judge 132 = .ok (.goto 4, 3) := by decide +kernel
theorem dX4_judge_135 : decode cX4_judge 135 = .ok (.iconst (-1), 1) := by decide +kernel
theorem dX4_judge_136 : decode cX4_judge 136 = .ok (.iastore, 1) := by decide +kernel
theorem dX4_judge_137 : decode cX4_judge 137 = .ok (.aload_n 0, 1) := by decide +kernel
theorem dX4_judge_138 : decode cX4_judge 138 = .ok (.getfield 36, 3) := by decide +kernel
theorem dX4_judge_141 : decode cX4_judge 141 = .ok (.iload_n 1, 1) := by decide +kernel
theorem dX4_judge_142 : decode cX4_judge 142 = .ok (.iload 6, 2) := by decide +kernel
theorem dX4_judge_144 : decode cX4_judge 144 = .ok (.iastore, 1) := by decide +kernel
theorem dX4_judge_145 : decode cX4_judge 145 = .ok (.iload 7, 2) := by decide +kernel
theorem dX4_judge_147 : decode cX4_judge 147 = .ok (.ireturn, 1) := by decide +kernel
theorem dX4_about_0 : decode cX4_about 0 = .ok (.aload_n 0, 1) := by decide +kernel
theorem dX4_about_1 : decode cX4_about 1 = .ok (.iconst 0, 1) := by decide +kernel
theorem dX4_about_2 : decode cX4_about 2 = .ok (.putfield 49, 3) := by decide +kernel
theorem dX4_about_5 : decode cX4_about 5 = .ok (.aload_n 0, 1) := by decide +kernel
theorem dX4_about_6 : decode cX4_about 6 = .ok (.iload_n 1, 1) := by decide +kernel
theorem dX4_about_7 : decode cX4_about 7 = .ok (.invokevirtual 111, 3) := by decide +kernel
theorem dX4_about_10 : decode cX4_about 10 = .ok (.ifCond .ne 5, 3) := by decide +kernel
theorem dX4_about_13 : decode cX4_about 13 = .ok (.iconst (-1), 1) := by decide +kernel
theorem dX4_about_14 : decode cX4_about 14 = .ok (.ireturn, 1) := by decide +kernel
theorem dX4_about_15 : decode cX4_about 15 = .ok (.iload_n 2, 1) := by decide +kernel
theorem dX4_about_16 : decode cX4_about 16 = .ok (.tableswitch 87 0 5 #[40, 47, 53, 59, 65, 80], 40) := by decide +kernel
theorem dX4_about_56 : decode cX4_about 56 = .ok (.aload_n 0, 1) := by decide +kernel
theorem dX4_about_57 : decode cX4_about 57 = .ok (.getfield 19, 3) := by decide +kernel
theorem dX4_about_60 : decode cX4_about 60 = .ok (.iload_n 1, 1) := by decide +kernel
theorem dX4_about_61 : decode cX4_about 61 = .ok (.iaload, 1) := by decide +kernel
theorem dX4_about_62 : decode cX4_about 62 = .ok (.ireturn, 1) := by decide +kernel
theorem dX4_about_63 : decode cX4_about 63 = .ok (.aload_n 0, 1) := by decide +kernel
theorem dX4_about_64 : decode cX4_about 64 = .ok (.iload_n 1, 1) := by decide +kernel
theorem dX4_about_65 : decode cX4_about 65 = .ok (.invokevirtual 120, 3) := by decide +kernel
theorem dX4_about_68 : decode cX4_about 68 = .ok (.ireturn, 1) := by decide +kernel
theorem dX4_about_69 : decode cX4_about 69 = .ok (.aload_n 0, 1) := by decide +kernel
theorem dX4_about_70 : decode cX4_about 70 = .ok (.iload_n 1, 1) := by decide +kernel
theorem dX4_about_71 : decode cX4_about 71 = .ok (.invokevirtual 72, 3) := by decide +kernel
theorem dX4_about_74 : decode cX4_about 74 = .ok (.ireturn, 1) := by decide +kernel
theorem dX4_about_75 : decode cX4_about 75 = .ok (.aload_n 0, 1) := by decide +kernel
theorem dX4_about_76 : decode cX4_about 76 = .ok (.iload_n 1, 1) := by decide +kernel
theorem dX4_about_77 : decode cX4_about 77 = .ok (.invokevirtual 76, 3) := by decide +kernel
theorem dX4_about_80 : decode cX4_about 80 = .ok (.ireturn, 1) := by decide +kernel
theorem dX4_about_81 : decode cX4_about 81 = .ok (.aload_n 0, 1) := by decide +kernel
theorem dX4_about_82 : decode cX4_about 82 = .ok (.getfield 26, 3) := by decide +kernel
theorem dX4_about_85 : decode cX4_about 85 = .ok (.iload_n 1, 1) := by decide +kernel
theorem dX4_about_86 : decode cX4_about 86 = .ok (.baload, 1) := by decide +kernel
theorem dX4_about_87 : decode cX4_about 87 = .ok (.ifCond .eq 7, 3) := by decide +kernel
theorem dX4_about_90 : decode cX4_about 90 = .ok (.iconst 1, 1) := by decide +kernel
theorem dX4_about_91 : decode cX4_about 91 = .ok (.goto 4, 3) := by decide +kernel
theorem dX4_about_94 : decode cX4_about 94 = .ok (.iconst 0, 1) := by decide +kernel
theorem dX4_about_95 : decode cX4_about 95 = .ok (.ireturn, 1) := by decide +kernel
theorem dX4_about_96 : decode cX4_about 96 = .ok (.aload_n 0, 1) := by decide +kernel
theorem dX4_about_97 : decode cX4_about 97 = .ok (.getfield 30, 3) := by decide +kernel
theorem dX4_about_100 : decode cX4_about 100 = .ok (.iload_n 1, 1) := by decide +kernel
theorem dX4_about_101 : decode cX4_about 101 = .ok (.iaload, 1) := by decide +kernel
theorem dX4_about_102 : decode cX4_about 102 = .ok (.ireturn, 1) := by decide +kernel
theorem dX4_about_103 : decode cX4_about 103 = .ok (.iconst (-1), 1) := by decide +kernel
theorem dX4_about_104 : decode cX4_about 104 = .ok (.ireturn, 1) := by decide +kernel
theorem dX4_bound_0 : decode cX4_bound 0 = .ok (.aload_n 0, 1) := by decide +kernel
theorem dX4_bound_1 : decode cX4_bound 1 = .ok (.iconst 0, 1) := by decide +kernel
theorem dX4_bound_2 : decode cX4_bound 2 = .ok (.putfield 49, 3) := by decide +kernel
theorem dX4_bound_5 : decode cX4_bound 5 = .ok (.aload_n 0, 1) := by decide +kernel
theorem dX4_bound_6 : decode cX4_bound 6 = .ok (.iload_n 1, 1) := by decide +kernel
theorem dX4_bound_7 : decode cX4_bound 7 = .ok (.invokevirtual 111, 3) := by decide +kernel
theorem dX4_bound_10 : decode cX4_bound 10 = .ok (.ifCond .eq 15, 3) := by decide +kernel
theorem dX4_bound_13 : decode cX4_bound 13 = .ok (.iload_n 2, 1) := by decide +kernel
theorem dX4_bound_14 : decode cX4_bound 14 = .ok (.iconst 1, 1) := by decide +kernel
theorem dX4_bound_15 : decode cX4_bound 15 = .ok (.if_icmp .lt 10, 3) := by decide +kernel
theorem dX4_bound_18 : decode cX4_bound 18 = .ok (.iload_n 2, 1) := by decide +kernel
theorem dX4_bound_19 : decode cX4_bound 19 = .ok (.sipush 999, 3) := by decide +kernel
theorem dX4_bound_22 : decode cX4_bound 22 = .ok (.if_icmp .le 7, 3) := by decide +kernel
theorem dX4_bound_25 : decode cX4_bound 25 = .ok (.iconst (-1), 1) := by decide +kernel
theorem dX4_bound_26 : decode cX4_bound 26 = .ok (.goto 10, 3) := by decide +kernel
theorem dX4_bound_29 : decode cX4_bound 29 = .ok (.aload_n 0, 1) := by decide +kernel
theorem dX4_bound_30 : decode cX4_bound 30 = .ok (.iload_n 1, 1) := by decide +kernel
theorem dX4_bound_31 : decode cX4_bound 31 = .ok (.iload_n 2, 1) := by decide +kernel
theorem dX4_bound_32 : decode cX4_bound 32 = .ok (.iload_n 3, 1) := by decide +kernel
theorem dX4_bound_33 : decode cX4_bound 33 = .ok (.invokevirtual 107, 3) := by decide +kernel
theorem dX4_bound_36 : decode cX4_bound 36 = .ok (.ireturn, 1) := by decide +kernel
theorem dX4_digit_0 : decode cX4_digit 0 = .ok (.aload_n 0, 1) := by decide +kernel
theorem dX4_digit_1 : decode cX4_digit 1 = .ok (.getfield 39, 3) := by decide +kernel
theorem dX4_digit_4 : decode cX4_digit 4 = .ok (.iload_n 1, 1) := by decide +kernel
theorem dX4_digit_5 : decode cX4_digit 5 = .ok (.iconst 4, 1) := by decide +kernel
theorem dX4_digit_6 : decode cX4_digit 6 = .ok (.idiv, 1) := by decide +kernel
theorem dX4_digit_7 : decode cX4_digit 7 = .ok (.laload, 1) := by decide +kernel
theorem dX4_digit_8 : decode cX4_digit 8 = .ok (.lstore_n 2, 1) := by decide +kernel
theorem dX4_digit_9 : decode cX4_digit 9 = .ok (.iload_n 1, 1) := by decide +kernel
theorem dX4_digit_10 : decode cX4_digit 10 = .ok (.iconst 4, 1) := by decide +kernel
theorem dX4_digit_11 : decode cX4_digit 11 = .ok (.irem, 1) := by decide +kernel
theorem dX4_digit_12 : decode cX4_digit 12 = .ok (.istore 4, 2) := by decide +kernel
theorem dX4_digit_14 : decode cX4_digit 14 = .ok (.iload 4, 2) := by decide +kernel
theorem dX4_digit_16 : decode cX4_digit 16 = .ok (.ifCond .le 15, 3) := by decide +kernel
theorem dX4_digit_19 : decode cX4_digit 19 = .ok (.lload_n 2, 1) := by decide +kernel
theorem dX4_digit_20 : decode cX4_digit 20 = .ok (.ldc2_w 123, 3) := by decide +kernel
theorem dX4_digit_23 : decode cX4_digit 23 = .ok (.ldiv, 1) := by decide +kernel
theorem dX4_digit_24 : decode cX4_digit 24 = .ok (.lstore_n 2, 1) := by decide +kernel
theorem dX4_digit_25 : decode cX4_digit 25 = .ok (.iinc 4 (-1), 3) := by decide +kernel
theorem dX4_digit_28 : decode cX4_digit 28 = .ok (.goto (-14), 3) := by decide +kernel
theorem dX4_digit_31 : decode cX4_digit 31 = .ok (.lload_n 2, 1) := by decide +kernel
theorem dX4_digit_32 : decode cX4_digit 32 = .ok (.ldc2_w 123, 3) := by decide +kernel
theorem dX4_digit_35 : decode cX4_digit 35 = .ok (.lrem, 1) := by decide +kernel
theorem dX4_digit_36 : decode cX4_digit 36 = .ok (.l2i, 1) := by decide +kernel
theorem dX4_digit_37 : decode cX4_digit 37 = .ok (.ireturn, 1) := by decide +kernel
theorem dX4_share_0 : decode cX4_share 0 = .ok (.aload_n 0, 1) := by decide +kernel
theorem dX4_share_1 : decode cX4_share 1 = .ok (.iconst 0, 1) := by decide +kernel
theorem dX4_share_2 : decode cX4_share 2 = .ok (.putfield 49, 3) := by decide +kernel
theorem dX4_share_5 : decode cX4_share 5 = .ok (.aload_n 0, 1) := by decide +kernel
theorem dX4_share_6 : decode cX4_share 6 = .ok (.iload_n 1, 1) := by decide +kernel
theorem dX4_share_7 : decode cX4_share 7 = .ok (.invokevirtual 111, 3) := by decide +kernel
theorem dX4_share_10 : decode cX4_share 10 = .ok (.ifCond .eq 27, 3) := by decide +kernel
theorem dX4_share_13 : decode cX4_share 13 = .ok (.iload_n 2, 1) := by decide +kernel
theorem dX4_share_14 : decode cX4_share 14 = .ok (.ifCond .lt 23, 3) := by decide +kernel
theorem dX4_share_17 : decode cX4_share 17 = .ok (.iload_n 2, 1) := by decide +kernel
theorem dX4_share_18 : decode cX4_share 18 = .ok (.sipush 1000, 3) := by decide +kernel
theorem dX4_share_21 : decode cX4_share 21 = .ok (.if_icmp .gt 16, 3) := by decide +kernel
theorem dX4_share_24 : decode cX4_share 24 = .ok (.iload 4, 2) := by decide +kernel
theorem dX4_share_26 : decode cX4_share 26 = .ok (.iconst 1, 1) := by decide +kernel
theorem dX4_share_27 : decode cX4_share 27 = .ok (.if_icmp .lt 10, 3) := by decide +kernel
theorem dX4_share_30 : decode cX4_share 30 = .ok (.iload 4, 2) := by decide +kernel
theorem dX4_share_32 : decode cX4_share 32 = .ok (.bipush 18, 2) := by decide +kernel
theorem dX4_share_34 : decode cX4_share 34 = .ok (.if_icmp .le 7, 3) := by decide +kernel
theorem dX4_share_37 : decode cX4_share 37 = .ok (.ldc2_w 125, 3) := by decide +kernel
theorem dX4_share_40 : decode cX4_share 40 = .ok (.lreturn, 1) := by decide +kernel
theorem dX4_share_41 : decode cX4_share 41 = .ok (.aload_n 0, 1) := by decide +kernel
theorem dX4_share_42 : decode cX4_share 42 = .ok (.iload_n 1, 1) := by decide +kernel
theorem dX4_share_43 : decode cX4_share 43 = .ok (.iload_n 2, 1) := by decide +kernel
theorem dX4_share_44 : decode cX4_share 44 = .ok (.iload_n 3, 1) := by decide +kernel
theorem dX4_share_45 : decode cX4_share 45 = .ok (.invokevirtual 89, 3) := by decide +kernel
theorem dX4_share_48 : decode cX4_share 48 = .ok (.iconst 3, 1) := by decide +kernel
theorem dX4_share_49 : decode cX4_share 49 = .ok (.aload_n 0, 1) := by decide +kernel
theorem dX4_share_50 : decode cX4_share 50 = .ok (.iload_n 1, 1) := by decide +kernel
theorem dX4_share_51 : decode cX4_share 51 = .ok (.invokevirtual 72, 3) := by decide +kernel
theorem dX4_share_54 : decode cX4_share 54 = .ok (.imul, 1) := by decide +kernel
theorem dX4_share_55 : decode cX4_share 55 = .ok (.istore 5, 2) := by decide +kernel
theorem dX4_share_57 : decode cX4_share 57 = .ok (.lconst 0, 1) := by decide +kernel
theorem dX4_share_58 : decode cX4_share 58 = .ok (.lstore 6, 2) := by decide +kernel
theorem dX4_share_60 : decode cX4_share 60 = .ok (.iload 5, 2) := by decide +kernel
theorem dX4_share_62 : decode cX4_share 62 = .ok (.istore 8, 2) := by decide +kernel
theorem dX4_share_64 : decode cX4_share 64 = .ok (.iload 8, 2) := by decide +kernel
theorem dX4_share_66 : decode cX4_share 66 = .ok (.iload 5, 2) := by decide +kernel
theorem dX4_share_68 : decode cX4_share 68 = .ok (.iload 4, 2) := by decide +kernel
theorem dX4_share_70 : decode cX4_share 70 = .ok (.isub, 1) := by decide +kernel
theorem dX4_share_71 : decode cX4_share 71 = .ok (.if_icmp .lt 34, 3) := by decide +kernel
theorem dX4_share_74 : decode cX4_share 74 = .ok (.ldc2_w 123, 3) := by decide +kernel
theorem dX4_share_77 : decode cX4_share 77 = .ok (.lload 6, 2) := by decide +kernel
theorem dX4_share_79 : decode cX4_share 79 = .ok (.lmul, 1) := by decide +kernel
theorem dX4_share_80 : decode cX4_share 80 = .ok (.iload 8, 2) := by decide +kernel
theorem dX4_share_82 : decode cX4_share 82 = .ok (.ifCond .ge 7, 3) := by decide +kernel
theorem dX4_share_85 : decode cX4_share 85 = .ok (.iconst 0, 1) := by decide +kernel
theorem dX4_share_86 : decode cX4_share 86 = .ok (.goto 9, 3) := by decide +kernel
theorem dX4_share_89 : decode cX4_share 89 = .ok (.aload_n 0, 1) := by decide +kernel
theorem dX4_share_90 : decode cX4_share 90 = .ok (.iload 8, 2) := by decide +kernel
theorem dX4_share_92 : decode cX4_share 92 = .ok (.invokevirtual 127, 3) := by decide +kernel
theorem dX4_share_95 : decode cX4_share 95 = .ok (.i2l, 1) := by decide +kernel
theorem dX4_share_96 : decode cX4_share 96 = .ok (.ladd, 1) := by decide +kernel
theorem dX4_share_97 : decode cX4_share 97 = .ok (.lstore 6, 2) := by decide +kernel
theorem dX4_share_99 : decode cX4_share 99 = .ok (.iinc 8 (-1), 3) := by decide +kernel
theorem dX4_share_102 : decode cX4_share 102 = .ok (.goto (-38), 3) := by decide +kernel
theorem dX4_share_105 : decode cX4_share 105 = .ok (.lload 6, 2) := by decide +kernel
theorem dX4_share_107 : decode cX4_share 107 = .ok (.lreturn, 1) := by decide +kernel
theorem dX4_isBad_0 : decode cX4_isBad 0 = .ok (.aload_n 0, 1) := by decide +kernel
theorem dX4_isBad_1 : decode cX4_isBad 1 = .ok (.iconst 0, 1) := by decide +kernel
theorem dX4_isBad_2 : decode cX4_isBad 2 = .ok (.putfield 49, 3) := by decide +kernel
theorem dX4_isBad_5 : decode cX4_isBad 5 = .ok (.aload_n 0, 1) := by decide +kernel
theorem dX4_isBad_6 : decode cX4_isBad 6 = .ok (.iload_n 1, 1) := by decide +kernel
theorem dX4_isBad_7 : decode cX4_isBad 7 = .ok (.invokevirtual 111, 3) := by decide +kernel
theorem dX4_isBad_10 : decode cX4_isBad 10 = .ok (.ifCond .eq 23, 3) := by decide +kernel
theorem dX4_isBad_13 : decode cX4_isBad 13 = .ok (.iload_n 2, 1) := by decide +kernel
theorem dX4_isBad_14 : decode cX4_isBad 14 = .ok (.invokestatic 115, 3) := by decide +kernel
theorem dX4_isBad_17 : decode cX4_isBad 17 = .ok (.ifCond .eq 16, 3) := by decide +kernel
theorem dX4_isBad_20 : decode cX4_isBad 20 = .ok (.aload_n 0, 1) := by decide +kernel
theorem dX4_isBad_21 : decode cX4_isBad 21 = .ok (.iload_n 1, 1) := by decide +kernel
theorem dX4_isBad_22 : decode cX4_isBad 22 = .ok (.iload_n 2, 1) := by decide +kernel
theorem dX4_isBad_23 : decode cX4_isBad 23 = .ok (.invokevirtual 104, 3) := by decide +kernel
theorem dX4_isBad_26 : decode cX4_isBad 26 = .ok (.ifCond .eq 7, 3) := by decide +kernel
theorem dX4_isBad_29 : decode cX4_isBad 29 = .ok (.iconst 1, 1) := by decide +kernel
theorem dX4_isBad_30 : decode cX4_isBad 30 = .ok (.goto 4, 3) := by decide +kernel
theorem dX4_isBad_33 : decode cX4_isBad 33 = .ok (.iconst 0, 1) := by decide +kernel
theorem dX4_isBad_34 : decode cX4_isBad 34 = .ok (.ireturn, 1) := by decide +kernel
theorem dX4_broken_0 : decode cX4_broken 0 = .ok (.aload_n 0, 1) := by decide +kernel
theorem dX4_broken_1 : decode cX4_broken 1 = .ok (.iconst 0, 1) := by decide +kernel
theorem dX4_broken_2 : decode cX4_broken 2 = .ok (.putfield 49, 3) := by decide +kernel
theorem dX4_broken_5 : decode cX4_broken 5 = .ok (.iconst 0, 1) := by decide +kernel
theorem dX4_broken_6 : decode cX4_broken 6 = .ok (.istore_n 2, 1) := by decide +kernel
theorem dX4_broken_7 : decode cX4_broken 7 = .ok (.iconst 0, 1) := by decide +kernel
theorem dX4_broken_8 : decode cX4_broken 8 = .ok (.istore_n 3, 1) := by decide +kernel
theorem dX4_broken_9 : decode cX4_broken 9 = .ok (.iload_n 3, 1) := by decide +kernel
theorem dX4_broken_10 : decode cX4_broken 10 = .ok (.aload_n 0, 1) := by decide +kernel
theorem dX4_broken_11 : decode cX4_broken 11 = .ok (.getfield 52, 3) := by decide +kernel
theorem dX4_broken_14 : decode cX4_broken 14 = .ok (.if_icmp .ge 44, 3) := by decide +kernel
theorem dX4_broken_17 : decode cX4_broken 17 = .ok (.iload_n 2, 1) := by decide +kernel
theorem dX4_broken_18 : decode cX4_broken 18 = .ok (.iload_n 1, 1) := by decide +kernel
theorem dX4_broken_19 : decode cX4_broken 19 = .ok (.invokestatic 115, 3) := by decide +kernel
theorem dX4_broken_22 : decode cX4_broken 22 = .ok (.ifCond .eq 27, 3) := by decide +kernel
theorem dX4_broken_25 : decode cX4_broken 25 = .ok (.aload_n 0, 1) := by decide +kernel
theorem dX4_broken_26 : decode cX4_broken 26 = .ok (.iload_n 3, 1) := by decide +kernel
theorem dX4_broken_27 : decode cX4_broken 27 = .ok (.iload_n 1, 1) := by decide +kernel
theorem dX4_broken_28 : decode cX4_broken 28 = .ok (.invokevirtual 104, 3) := by decide +kernel
theorem dX4_broken_31 : decode cX4_broken 31 = .ok (.ifCond .eq 18, 3) := by decide +kernel
theorem dX4_broken_34 : decode cX4_broken 34 = .ok (.aload_n 0, 1) := by decide +kernel
theorem dX4_broken_35 : decode cX4_broken 35 = .ok (.getfield 26, 3) := by decide +kernel
theorem dX4_broken_38 : decode cX4_broken 38 = .ok (.iload_n 3, 1) := by decide +kernel
theorem dX4_broken_39 : decode cX4_broken 39 = .ok (.baload, 1) := by decide +kernel
theorem dX4_broken_40 : decode cX4_broken 40 = .ok (.ifCond .ne 9, 3) := by decide +kernel
theorem dX4_broken_43 : decode cX4_broken 43 = .ok (.iconst 1, 1) := by decide +kernel
theorem dX4_broken_44 : decode cX4_broken 44 = .ok (.iload_n 3, 1) := by decide +kernel
theorem dX4_broken_45 : decode cX4_broken 45 = .ok (.ishl, 1) := by decide +kernel
theorem dX4_broken_46 : decode cX4_broken 46 = .ok (.goto 4, 3) := by decide +kernel
theorem dX4_broken_49 : decode cX4_broken 49 = .ok (.iconst 0, 1) := by decide +kernel
theorem dX4_broken_50 : decode cX4_broken 50 = .ok (.ior, 1) := by decide +kernel
theorem dX4_broken_51 : decode cX4_broken 51 = .ok (.istore_n 2, 1) := by decide +kernel
theorem dX4_broken_52 : decode cX4_broken 52 = .ok (.iinc 3 1, 3) := by decide +kernel
theorem dX4_broken_55 : decode cX4_broken 55 = .ok (.goto (-46), 3) := by decide +kernel
theorem dX4_broken_58 : decode cX4_broken 58 = .ok (.iload_n 2, 1) := by decide +kernel
theorem dX4_broken_59 : decode cX4_broken 59 = .ok (.ireturn, 1) := by decide +kernel
end
section
/-! BASE: rows of this claim's own, over the kit's judgements: a contract's entry, calls, loops, values. -/
/-- a boolean as the machine holds it -/
def zI : Bool → Int32
  | true => 1
  | false => 0
theorem zI_t : zI true = 1 := rfl
theorem zI_f : zI false = 0 := rfl
theorem zI_nar (b : Bool) : narrow .boolean (.int (zI b)) = .int (zI b) := by cases b <;> rfl
theorem zI_vnar (b : Bool) : vp_nar .boolean (zI b) = zI b := by cases b <;> rfl
theorem zI_fits (b : Bool) : fits .boolean (.int (zI b)) = true := by cases b <;> rfl
theorem zI_eq0 {b : Bool} : zI b = 0 ↔ b = false := by cases b <;> decide
theorem zI_ne0 {b : Bool} : ¬ zI b = 0 ↔ b = true := by cases b <;> decide
theorem zI_inj {a b : Bool} : zI a = zI b ↔ a = b := by cases a <;> cases b <;> decide
/-- the worlds of contracts: of one that only reads, of one that writes, and behind it -/
def fw_pR (D : va_G) (cl : List vw_C) (tys : List (ClassId × FieldType)) (ws : va_W) (U : State) : Prop := va_P D cl ws U.heap ∧ va_K D cl tys U ∧ fw_N U
def fw_pW (D : va_G) (cl : List vw_C) (tys : List (ClassId × FieldType)) (ws : va_W) (sz : Nat) (U : State) : Prop := U.heap.size = sz ∧ va_P D cl ws U.heap ∧ va_K D cl tys U ∧ va_D (fun _ => True) ws ∧ fw_N U
def fw_q (D : va_G) (cl : List vw_C) (tys : List (ClassId × FieldType)) (A : Nat → Prop) (ws : va_W) (t : State) : Prop := va_P D cl ws t.heap ∧ va_K D cl tys t ∧ va_D A ws
section FWB
variable {p : Program} {l : Launch} {e : Env} {R : Room} {s : State} {m : MethodId} {args : Array Value} {below : List Frame} {meth : Method} {c : Code} {H : Heap} {locs : List Loc} {cells slots : Nat} {Q : State → Prop} {pc : Nat} {ls : Array Slot} {rest : List Value}
theorem fw_i {x x' : Int32} (h : x = x') (k : W p l e R s m args below meth c H locs cells slots Q (F0 m pc ls (.int x' :: rest))) : W p l e R s m args below meth c H locs cells slots Q (F0 m pc ls (.int x :: rest)) := by rw [h]; exact k
theorem fw_l {x x' : Int64} (h : x = x') (k : W p l e R s m args below meth c H locs cells slots Q (F0 m pc ls (.long x' :: rest))) : W p l e R s m args below meth c H locs cells slots Q (F0 m pc ls (.long x :: rest)) := by rw [h]; exact k
theorem fw_v {x x' : Value} (h : x = x') (k : W p l e R s m args below meth c H locs cells slots Q (F0 m pc ls (x' :: rest))) : W p l e R s m args below meth c H locs cells slots Q (F0 m pc ls (x :: rest)) := by rw [h]; exact k
/-- a loop of a method that writes: the measure n falls -/
theorem fw_loop {σ : Type} {st : List Value} (I : Nat → σ → Heap → List Loc → Array Slot → Prop)
    (hs : ∀ (n : Nat) (u : σ) (H : Heap) (locs : List Loc) (ls : Array Slot), I n u H locs ls → (∀ (n' : Nat) (u' : σ) (H' : Heap) (locs' : List Loc) (ls' : Array Slot), n' < n → I n' u' H' locs' ls' → W p l e R s m args below meth c H' locs' cells slots Q (F0 m pc ls' st)) → W p l e R s m args below meth c H locs cells slots Q (F0 m pc ls st))
    (n : Nat) (u : σ) (H : Heap) (locs : List Loc) (ls : Array Slot) (h : I n u H locs ls) : W p l e R s m args below meth c H locs cells slots Q (F0 m pc ls st) := by
  induction n using Nat.strongRecOn generalizing u H locs ls with
  | ind n ih => exact hs n u H locs ls h (fun n' u' H' locs' ls' hn hI => ih n' hn u' H' locs' ls' hI)
/-- a loop of a method that only reads -/
theorem fw_loopR {σ : Type} {st : List Value} (I : Nat → σ → Array Slot → Prop)
    (hs : ∀ (n : Nat) (u : σ) (ls : Array Slot), I n u ls → (∀ (n' : Nat) (u' : σ) (ls' : Array Slot), n' < n → I n' u' ls' → W p l e R s m args below meth c H locs cells slots Q (F0 m pc ls' st)) → W p l e R s m args below meth c H locs cells slots Q (F0 m pc ls st))
    (n : Nat) (u : σ) (ls : Array Slot) (h : I n u ls) : W p l e R s m args below meth c H locs cells slots Q (F0 m pc ls st) := by
  induction n using Nat.strongRecOn generalizing u ls with
  | ind n ih => exact hs n u ls h (fun n' u' ls' hn hI => ih n' hn u' ls' hI)
end FWB
/-- the entry of a contract that only reads -/
theorem fw_metR {l : Launch} {y : MethodName} {ws ws' : List Cond} {rm : Room} {D : va_G} {cl : List vw_C} {tys : List (ClassId × FieldType)} {wl : va_W} {as : List Value} {Qc : Array Value → State → Outcome → State → Prop} {mc ms : Nat} {free : Addr → Prop} {cc : ByteArray} {maxL : Nat} {ret : Option FieldType}
    (hy : plainName y.cls = true) (hw : ws = Cond.code y cc maxL ret :: ws') (hn : (lg_sl as).length ≤ maxL)
    (body : ∀ (p : Program) (e : Env) (s : State) (m : MethodId) (below : List Frame) (meth : Method) (c : Code) (ls : Array Slot), p.tables.exec = Jvm.exec → c.code = cc → meth.sig.returnType = ret → (∀ w ∈ ws, w.before as.toArray s = true) → s.vm.findClass y.cls = some m.cls → meth.locks = false → c.maxLocals = maxL → meth.name = y.name → fw_N s → va_P D cl wl s.heap → va_K D cl tys s → lv_has ls maxL (lv_args 0 as) →
      W p l e rm s m as.toArray below meth c s.heap [] 0 0 (MQ below Qc as.toArray s mc ms free) (F0 m 0 ls [])) :
    Met l y ws rm (va_Pc as (fw_pR D cl tys wl)) Qc mc ms free := by
  refine Met.ofW (cc := cc) (maxL := maxL) (ret := ret) hy hw ?_
  intro p e s m args below meth c s₁ B hml hv
  obtain ⟨rfl, hP, hK, hN⟩ := hv
  have hl := lv_entry as (n := maxL) hn
  rw [lg_entry_eq]
  exact body p e s m below meth c _ B.exec B.bytes B.returns (atoms_spec (ws := ws) B.pre) (findClass_of_methodNamed B.named) B.notSynchronized hml (name_of_methodNamed B.named B.method).1 hN hP hK hl
/-- the entry of a contract that writes -/
theorem fw_metW {l : Launch} {y : MethodName} {ws ws' : List Cond} {rm : Room} {D : va_G} {cl : List vw_C} {tys : List (ClassId × FieldType)} {wl : va_W} {sz : Nat} {as : List Value} {Qc : Array Value → State → Outcome → State → Prop} {mc ms : Nat} {free : Addr → Prop} {cc : ByteArray} {maxL : Nat} {ret : Option FieldType}
    (hy : plainName y.cls = true) (hw : ws = Cond.code y cc maxL ret :: ws') (hn : (lg_sl as).length ≤ maxL)
    (body : ∀ (p : Program) (e : Env) (s : State) (m : MethodId) (below : List Frame) (meth : Method) (c : Code) (ls : Array Slot), p.tables.exec = Jvm.exec → c.code = cc → meth.sig.returnType = ret → (∀ w ∈ ws, w.before as.toArray s = true) → s.vm.findClass y.cls = some m.cls → meth.locks = false → c.maxLocals = maxL → meth.name = y.name → fw_N s → s.heap.size = sz → va_P D cl wl s.heap → va_K D cl tys s → va_D (va_A wl sz) wl → (∀ q : Nat, s.heap.size ≤ q → va_A wl sz q) → va_S (va_A wl sz) s.heap s.heap [] → lv_has ls maxL (lv_args 0 as) →
      W p l e rm s m as.toArray below meth c s.heap [] 0 0 (MQ below Qc as.toArray s mc ms free) (F0 m 0 ls [])) :
    Met l y ws rm (va_Pc as (fw_pW D cl tys wl sz)) Qc mc ms free := by
  refine Met.ofW (cc := cc) (maxL := maxL) (ret := ret) hy hw ?_
  intro p e s m args below meth c s₁ B hml hv
  obtain ⟨rfl, hsz, hP, hK, hD, hN⟩ := hv
  have hl := lv_entry as (n := maxL) hn
  rw [lg_entry_eq]
  exact body p e s m below meth c _ B.exec B.bytes B.returns (atoms_spec (ws := ws) B.pre) (findClass_of_methodNamed B.named) B.notSynchronized hml (name_of_methodNamed B.named B.method).1 hN hsz hP hK hD.self (fun q h => Or.inr (by rw [← hsz]; exact h)) va_S.rf hl
/-- what a call wants of the world: receiver and reads -/
theorem fw_preVR {s : State} {H : Heap} {D : va_G} {cl : List vw_C} {tys : List (ClassId × FieldType)} {ws : va_W} {a ci q0 : Nat} {q : vw_C} {fs : List Value} {As : List Value} (hN : fw_N s) (hK : va_K D cl tys s) (hP : va_P D cl ws H) (hc : cl[ci]? = some q) (he : ws[q0]? = some (a, .inr (ci, fs))) : PreV s H q.1 a (va_Pc (.ref a :: As) (fw_pR D cl tys ws)) As :=
  ⟨fun av U g mk h => ⟨h.1, h.2.1, va_K.moved (u := U) (U := U.calling g mk av) (Vm.Alike.refl U.vm) h.2.2.1, fw_N.same (s := U) (U := U.calling g mk av) rfl h.2.2.2⟩, va_recv hK hP hc he, fun U hU hW => ⟨rfl, by rw [hU]; exact hP, va_K.moved hW.alike hK, fw_N.warm hW hN⟩⟩
theorem fw_preSR {s : State} {H : Heap} {D : va_G} {cl : List vw_C} {tys : List (ClassId × FieldType)} {ws : va_W} {As : List Value} (hN : fw_N s) (hK : va_K D cl tys s) (hP : va_P D cl ws H) : PreS s H (va_Pc As (fw_pR D cl tys ws)) As :=
  ⟨fun av U g mk h => ⟨h.1, h.2.1, va_K.moved (u := U) (U := U.calling g mk av) (Vm.Alike.refl U.vm) h.2.2.1, fw_N.same (s := U) (U := U.calling g mk av) rfl h.2.2.2⟩, fun U hU hW => ⟨rfl, by rw [hU]; exact hP, va_K.moved hW.alike hK, fw_N.warm hW hN⟩⟩
theorem fw_preVW {s : State} {H : Heap} {D : va_G} {cl : List vw_C} {tys : List (ClassId × FieldType)} {ws : va_W} {A : Nat → Prop} {a ci q0 : Nat} {q : vw_C} {fs : List Value} {As : List Value} (hN : fw_N s) (hK : va_K D cl tys s) (hP : va_P D cl ws H) (hD : va_D A ws) (hc : cl[ci]? = some q) (he : ws[q0]? = some (a, .inr (ci, fs))) : PreV s H q.1 a (va_Pc (.ref a :: As) (fw_pW D cl tys ws H.size)) As :=
  ⟨fun av U g mk h => ⟨h.1, h.2.1, h.2.2.1, va_K.moved (u := U) (U := U.calling g mk av) (Vm.Alike.refl U.vm) h.2.2.2.1, h.2.2.2.2.1, fw_N.same (s := U) (U := U.calling g mk av) rfl h.2.2.2.2.2⟩, va_recv hK hP hc he, fun U hU hW => ⟨rfl, by rw [hU], by rw [hU]; exact hP, va_K.moved hW.alike hK, hD.weaken (fun _ _ _ _ => trivial), fw_N.warm hW hN⟩⟩
theorem fw_preSW {s : State} {H : Heap} {D : va_G} {cl : List vw_C} {tys : List (ClassId × FieldType)} {ws : va_W} {A : Nat → Prop} {As : List Value} (hN : fw_N s) (hK : va_K D cl tys s) (hP : va_P D cl ws H) (hD : va_D A ws) : PreS s H (va_Pc As (fw_pW D cl tys ws H.size)) As :=
  ⟨fun av U g mk h => ⟨h.1, h.2.1, h.2.2.1, va_K.moved (u := U) (U := U.calling g mk av) (Vm.Alike.refl U.vm) h.2.2.2.1, h.2.2.2.2.1, fw_N.same (s := U) (U := U.calling g mk av) rfl h.2.2.2.2.2⟩, fun U hU hW => ⟨rfl, by rw [hU], by rw [hU]; exact hP, va_K.moved hW.alike hK, hD.weaken (fun _ _ _ _ => trivial), fw_N.warm hW hN⟩⟩
/-- the world's list in another order, or part of it -/
theorem fw_Pm {D : va_G} {cl : List vw_C} {ws ws' : va_W} {H : Heap} (h : va_P D cl ws H) (hm : ∀ q, q ∈ ws' → q ∈ ws) : va_P D cl ws' H := by
  intro k q hk
  obtain ⟨i, hi⟩ := List.getElem?_of_mem (hm q (List.mem_of_getElem? hk))
  exact h i q hi
theorem fw_Dnd {A : Nat → Prop} {ws : va_W} (h : va_D A ws) : (ws.map (fun q => q.1)).Nodup := by
  rw [List.nodup_iff_pairwise_ne, List.pairwise_iff_getElem]
  intro i j hi hj hij
  rw [List.length_map] at hi hj
  rw [List.getElem_map, List.getElem_map]
  intro e
  have := h.1 i j _ _ (List.getElem?_eq_getElem hi) (List.getElem?_eq_getElem hj) e
  omega
theorem fw_Dof {A : Nat → Prop} {ws : va_W} (hn : (ws.map (fun q => q.1)).Nodup) (ha : ∀ q, q ∈ ws → A q.1) : va_D A ws := by
  refine ⟨fun i j p q hi hj e => ?_, fun k q hk => ha q (List.mem_of_getElem? hk)⟩
  have h1 : (ws.map (fun q => q.1))[i]? = some p.1 := by rw [List.getElem?_map, hi]; rfl
  have h2 : (ws.map (fun q => q.1))[j]? = some q.1 := by rw [List.getElem?_map, hj]; rfl
  have hl : i < (ws.map (fun q => q.1)).length := (List.getElem?_eq_some_iff.mp h1).1
  exact (List.getElem?_inj hl hn).mp (h1.trans ((congrArg some e).trans h2.symm))
theorem fw_Pp {D : va_G} {cl : List vw_C} {ws ws' : va_W} {H : Heap} (h : va_P D cl ws H) (hp : ws.Perm ws') : va_P D cl ws' H := fw_Pm h (fun q hq => hp.mem_iff.mpr hq)
theorem fw_Dp {A : Nat → Prop} {ws ws' : va_W} (h : va_D A ws) (hp : ws.Perm ws') : va_D A ws' :=
  fw_Dof ((hp.map (fun q => q.1)).nodup_iff.mp (fw_Dnd h)) (fun q hq => by
    obtain ⟨i, hi⟩ := List.getElem?_of_mem (hp.mem_iff.mpr hq)
    exact h.2 i q hi)
/-- a contract said otherwise -/
theorem fw_mono {l : Launch} {y : MethodName} {ws : List Cond} {rm : Room} {P P' : Array Value → State → Prop} {Q Q' : Array Value → State → Outcome → State → Prop} {mc ms : Nat} {free free' : Addr → Prop} (h : Met l y ws rm P Q mc ms free) (hP : ∀ a s, P' a s → P a s) (hQ : ∀ a s o t, P' a s → Q a s o t → Q' a s o t) (hf : ∀ q, free q → free' q) : Met l y ws rm P' Q' mc ms free' := by
  intro p e h1 h2 h3 s m args below h4 h5 h6 h7
  obtain ⟨n, o, a1, a2, a3, a4, L, a5, a6⟩ := h p e h1 h2 h3 s m args below h4 h5 (hP _ _ h6) h7
  exact ⟨n, o, a1, a2, a3, hQ _ _ _ _ h6 a4, L, a5, fun q hq => hf _ (a6 q hq)⟩
/-- the frame: what a contract doesn't name stays -/
theorem fw_fr {D : va_G} {cl : List vw_C} {X W0 W1 R : va_W} {s t : State} {sz : Nat} {B : Nat → Prop} (hp : X.Perm (W0 ++ R)) (hsz : s.heap.size = sz) (hP : va_P D cl X s.heap) (hD : va_D B X) (hF : va_F (va_A W0 sz) s t) (hP1 : va_P D cl W1 t.heap) (hD1 : va_D (va_A W0 sz) W1) :
    va_P D cl (W1 ++ R) t.heap ∧ va_D (va_A X sz) (W1 ++ R) ∧ va_F (va_A X sz) s t := by
  have hsub : ∀ q, va_A W0 sz q → va_A X sz q := by
    intro q h
    rcases h with ⟨k, e, h⟩ | h
    · obtain ⟨i, hi⟩ := List.getElem?_of_mem (hp.mem_iff.mpr (List.mem_append_left R (List.mem_of_getElem? h)))
      exact Or.inl ⟨i, e, hi⟩
    · exact Or.inr h
  have hP2 : va_P D cl (W0 ++ R) s.heap := fw_Pp hP hp
  have hD2 : va_D B (W0 ++ R) := fw_Dp hD hp
  have hR : ∀ (k : Nat) (q : Nat × va_E), R[k]? = some q → q.1 < s.heap.size ∧ ¬ va_A W0 sz q.1 := by
    intro k q hk
    have h1 : (W0 ++ R)[W0.length + k]? = some q := by rw [List.getElem?_append_right (Nat.le_add_right _ _), Nat.add_sub_cancel_left]; exact hk
    have hl := (hP2 _ _ h1).lt
    refine ⟨hl, fun h => ?_⟩
    rcases h with ⟨j, e, h⟩ | h
    · have hj := (List.getElem?_eq_some_iff.mp h).1
      have h2 : (W0 ++ R)[j]? = some (q.1, e) := by rw [List.getElem?_append_left hj]; exact h
      have := hD2.1 _ _ _ _ h1 h2 rfl
      omega
    · omega
  refine ⟨va_P.app hP1 (fun k q hk => ?_), va_D.app (hD1.weaken (fun _ q _ h => hsub q.1 h)) ⟨fun i j p q hi hj e => ?_, fun k q hk => ?_⟩ (fun i j p q hi hj e => ?_), ⟨hF.1, fun q h1 h2 => hF.2 q h1 (fun h => h2 (hsub q h))⟩⟩
  · have h1 : (W0 ++ R)[W0.length + k]? = some q := by rw [List.getElem?_append_right (Nat.le_add_right _ _), Nat.add_sub_cancel_left]; exact hk
    exact (hP2 _ _ h1).kept (hF.2 q.1 (hR k q hk).1 (hR k q hk).2)
  · have h1 : (W0 ++ R)[W0.length + i]? = some p := by rw [List.getElem?_append_right (Nat.le_add_right _ _), Nat.add_sub_cancel_left]; exact hi
    have h2 : (W0 ++ R)[W0.length + j]? = some q := by rw [List.getElem?_append_right (Nat.le_add_right _ _), Nat.add_sub_cancel_left]; exact hj
    have := hD2.1 _ _ _ _ h1 h2 e
    omega
  · obtain ⟨i, hi⟩ := List.getElem?_of_mem (hp.mem_iff.mpr (List.mem_append_right W0 (List.mem_of_getElem? hk)))
    exact Or.inl ⟨i, q.2, hi⟩
  · exact (hR j q hj).2 (by rw [← e]; exact hD1.2 i p hi)
/-- behind a call, with the world in any order: what came back, and the rest -/
theorem fw_jn {A0 : Nat → Prop} {D : va_G} {cl : List vw_C} {X W0 R W1 : va_W} {H H1 : Heap} (hp : X.Perm (W0 ++ R)) (hP : va_P D cl X H) (hD : va_D A0 X) (hk : ∀ q : Nat, q < H.size → ¬ va_A W0 H.size q → H1[q]? = H[q]?) (hF : ∀ q, va_A W0 H.size q → A0 q) (hP1 : va_P D cl W1 H1) (hD1 : va_D (va_A W0 H.size) W1) :
    va_P D cl (W1 ++ R) H1 ∧ va_D A0 (W1 ++ R) := by
  have hP2 : va_P D cl (W0 ++ R) H := fw_Pp hP hp
  have hD2 : va_D A0 (W0 ++ R) := fw_Dp hD hp
  have hat : ∀ (k : Nat) (q : Nat × va_E), R[k]? = some q → (W0 ++ R)[W0.length + k]? = some q := fun k q hk => by rw [List.getElem?_append_right (Nat.le_add_right _ _), Nat.add_sub_cancel_left]; exact hk
  have hR : ∀ (k : Nat) (q : Nat × va_E), R[k]? = some q → q.1 < H.size ∧ ¬ va_A W0 H.size q.1 := by
    intro k q hk
    have hl := (hP2 _ _ (hat k q hk)).lt
    refine ⟨hl, fun h => ?_⟩
    rcases h with ⟨j, e, h⟩ | h
    · have hj := (List.getElem?_eq_some_iff.mp h).1
      have h2 : (W0 ++ R)[j]? = some (q.1, e) := by rw [List.getElem?_append_left hj]; exact h
      have := hD2.1 _ _ _ _ (hat k q hk) h2 rfl
      omega
    · omega
  refine ⟨va_P.app hP1 (fun k q hk2 => (hP2 _ _ (hat k q hk2)).kept (hk q.1 (hR k q hk2).1 (hR k q hk2).2)), va_D.app (hD1.weaken (fun _ q _ h => hF q.1 h)) ⟨fun i j p q hi hj e => ?_, fun k q hk2 => hD2.2 _ _ (hat k q hk2)⟩ (fun i j p q hi hj e => (hR j q hj).2 (by rw [← e]; exact hD1.2 i p hi))⟩
  have := hD2.1 _ _ _ _ (hat i p hi) (hat j q hj) e
  omega
theorem fw_Fr {A0 : Nat → Prop} {X W0 R : va_W} {H0 H : Heap} {locs : List Loc} (hp : X.Perm (W0 ++ R)) (hD : va_D A0 X) (hS : va_S A0 H0 H locs) (hA : ∀ q, H0.size ≤ q → A0 q) : ∀ q, va_A W0 H.size q → A0 q := by
  intro q h
  rcases h with ⟨k, e, h⟩ | h
  · obtain ⟨i, hi⟩ := List.getElem?_of_mem (hp.mem_iff.mpr (List.mem_append_left R (List.mem_of_getElem? h)))
    exact hD.2 i (q, e) hi
  · exact hA q (Nat.le_trans hS.1 h)
/-- the array classes, out of the tables' words -/
theorem fw_arr {args : Array Value} {s : State} {D : va_G} {cl : List vw_C} {tys : List (ClassId × FieldType)} (hK : va_K D cl tys s) (h : (Cond.arrayClass .int).before args s = true) : ∃ cA : ClassId, va_K D cl (tys ++ [(cA, .int)]) s := by
  obtain ⟨cA, kA, comp, h1, h2, h3⟩ := Cond.arrayClass_spec h
  refine ⟨cA, va_K.app hK ⟨hK.1, fun k x hx => ?_⟩⟩
  have hz : k < 1 := (List.getElem?_eq_some_iff.mp hx).1
  rw [show k = 0 by omega] at hx
  cases hx
  exact ⟨fun n z => ⟨fun k h => (by cases h), kA, h2, comp, h3⟩, h1⟩
theorem fw_arrZ {args : Array Value} {s : State} {D : va_G} {cl : List vw_C} {tys : List (ClassId × FieldType)} (hK : va_K D cl tys s) (h : (Cond.arrayClass .boolean).before args s = true) : ∃ cA : ClassId, va_K D cl (tys ++ [(cA, .boolean)]) s := by
  obtain ⟨cA, kA, comp, h1, h2, h3⟩ := Cond.arrayClass_spec h
  refine ⟨cA, va_K.app hK ⟨hK.1, fun k x hx => ?_⟩⟩
  have hz : k < 1 := (List.getElem?_eq_some_iff.mp hx).1
  rw [show k = 0 by omega] at hx
  cases hx
  exact ⟨fun n z => ⟨fun k h => (by cases h), kA, h2, comp, h3⟩, h1⟩
end
section
/-! MATH: how likely at most so many of n throws hit: exact sums, without the machine. -/
def pm_ch : Nat → Nat → Nat
  | _, 0 => 1
  | 0, _ + 1 => 0
  | n + 1, k + 1 => pm_ch n k + pm_ch n (k + 1)
theorem pm_ch0 (n : Nat) : pm_ch n 0 = 1 := by cases n <;> simp [pm_ch]
theorem pm_ch00 (k : Nat) : pm_ch 0 (k + 1) = 0 := by simp [pm_ch]
theorem pm_chS (n k : Nat) : pm_ch (n + 1) (k + 1) = pm_ch n k + pm_ch n (k + 1) := by simp [pm_ch]
theorem pm_ch_gt (n : Nat) : ∀ k, n < k → pm_ch n k = 0 := by
  induction n with
  | zero =>
    intro k hk
    obtain ⟨j, rfl⟩ : ∃ j, k = j + 1 := ⟨k - 1, by omega⟩
    exact pm_ch00 j
  | succ n ih =>
    intro k hk
    obtain ⟨j, rfl⟩ : ∃ j, k = j + 1 := ⟨k - 1, by omega⟩
    rw [pm_chS, ih j (by omega), ih (j + 1) (by omega)]
theorem pm_ch_mul (n : Nat) : ∀ k, (k + 1) * pm_ch n (k + 1) + k * pm_ch n k = n * pm_ch n k := by
  induction n with
  | zero =>
    intro k
    cases k with
    | zero => rw [pm_ch00]; omega
    | succ k => rw [pm_ch00, pm_ch00]; omega
  | succ n ih =>
    intro k
    cases k with
    | zero =>
      have h := ih 0
      have e : pm_ch (n + 1) (0 + 1) = pm_ch n 0 + pm_ch n (0 + 1) := pm_chS n 0
      rw [pm_ch0] at h
      rw [e, pm_ch0, pm_ch0]
      omega
    | succ k =>
      have h1 := ih k
      have h2 := ih (k + 1)
      rw [pm_chS n (k + 1), pm_chS n k]
      generalize pm_ch n k = c0 at h1 h2 ⊢
      generalize pm_ch n (k + 1) = c1 at h1 h2 ⊢
      generalize pm_ch n (k + 1 + 1) = c2 at h1 h2 ⊢
      simp only [Nat.add_mul, Nat.mul_add, Nat.one_mul] at h1 h2 ⊢
      omega
/-- the sum for i = 0 .. t of (n over i) h^i (1000 - h)^(k - i) -/
def pm_G (n h k : Nat) : Nat → Nat
  | 0 => (1000 - h) ^ k
  | t + 1 => pm_G n h k t + pm_ch n (t + 1) * h ^ (t + 1) * (1000 - h) ^ (k - (t + 1))
theorem pm_G0 (n h k : Nat) : pm_G n h k 0 = (1000 - h) ^ k := rfl
theorem pm_GS (n h k t : Nat) : pm_G n h k (t + 1) = pm_G n h k t + pm_ch n (t + 1) * h ^ (t + 1) * (1000 - h) ^ (k - (t + 1)) := rfl
theorem pm_G_up (n h k t : Nat) (ht : t ≤ k) : pm_G n h (k + 1) t = (1000 - h) * pm_G n h k t := by
  induction t with
  | zero => rw [pm_G0, pm_G0, Nat.pow_succ, Nat.mul_comm]
  | succ t ih =>
    rw [pm_GS, pm_GS, ih (by omega)]
    have e : k + 1 - (t + 1) = (k - (t + 1)) + 1 := by omega
    rw [e, Nat.pow_succ (1000 - h) (k - (t + 1))]
    generalize (1000 - h) ^ (k - (t + 1)) = gp
    generalize h ^ (t + 1) = hp
    generalize pm_ch n (t + 1) = c
    generalize pm_G n h k t = G
    generalize 1000 - h = g
    simp only [Nat.mul_add, Nat.mul_assoc, Nat.mul_comm, Nat.mul_left_comm]
theorem pm_G_st (n h k t : Nat) (ht : n ≤ t) : pm_G n h k t = pm_G n h k n := by
  induction t with
  | zero =>
    obtain rfl : n = 0 := by omega
    rfl
  | succ t ih =>
    rcases Nat.lt_or_ge t n with q | q
    · obtain rfl : t + 1 = n := by omega
      rfl
    · rw [pm_GS, pm_ch_gt n (t + 1) (by omega), Nat.zero_mul, Nat.zero_mul, Nat.add_zero, ih q]
theorem pm_G_upn (n h t : Nat) : pm_G n h (n + 1) t = (1000 - h) * pm_G n h n t := by
  rcases Nat.le_total t n with q | q
  · exact pm_G_up n h n t q
  · rw [pm_G_st n h (n + 1) t q, pm_G_st n h n t q]
    exact pm_G_up n h n n (Nat.le_refl n)
theorem pm_G_pas (n h k t : Nat) : pm_G (n + 1) h (k + 1) (t + 1) = pm_G n h (k + 1) (t + 1) + h * pm_G n h k t := by
  induction t with
  | zero =>
    rw [pm_GS (n + 1), pm_GS n, pm_G0, pm_G0, pm_G0, pm_chS, pm_ch0]
    have e : k + 1 - (0 + 1) = k := by omega
    rw [e]
    generalize (1000 - h) ^ (k + 1) = a
    generalize (1000 - h) ^ k = b
    generalize pm_ch n (0 + 1) = c
    simp only [Nat.zero_add, Nat.pow_one, Nat.add_mul, Nat.one_mul]
    omega
  | succ t ih =>
    rw [pm_GS (n + 1) h (k + 1) (t + 1), ih, pm_GS n h (k + 1) (t + 1), pm_GS n h k t, pm_chS]
    have e : k + 1 - (t + 1 + 1) = k - (t + 1) := by omega
    rw [e, Nat.pow_succ h (t + 1)]
    generalize (1000 - h) ^ (k - (t + 1)) = gp
    generalize h ^ (t + 1) = hp
    generalize pm_ch n (t + 1) = c0
    generalize pm_ch n (t + 1 + 1) = c1
    generalize pm_G n h k t = G0
    generalize pm_G n h (k + 1) (t + 1) = G1
    simp only [Nat.add_mul, Nat.mul_add, Nat.mul_assoc, Nat.mul_comm, Nat.mul_left_comm]
    omega
theorem pm_G_pn (n h t : Nat) : pm_G (n + 1) h (n + 1) (t + 1) = (1000 - h) * pm_G n h n (t + 1) + h * pm_G n h n t := by
  rw [pm_G_pas, pm_G_upn]
theorem pm_G_le1 (n h k t : Nat) : pm_G n h k t ≤ pm_G n h k (t + 1) := by rw [pm_GS]; exact Nat.le_add_right _ _
theorem pm_G_le (n h k t d : Nat) : pm_G n h k t ≤ pm_G n h k (t + d) := by
  induction d with
  | zero => exact Nat.le_refl _
  | succ d ih => exact Nat.le_trans ih (pm_G_le1 n h k (t + d))
/-- it never rises with h -/
theorem pm_P_step (n : Nat) : ∀ m h, h + 1 ≤ 1000 → pm_G n (h + 1) n m ≤ pm_G n h n m := by
  induction n with
  | zero =>
    intro m h _
    rw [pm_G_st 0 (h + 1) 0 m (Nat.zero_le m), pm_G_st 0 h 0 m (Nat.zero_le m), pm_G0, pm_G0, Nat.pow_zero, Nat.pow_zero]
    exact Nat.le_refl 1
  | succ n ih =>
    intro m h hh
    cases m with
    | zero =>
      rw [pm_G0, pm_G0]
      exact Nat.pow_le_pow_left (by omega) _
    | succ m =>
      rw [pm_G_pn, pm_G_pn]
      have a := ih m h hh
      have b := ih (m + 1) h hh
      have cc := pm_G_le1 n (h + 1) n m
      have e : 1000 - h = (1000 - (h + 1)) + 1 := by omega
      rw [e]
      generalize pm_G n (h + 1) n m = a1 at a cc ⊢
      generalize pm_G n (h + 1) n (m + 1) = b1 at b cc ⊢
      generalize pm_G n h n m = a0 at a ⊢
      generalize pm_G n h n (m + 1) = b0 at b ⊢
      generalize 1000 - (h + 1) = g
      have h1 : g * b1 ≤ g * b0 := Nat.mul_le_mul_left g b
      have h2 : h * a1 ≤ h * a0 := Nat.mul_le_mul_left h a
      simp only [Nat.add_mul, Nat.one_mul]
      omega
theorem pm_P_anti (n m d : Nat) : ∀ h, h + d ≤ 1000 → pm_G n (h + d) n m ≤ pm_G n h n m := by
  induction d with
  | zero => intro h _; exact Nat.le_refl _
  | succ d ih =>
    intro h hh
    exact Nat.le_trans (pm_P_step n m (h + d) (by omega)) (ih h (by omega))
theorem pm_P_full (n h : Nat) (hh : h ≤ 1000) : pm_G n h n n = 1000 ^ n := by
  induction n with
  | zero => rfl
  | succ n ih =>
    rw [pm_G_pn, pm_G_st n h n (n + 1) (by omega), ih, ← Nat.add_mul, show 1000 - h + h = 1000 by omega, Nat.pow_succ, Nat.mul_comm]
theorem pm_P_le (n m h : Nat) (hh : h ≤ 1000) : pm_G n h n m ≤ 1000 ^ n := by
  rw [← pm_P_full n h hh]
  rcases Nat.le_total m n with q | q
  · have := pm_G_le n h n m (n - m)
    rwa [show m + (n - m) = n by omega] at this
  · rw [pm_G_st n h n m q]
    exact Nat.le_refl _
theorem pm_P_zero (n m k : Nat) : pm_G n 0 k m = 1000 ^ k := by
  induction m with
  | zero => rfl
  | succ m ih => rw [pm_GS, ih, Nat.zero_pow (by omega), Nat.mul_zero, Nat.zero_mul, Nat.add_zero]
/-- on its way to n the sum stays small -/
theorem pm_G_bd (h : Nat) (hh : h ≤ 1000) (n : Nat) : ∀ k, k ≤ n → pm_G n h k k ≤ 1001 ^ n := by
  induction n with
  | zero =>
    intro k hk
    obtain rfl : k = 0 := by omega
    exact Nat.le_refl 1
  | succ n ih =>
    intro k hk
    cases k with
    | zero =>
      rw [pm_G0, Nat.pow_zero]
      exact Nat.pow_pos (by omega)
    | succ k =>
      rcases Nat.lt_or_ge k n with q | q
      · rw [pm_G_pas]
        have a := ih (k + 1) (by omega)
        have b := ih k (by omega)
        have b2 := Nat.mul_le_mul hh b
        rw [Nat.pow_succ]
        omega
      · obtain rfl : k = n := by omega
        rw [pm_P_full _ h hh]
        exact Nat.pow_le_pow_left (by omega) _
theorem pm_c_le (n h k : Nat) : pm_ch n k * h ^ k ≤ pm_G n h k k := by
  cases k with
  | zero => rw [pm_ch0, pm_G0, Nat.pow_zero, Nat.pow_zero]; exact Nat.le_refl 1
  | succ k =>
    rw [pm_GS, Nat.sub_self, Nat.pow_zero, Nat.mul_one]
    exact Nat.le_add_left _ _
theorem pm_1001 {n : Nat} (hn : n ≤ 48) : 1001 ^ n * 1000 ^ (48 - n) ≤ 2 * 1000 ^ 48 := by
  have h1 : 1001 ^ n * 1000 ^ (48 - n) ≤ 1001 ^ n * 1001 ^ (48 - n) := Nat.mul_le_mul_left _ (Nat.pow_le_pow_left (by omega) _)
  rw [← Nat.pow_add, show n + (48 - n) = 48 by omega] at h1
  exact Nat.le_trans h1 (by decide +kernel)
/-- the two sums beside each other make the whole -/
theorem pm_compl0 (n h : Nat) (hh : h ≤ 1000) : pm_G (n + 1) h (n + 1) 0 + pm_G (n + 1) (1000 - h) (n + 1) n = 1000 ^ (n + 1) := by
  induction n with
  | zero =>
    rw [pm_G0, pm_G0, Nat.pow_succ, Nat.pow_succ, Nat.pow_succ, Nat.pow_zero, Nat.pow_zero, Nat.pow_zero]
    omega
  | succ n ih =>
    rw [pm_G_pn (n + 1) (1000 - h) n, pm_P_full (n + 1) (1000 - h) (by omega)]
    rw [pm_G0] at ih ⊢
    have e : 1000 - (1000 - h) = h := by omega
    rw [e, Nat.pow_succ (1000 - h) (n + 1), Nat.pow_succ 1000 (n + 1)]
    generalize (1000 - h) ^ (n + 1) = a at ih ⊢
    generalize pm_G (n + 1) (1000 - h) (n + 1) n = b at ih ⊢
    rw [← ih]
    obtain ⟨g, hg⟩ : ∃ g, g = 1000 - h := ⟨_, rfl⟩
    rw [← hg]
    obtain rfl : h = 1000 - g := by omega
    obtain ⟨k, hk⟩ : ∃ k, k = 1000 - g := ⟨_, rfl⟩
    rw [← hk]
    have e2 : 1000 = g + k := by omega
    rw [e2]
    simp only [Nat.add_mul, Nat.mul_add, Nat.mul_comm]
    omega
end
section
/-! DECIMALS: 17 parts of nine digits, the last ones first: what they tell -/
def pd_v (d : Nat → Nat) : Nat → Nat
  | 0 => 0
  | i + 1 => pd_v d i + d i * 1000000000 ^ i
theorem pd_v0 (d : Nat → Nat) : pd_v d 0 = 0 := rfl
theorem pd_vS (d : Nat → Nat) (i : Nat) : pd_v d (i + 1) = pd_v d i + d i * 1000000000 ^ i := rfl
def pd_ok (d : Nat → Nat) : Prop := ∀ j, j < 17 → d j < 1000000000
theorem pd_congr {d e : Nat → Nat} (i : Nat) (h : ∀ j, j < i → d j = e j) : pd_v d i = pd_v e i := by
  induction i with
  | zero => rfl
  | succ i ih => rw [pd_vS, pd_vS, ih (fun j hj => h j (by omega)), h i (by omega)]
theorem pd_lt {d : Nat → Nat} (i : Nat) (h : ∀ j, j < i → d j < 1000000000) : pd_v d i < 1000000000 ^ i := by
  induction i with
  | zero => rw [pd_v0, Nat.pow_zero]; omega
  | succ i ih =>
    have h1 := ih (fun j hj => h j (by omega))
    have h2 : d i + 1 ≤ 1000000000 := h i (by omega)
    have h3 := Nat.mul_le_mul_right (1000000000 ^ i) h2
    rw [pd_vS, Nat.pow_succ, Nat.mul_comm (1000000000 ^ i)]
    rw [Nat.add_mul, Nat.one_mul] at h3
    omega
theorem pd_up (d : Nat → Nat) (i x : Nat) : pd_v (va_up d i x) i = pd_v d i := pd_congr i (fun j hj => va_up_ne d x (by omega))
theorem pd_upS (d : Nat → Nat) (i x : Nat) : pd_v (va_up d i x) (i + 1) = pd_v d i + x * 1000000000 ^ i := by rw [pd_vS, pd_up, va_up_self]
theorem pd_0 (d : Nat → Nat) (i : Nat) (h : ∀ j, j < i → d j = 0) : pd_v d i = 0 := by
  induction i with
  | zero => rfl
  | succ i ih => rw [pd_vS, ih (fun j hj => h j (by omega)), h i (by omega), Nat.zero_mul]
theorem pd_pos (d : Nat → Nat) (i j : Nat) (hj : j < i) (h : d j ≠ 0) : 0 < pd_v d i := by
  induction i with
  | zero => omega
  | succ i ih =>
    rw [pd_vS]
    rcases Nat.lt_or_ge j i with q | q
    · have := ih q
      omega
    · obtain rfl : j = i := by omega
      have h1 : 0 < d j * 1000000000 ^ j := Nat.mul_pos (by omega) (Nat.pow_pos (by omega))
      omega
/-- one part multiplied -/
theorem pd_mul {d d2 : Nat → Nat} {i f k : Nat} (hv : pd_v d2 i + k * 1000000000 ^ i = f * pd_v d i) : pd_v (va_up d2 i ((d i * f + k) % 1000000000)) (i + 1) + (d i * f + k) / 1000000000 * 1000000000 ^ (i + 1) = f * pd_v d (i + 1) := by
  rw [pd_upS, pd_vS, Nat.pow_succ]
  generalize 1000000000 ^ i = P at hv ⊢
  have e1 := Nat.mod_add_div (d i * f + k) 1000000000
  generalize (d i * f + k) % 1000000000 = r at e1 ⊢
  generalize (d i * f + k) / 1000000000 = q at e1 ⊢
  have e2 : r * P + q * (P * 1000000000) = (d i * f + k) * P := by
    rw [← e1, Nat.add_mul]
    simp only [Nat.mul_assoc, Nat.mul_comm, Nat.mul_left_comm]
  have e3 : f * (pd_v d i + d i * P) = f * pd_v d i + d i * f * P := by
    rw [Nat.mul_add]
    simp only [Nat.mul_assoc, Nat.mul_comm, Nat.mul_left_comm]
  rw [e3, ← hv]
  rw [Nat.add_mul] at e2
  omega
/-- two parts added -/
theorem pd_add {d d2 e : Nat → Nat} {i k k2 r : Nat} (hv : pd_v d2 i + k * 1000000000 ^ i = pd_v d i + pd_v e i) (hr : r + k2 * 1000000000 = d i + e i + k) : pd_v (va_up d2 i r) (i + 1) + k2 * 1000000000 ^ (i + 1) = pd_v d (i + 1) + pd_v e (i + 1) := by
  rw [pd_upS, pd_vS, pd_vS, Nat.pow_succ]
  generalize 1000000000 ^ i = P at hv ⊢
  have e2 : r * P + k2 * (P * 1000000000) = (d i + e i + k) * P := by
    rw [← hr, Nat.add_mul]
    simp only [Nat.mul_assoc, Nat.mul_comm, Nat.mul_left_comm]
  simp only [Nat.add_mul] at e2
  omega
/-- the first r parts, from the top -/
def pd_h (d : Nat → Nat) : Nat → Nat
  | 0 => 0
  | r + 1 => pd_h d r * 1000000000 + d (16 - r)
theorem pd_h0 (d : Nat → Nat) : pd_h d 0 = 0 := rfl
theorem pd_hS (d : Nat → Nat) (r : Nat) : pd_h d (r + 1) = pd_h d r * 1000000000 + d (16 - r) := rfl
theorem pd_hv (d : Nat → Nat) (r : Nat) (hr : r ≤ 17) : pd_v d 17 = pd_h d r * 1000000000 ^ (17 - r) + pd_v d (17 - r) := by
  induction r with
  | zero => rw [pd_h0, Nat.zero_mul, Nat.zero_add]
  | succ r ih =>
    rw [ih (by omega), pd_hS]
    obtain ⟨t, ht⟩ : ∃ t, 16 - r = t := ⟨_, rfl⟩
    have e1 : 17 - r = t + 1 := by omega
    have e2 : 17 - (r + 1) = t := by omega
    rw [e1, e2, ht, pd_vS, Nat.pow_succ, Nat.add_mul]
    generalize 1000000000 ^ t = P
    have e3 : pd_h d r * (P * 1000000000) = pd_h d r * 1000000000 * P := by simp only [Nat.mul_assoc, Nat.mul_comm, Nat.mul_left_comm]
    omega
theorem pd_h17 (d : Nat → Nat) : pd_v d 17 = pd_h d 17 := by
  have := pd_hv d 17 (Nat.le_refl 17)
  rwa [Nat.sub_self, Nat.pow_zero, Nat.mul_one, pd_v0, Nat.add_zero] at this
theorem pd_hc {d e : Nat → Nat} (r : Nat) (hr : r ≤ 17) (h : ∀ j, 17 - r ≤ j → d j = e j) : pd_h d r = pd_h e r := by
  induction r with
  | zero => rfl
  | succ r ih => rw [pd_hS, pd_hS, ih (by omega) (fun j hj => h j (by omega)), h (16 - r) (by omega)]
/-- one part divided -/
theorem pd_div {d d2 : Nat → Nat} {r k w : Nat} (hr : r ≤ 16) (hv : pd_h d r = k * pd_h d2 r + w) : pd_h d (r + 1) = k * pd_h (va_up d2 (16 - r) ((w * 1000000000 + d (16 - r)) / k)) (r + 1) + (w * 1000000000 + d (16 - r)) % k := by
  rw [pd_hS, pd_hS, va_up_self, pd_hc (e := d2) r (by omega) (fun j hj => va_up_ne d2 _ (by omega)), hv]
  have e1 := Nat.mod_add_div (w * 1000000000 + d (16 - r)) k
  generalize (w * 1000000000 + d (16 - r)) % k = x at e1 ⊢
  generalize (w * 1000000000 + d (16 - r)) / k = q at e1 ⊢
  rw [Nat.mul_add, Nat.add_mul, Nat.mul_assoc]
  omega
/-- 1 / 1000^n -/
theorem pd_thou (t : Nat) : 1000 ^ t = 1000 ^ (t % 3) * 1000000000 ^ (t / 3) := by
  have e : (1000000000 : Nat) = 1000 ^ 3 := by decide
  rw [e, ← Nat.pow_mul, ← Nat.pow_add]
  congr 1
  omega
theorem pd_one (i x : Nat) (hi : i < 17) : pd_v (va_up (fun _ => 0) i x) 17 = x * 1000000000 ^ i := by
  have h : ∀ r, i < r → pd_v (va_up (fun _ => 0) i x) r = x * 1000000000 ^ i := by
    intro r
    induction r with
    | zero => intro h; omega
    | succ r ih =>
      intro h
      rcases Nat.lt_or_ge i r with q | q
      · rw [pd_vS, ih q, va_up_ne _ _ (by omega), Nat.zero_mul, Nat.add_zero]
      · obtain rfl : i = r := by omega
        rw [pd_upS, pd_0 _ _ (fun _ _ => rfl), Nat.zero_add]
  exact h 17 hi
/-- the machine's numbers -/
theorem lN_st (d : Nat → Nat) (i v : Nat) : vp_updL (fun j => lN (d j)) i (lN v) = fun j => lN (va_up d i v j) := by
  funext j
  by_cases h : j = i
  · subst h
    rw [va_up_self]
    exact pk_uLs
  · rw [va_up_ne _ _ h]
    exact pk_uLn h
theorem lN_lit (n : Nat) : (OfNat.ofNat n : Int64) = lN n := rfl
theorem lN_md (a b : Nat) : lN a - lN (a / b * b) = lN (a % b) := by
  rw [lN_sub (Nat.div_mul_le_self a b)]
  exact congrArg lN (by have := Nat.div_add_mod' a b; omega)
/-- 1 / 1000^n, as it is set -/
theorem pd_set {d : Nat → Nat} {n k : Nat} (hz : ∀ j, j < 17 → d j = 0) (hn : n ≤ 48) (hk : k = (48 - n) % 3) : pd_ok (va_up d ((48 - n) / 3) (1000 ^ k)) ∧ pd_v (va_up d ((48 - n) / 3) (1000 ^ k)) 17 = 1000 ^ (48 - n) := by
  have hi : (48 - n) / 3 < 17 := by omega
  have hp : 1000 ^ k < 1000000000 := by
    have : k = 0 ∨ k = 1 ∨ k = 2 := by omega
    rcases this with rfl | rfl | rfl <;> decide
  refine ⟨fun j hj => ?_, ?_⟩
  · by_cases h : j = (48 - n) / 3
    · rw [h, va_up_self]
      exact hp
    · rw [va_up_ne _ _ h, hz j hj]
      decide
  · rw [pd_congr (e := va_up (fun _ => 0) ((48 - n) / 3) (1000 ^ k)) 17 (fun j hj => ?_), pd_one _ _ hi, pd_thou (48 - n), hk]
    by_cases h : j = (48 - n) / 3
    · rw [h, va_up_self, va_up_self]
    · rw [va_up_ne _ _ h, va_up_ne _ _ h, hz j hj]
theorem pd_mulI {d d2 : Nat → Nat} {i f k : Nat} (hi : i < 17) (hd : pd_ok d) (hf : f ≤ 48000) (hk : ∀ j, i ≤ j → d2 j = d j) (hlo : ∀ j, j < i → d2 j < 1000000000) (hv : pd_v d2 i + k * 1000000000 ^ i = f * pd_v d i) (hc : k ≤ f) :
    (∀ j, i + 1 ≤ j → va_up d2 i ((d i * f + k) % 1000000000) j = d j) ∧ (∀ j, j < i + 1 → va_up d2 i ((d i * f + k) % 1000000000) j < 1000000000) ∧ pd_v (va_up d2 i ((d i * f + k) % 1000000000)) (i + 1) + (d i * f + k) / 1000000000 * 1000000000 ^ (i + 1) = f * pd_v d (i + 1) ∧ (d i * f + k) / 1000000000 ≤ f := by
  refine ⟨fun j hj => by rw [va_up_ne _ _ (by omega)]; exact hk j (by omega), fun j hj => ?_, pd_mul hv, ?_⟩
  · by_cases h : j = i
    · rw [h, va_up_self]
      exact Nat.mod_lt _ (by decide)
    · rw [va_up_ne _ _ h]
      exact hlo j (by omega)
  · have h1 : d i + 1 ≤ 1000000000 := hd i hi
    have h2 := Nat.mul_le_mul_right f h1
    rw [Nat.add_mul, Nat.one_mul] at h2
    exact Nat.div_le_of_le_mul (by omega)
theorem pd_mulB {d : Nat → Nat} {i f k : Nat} (hi : i < 17) (hd : pd_ok d) (hf : f ≤ 48000) (hc : k ≤ f) : d i * f + k < 2 ^ 63 := by
  have h1 := Nat.mul_le_mul (Nat.le_of_lt (hd i hi)) hf
  omega
theorem pd_top {a b k : Nat} (h : a + k * 1000000000 ^ 17 = b) (hb : b < 1000000000 ^ 17) : a = b := by
  rcases Nat.eq_zero_or_pos k with q | q
  · rw [q] at h
    omega
  · have := Nat.mul_le_mul_right (1000000000 ^ 17) q
    omega
theorem pd_divI {d d2 : Nat → Nat} {i k w : Nat} (hi : i < 17) (hd : pd_ok d) (hk : 1 ≤ k) (hv : pd_h d (17 - (i + 1)) = k * pd_h d2 (17 - (i + 1)) + w) (hw : w < k) (heq : ∀ j, j < i + 1 → d2 j = d j) (hok : ∀ j, i + 1 ≤ j → j < 17 → d2 j < 1000000000) :
    pd_h d (17 - i) = k * pd_h (va_up d2 i ((w * 1000000000 + d i) / k)) (17 - i) + (w * 1000000000 + d i) % k ∧ (w * 1000000000 + d i) % k < k ∧ (∀ j, j < i → va_up d2 i ((w * 1000000000 + d i) / k) j = d j) ∧ (∀ j, i ≤ j → j < 17 → va_up d2 i ((w * 1000000000 + d i) / k) j < 1000000000) := by
  obtain ⟨r, hr⟩ : ∃ r, 17 - (i + 1) = r := ⟨_, rfl⟩
  have e1 : 17 - i = r + 1 := by omega
  have e2 : 16 - r = i := by omega
  rw [hr] at hv
  have h1 := pd_div (d := d) (d2 := d2) (r := r) (k := k) (w := w) (by omega) hv
  rw [e2] at h1
  refine ⟨by rw [e1]; exact h1, Nat.mod_lt _ (by omega), fun j hj => by rw [va_up_ne _ _ (by omega)]; exact heq j (by omega), fun j h1 h2 => ?_⟩
  by_cases h : j = i
  · rw [h, va_up_self]
    have h3 := hd i hi
    refine (Nat.div_lt_iff_lt_mul (by omega)).mpr ?_
    have h4 : (w + 1) * 1000000000 ≤ k * 1000000000 := Nat.mul_le_mul_right _ hw
    omega
  · rw [va_up_ne _ _ h]
    exact hok j (by omega) h2
theorem pd_divE {d d2 : Nat → Nat} {k w : Nat} (hv : pd_h d 17 = k * pd_h d2 17 + w) (hw : w < k) : pd_v d2 17 = pd_v d 17 / k := by
  rw [pd_h17, pd_h17, hv, Nat.add_comm, Nat.add_mul_div_left _ _ (by omega), Nat.div_eq_of_lt hw, Nat.zero_add]
theorem pd_addI {d d2 e : Nat → Nat} {i k k2 r : Nat} (hi : i < 17) (hk : ∀ j, i ≤ j → d2 j = d j) (hlo : ∀ j, j < i → d2 j < 1000000000) (hv : pd_v d2 i + k * 1000000000 ^ i = pd_v d i + pd_v e i) (hr : r + k2 * 1000000000 = d i + e i + k) (h3 : r < 1000000000) :
    (∀ j, i + 1 ≤ j → va_up d2 i r j = d j) ∧ (∀ j, j < i + 1 → va_up d2 i r j < 1000000000) ∧ pd_v (va_up d2 i r) (i + 1) + k2 * 1000000000 ^ (i + 1) = pd_v d (i + 1) + pd_v e (i + 1) := by
  refine ⟨fun j hj => by rw [va_up_ne _ _ (by omega)]; exact hk j (by omega), fun j hj => ?_, pd_add hv hr⟩
  by_cases h : j = i
  · rw [h, va_up_self]
    exact h3
  · rw [va_up_ne _ _ h]
    exact hlo j (by omega)
theorem lN_s0 (a : Nat) : lN a - lN 0 = lN a := by rw [lN_sub (Nat.zero_le a), Nat.sub_zero]
theorem pd_15 (d : Nat → Nat) : pd_v d 17 = pd_v d 15 + d 15 * 1000000000 ^ 15 + d 16 * 1000000000 ^ 16 := by
  rw [show (17 : Nat) = 16 + 1 from rfl, pd_vS, show (16 : Nat) = 15 + 1 from rfl, pd_vS]
theorem pd_14 (d : Nat → Nat) (hd : pd_ok d) : pd_v d 17 / 1000000000 ^ 14 = (d 16 * 1000000000 + d 15) * 1000000000 + d 14 := by
  have h1 : pd_v d 15 = pd_v d 14 + d 14 * 1000000000 ^ 14 := pd_vS d 14
  have h2 := pd_lt (d := d) 14 (fun j hj => hd j (by omega))
  rw [pd_15, h1]
  have e : pd_v d 14 + d 14 * 1000000000 ^ 14 + d 15 * 1000000000 ^ 15 + d 16 * 1000000000 ^ 16 = pd_v d 14 + 1000000000 ^ 14 * ((d 16 * 1000000000 + d 15) * 1000000000 + d 14) := by
    rw [show (1000000000 : Nat) ^ 15 = 1000000000 ^ 14 * 1000000000 from rfl, show (1000000000 : Nat) ^ 16 = 1000000000 ^ 14 * 1000000000 * 1000000000 from rfl]
    generalize (1000000000 : Nat) ^ 14 = P
    simp only [Nat.mul_add, Nat.add_mul, Nat.mul_assoc, Nat.mul_comm, Nat.mul_left_comm]
    omega
  rw [e, Nat.add_mul_div_left _ _ (Nat.pow_pos (by decide)), Nat.div_eq_of_lt h2, Nat.zero_add]
theorem pd_abT {d : Nat → Nat} {t : Nat} (ht : t ≤ 999) (h : 1 ≤ d 16) : t * 1000000 * 1000000000 ^ 15 < pd_v d 17 := by
  rw [pd_15]
  have h1 : t * 1000000 < 1000000000 := by omega
  have h2 := Nat.mul_lt_mul_of_pos_right h1 (Nat.pow_pos (n := 15) (show 0 < 1000000000 by decide))
  have h3 := Nat.mul_le_mul_right (1000000000 ^ 16) h
  have e : 1000000000 * 1000000000 ^ 15 = 1000000000 ^ 16 := by decide +kernel
  rw [e] at h2
  rw [Nat.one_mul] at h3
  exact Nat.lt_of_lt_of_le h2 (Nat.le_trans h3 (Nat.le_add_left _ _))
theorem pd_cut1 {d : Nat → Nat} (hd : pd_ok d) (h : pd_v d 17 ≤ 1000000000 ^ 16) : pd_v d 17 / 1000000000 ^ 14 ≤ 1000000000000000000 ∧ d 16 ≤ 1 := by
  have h1 : pd_v d 17 / 1000000000 ^ 14 ≤ 1000000000 ^ 16 / 1000000000 ^ 14 := Nat.div_le_div_right h
  have e : (1000000000 : Nat) ^ 16 / 1000000000 ^ 14 = 1000000000000000000 := by decide +kernel
  rw [e] at h1
  refine ⟨h1, ?_⟩
  rw [pd_14 d hd] at h1
  omega
theorem pd_abG {d : Nat → Nat} {t : Nat} (h : t * 1000000 < d 15) : t * 1000000 * 1000000000 ^ 15 < pd_v d 17 := by
  rw [pd_15]
  have h2 := Nat.mul_lt_mul_of_pos_right h (Nat.pow_pos (n := 15) (show 0 < 1000000000 by decide))
  exact Nat.lt_of_lt_of_le h2 (Nat.le_trans (Nat.le_add_left _ _) (Nat.le_add_right _ _))
theorem lN_cut {V : Nat} (k : Nat) (hV : V ≤ 1000000000000000000) : lN (V / 10 ^ k) / 10 = lN (V / 10 ^ (k + 1)) := by
  rw [Nat.pow_succ, ← Nat.div_div_eq_div_mul]
  exact pk_lDiv (a := V / 10 ^ k) (b := 10) (Nat.lt_of_le_of_lt (Nat.div_le_self _ _) (Nat.lt_of_le_of_lt hV (by decide +kernel))) (by decide) (by decide)
end
section
set_option maxHeartbeats 4000000 in
set_option maxRecDepth 100000 in
theorem c_dec_init (l : Launch) (dC : Nat → ClassId) (dI : Nat → Nat → Nat) (h0 : Nat) (sz : Nat)  : Met l yX1_init wsX1_init ({ frames := 1, cells := 1, slots := 17, locals := 12 } : Room) (va_Pc [.ref h0] (fw_pW (dC, dI) vwCl [] [(h0, .inr (1, [.null]))] sz)) (va_Qv (S := Nat × ClassId) (fun _ => True) (fun u t => match u with | (q, cJ) => fw_q (dC, dI) vwCl [(cJ, .long)] (va_A [(h0, .inr (1, [.null]))] sz) [(h0, .inr (1, [.ref q])), (q, .inl (cJ, 17, .inr (.inl (fun _ => 0))))] t) (va_A [(h0, .inr (1, [.null]))] sz)) 1 17 (va_A [(h0, .inr (1, [.null]))] sz) := by
  refine fw_metW (cc := cX1_init) (maxL := 1) (ret := none) (by decide) rfl (Nat.le_of_ble_eq_true rfl) ?_
  intro zp ze zs zm zbelow zmeth zc ls hx hb hr hts hown hlocks hml hin hN hsz hP hK hD hA hS hl
  generalize hAe : (va_A [(h0, .inr (1, [.null]))] sz) = A at hD hA hS ⊢
  have hown : zs.vm.findClass RX1 = some zm.cls := hown
  have hin : zmeth.name = "<init>" := hin
  have hl : lv_has ls 1 [(0, .ref h0)] := hl
  refine lv_aload_n hx hb dX1_init_0 rfl (lv_at hl 0 rfl) ?_
  refine W.objInit hx hb hown (hts (.methodLink RX1 3 objectInit) (by decide +kernel)) (hts (.instanceMethod objectInit) (by decide +kernel)) (hts _ (by decide +kernel)) rfl (by rw [hml]; exact hl.1) rfl dX1_init_1 (Nat.le_of_ble_eq_true rfl) (Nat.le_of_ble_eq_true rfl) ?_
  refine W.eq (g2 := F0 zm 4 ls []) rfl ?_
  refine lv_aload_n hx hb dX1_init_4 rfl (lv_at hl 0 rfl) ?_
  refine lv_bipush (v := 17) hx hb dX1_init_5 (by decide) ?_
  refine va_newa (atype := .long) (ty := .long) (N' := 17) (a0 := (17, .inr (.inl (fun _ => 0)))) hx hb (hts (.arrayClass .long) (by decide +kernel)) rfl hK hP hD hS hA (fun _ => rfl) (by decide) (by decide) (by decide +kernel) (Nat.le_of_ble_eq_true rfl) (Nat.le_of_ble_eq_true rfl) dX1_init_7 (fun q7 cA7 H hK hP hD hS => ?_)
  have hK : va_K (dC, dI) vwCl [(cA7, .long)] zs := hK
  have hP : va_P (dC, dI) vwCl [(h0, .inr (1, [.null])), (q7, .inl (cA7, 17, .inr (.inl (fun _ => 0))))] H := hP
  have hD : va_D A [(h0, .inr (1, [.null])), (q7, .inl (cA7, 17, .inr (.inl (fun _ => 0))))] := hD
  refine W.widen (k := 1) (n := 17) (by decide) (by decide) ?_
  refine va_putF (D := (dC, dI)) (ci := 1) (v := .ref q7) (ty := (.array .long)) (C := RX1) (T := TX1) (N := 1) hx hb hts (by decide +kernel) tyX1 tyX1_ok nmX1 hown hK hP hD hS 0 rfl rfl 0 (by decide) (hts (.fieldLink RX1 11 "FlakyBounds$Decimal" "parts" "[J") (by decide +kernel)) (fun _ h9 => h9) rfl hin rfl (by decide +kernel) rfl rfl (Nat.le_of_ble_eq_true rfl) dX1_init_9 (fun H locs hP hD hS => ?_)
  have hP : va_P (dC, dI) vwCl [(h0, .inr (1, [.ref q7])), (q7, .inl (cA7, 17, .inr (.inl (fun _ => 0))))] H := hP
  have hD : va_D A [(h0, .inr (1, [.ref q7])), (q7, .inl (cA7, 17, .inr (.inl (fun _ => 0))))] := hD
  have hP9 := hP.sub (ws' := [(h0, .inr (1, [.ref q7])), (q7, .inl (cA7, 17, .inr (.inl (fun _ => 0))))]) [0, 1] rfl
  have hD9 := hD.sub (ws' := [(h0, .inr (1, [.ref q7])), (q7, .inl (cA7, 17, .inr (.inl (fun _ => 0))))]) [0, 1] (by decide) rfl
  have hK9 := hK.sub (tys' := [(cA7, .long)]) [0] rfl
  exact W.vret hx hb hr (fun zt zht hW => ⟨⟨(q7, cA7), rfl, trivial, by rw [zht]; exact hP9, va_K.moved hW.alike hK9, hD9⟩, hS.F zht⟩) hS.2.2 dX1_init_12 hlocks
set_option maxHeartbeats 4000000 in
set_option maxRecDepth 100000 in
theorem c_dec_set (l : Launch) (dC : Nat → ClassId) (dI : Nat → Nat → Nat) (h0 a0 : Nat) (cJ : ClassId) (d : Nat → Nat) (n : Nat) (sz : Nat) (hn48 : n ≤ 48) : Met l yX1_setThousandths wsX1_setThousandths ({ frames := 0, cells := 0, slots := 0, locals := 0 } : Room) (va_Pc [.ref h0, .int (nI n)] (fw_pW (dC, dI) vwCl [(cJ, .long)] [(h0, .inr (1, [.ref a0])), (a0, .inl (cJ, 17, .inr (.inl (fun j => lN (d j)))))] sz)) (va_Qv (S := Nat → Nat) (fun d2 => pd_ok d2 ∧ pd_v d2 17 = 1000 ^ (48 - n)) (fun u t => fw_q (dC, dI) vwCl [(cJ, .long)] (va_A [(h0, .inr (1, [.ref a0])), (a0, .inl (cJ, 17, .inr (.inl (fun j => lN (d j)))))] sz) [(h0, .inr (1, [.ref a0])), (a0, .inl (cJ, 17, .inr (.inl (fun j => lN (u j)))))] t) (va_A [(h0, .inr (1, [.ref a0])), (a0, .inl (cJ, 17, .inr (.inl (fun j => lN (d j)))))] sz)) 0 0 (va_A [(h0, .inr (1, [.ref a0])), (a0, .inl (cJ, 17, .inr (.inl (fun j => lN (d j)))))] sz) := by
  refine fw_metW (cc := cX1_setThousandths) (maxL := 5) (ret := none) (by decide) rfl (Nat.le_of_ble_eq_true rfl) ?_
  intro zp ze zs zm zbelow zmeth zc ls hx hb hr hts hown hlocks hml hin hN hsz hP hK hD hA hS hl
  generalize hAe : (va_A [(h0, .inr (1, [.ref a0])), (a0, .inl (cJ, 17, .inr (.inl (fun j => lN (d j)))))] sz) = A at hD hA hS ⊢
  have hown : zs.vm.findClass RX1 = some zm.cls := hown
  have hl : lv_has ls 5 [(0, .ref h0), (1, .int (nI n))] := hl
  refine lv_iconst (v := 0) hx hb dX1_setThousandths_0 (by decide) ?_
  refine lv_istore_n (lv' := [(2, .int 0), (0, .ref h0), (1, .int (nI n))]) hx hb dX1_setThousandths_1 rfl hl (by decide) rfl (fun ls hl => ?_)
  refine fw_loop (σ := Nat × (Nat → Nat)) (I := fun zn u H locs ls => match u with | (i, d2) => zn = 17 - i ∧ (i ≤ 17) ∧ (∀ j, j < i → d2 j = 0) ∧ va_P (dC, dI) vwCl [(h0, .inr (1, [.ref a0])), (a0, .inl (cJ, 17, .inr (.inl (fun j => lN (d2 j)))))] H ∧ va_D A [(h0, .inr (1, [.ref a0])), (a0, .inl (cJ, 17, .inr (.inl (fun j => lN (d2 j)))))] ∧ va_S A zs.heap H locs ∧ lv_has ls 5 [(0, .ref h0), (1, .int (nI n)), (2, .int (nI i))]) ?_ _ (0, d) _ _ _ ⟨rfl, by omega, fun j hj => by omega, hP.sub [0, 1] rfl, hD.sub [0, 1] (by decide) rfl, hS, lv_sub hl [1, 2, 0] rfl⟩
  intro zn u H locs ls hI ih_2
  obtain ⟨i, d2⟩ := u
  obtain ⟨hzn, hi, hz, hP, hD, hS, hl⟩ := hI
  refine lv_iload_n hx hb dX1_setThousandths_2 rfl (lv_at hl 2 rfl) ?_
  refine lv_bipush (v := 17) hx hb dX1_setThousandths_3 (by decide) ?_
  refine lv_icmp_ge (tgt := 21) hx hb dX1_setThousandths_5 (by decide) (fun c_5 => ?_) (fun c_5 => ?_)
  · -- then 5
    have hi17 : i = 17 := by have := (nI_leI (a := 17) (b := i) (by decide) (by omega)).mp c_5; omega
    subst hi17
    refine lv_bipush (v := 48) hx hb dX1_setThousandths_21 (by decide) ?_
    refine lv_iload_n hx hb dX1_setThousandths_23 rfl (lv_at hl 1 rfl) ?_
    refine lv_isub hx hb dX1_setThousandths_24 ?_
    refine fw_i (x' := nI (48 - n)) (pk_sub (a := 48) hn48) ?_
    refine lv_istore_n (lv' := [(2, .int (nI (48 - n))), (0, .ref h0), (1, .int (nI n))]) hx hb dX1_setThousandths_25 rfl hl (by decide) rfl (fun ls hl => ?_)
    refine lv_iload_n hx hb dX1_setThousandths_26 rfl (lv_at hl 0 rfl) ?_
    refine lv_iconst (v := 3) hx hb dX1_setThousandths_27 (by decide) ?_
    refine lv_idiv hx hb dX1_setThousandths_28 (by decide) ?_
    refine fw_i (x' := nI ((48 - n) / 3)) (pk_div (a := 48 - n) (d := 3) (by omega) (by omega) (by omega)) ?_
    refine lv_istore_n (lv' := [(3, .int (nI ((48 - n) / 3))), (2, .int (nI (48 - n))), (0, .ref h0), (1, .int (nI n))]) hx hb dX1_setThousandths_29 rfl hl (by decide) rfl (fun ls hl => ?_)
    refine lv_iload_n hx hb dX1_setThousandths_30 rfl (lv_at hl 1 rfl) ?_
    refine lv_if_lt (tgt := 40) hx hb dX1_setThousandths_31 (by decide) (fun c_31 => absurd c_31 (nI_pos (by omega))) (fun _ => ?_)
    refine lv_iload_n hx hb dX1_setThousandths_34 rfl (lv_at hl 0 rfl) ?_
    refine lv_bipush (v := 17) hx hb dX1_setThousandths_35 (by decide) ?_
    refine lv_icmp_lt (tgt := 41) hx hb dX1_setThousandths_37 (by decide) (fun _ => ?_) (fun c_37 => absurd (nI_lt (a := (48 - n) / 3) (b := 17) (by omega) (by decide)) c_37)
    refine lv_aload_n hx hb dX1_setThousandths_41 rfl (lv_at hl 2 rfl) ?_
    refine va_get (D := (dC, dI)) (ci := 1) (v := .ref a0) (C := RX1) (T := TX1) (N := 1) hx hb hts (by decide +kernel) hown hK hP 0 rfl rfl 0 (by decide) (hts (.fieldLink RX1 11 "FlakyBounds$Decimal" "parts" "[J") (by decide +kernel)) (fun _ h9 => h9) rfl dX1_setThousandths_42 ?_
    refine lv_iload_n hx hb dX1_setThousandths_45 rfl (lv_at hl 0 rfl) ?_
    refine lv_lconst (v := 1) hx hb dX1_setThousandths_46 (by decide) ?_
    refine va_last hx hb hK hP hD hS 1 0 rfl rfl (vp_in_nI (by omega) (by decide)) dX1_setThousandths_47 (fun H locs hP hD hS => ?_)
    have e_st : vp_updL (fun j => lN (d2 j)) (nI ((48 - n) / 3)).toNatClampNeg 1 = fun j => lN (va_up d2 ((48 - n) / 3) 1 j) := by rw [nI_clamp (by omega)]; exact lN_st d2 _ 1
    rw [e_st] at hP hD
    have hP : va_P (dC, dI) vwCl [(h0, .inr (1, [.ref a0])), (a0, .inl (cJ, 17, .inr (.inl (fun j => lN (va_up d2 ((48 - n) / 3) 1 j)))))] H := hP
    have hD : va_D A [(h0, .inr (1, [.ref a0])), (a0, .inl (cJ, 17, .inr (.inl (fun j => lN (va_up d2 ((48 - n) / 3) 1 j)))))] := hD
    refine lv_iconst (v := 0) hx hb dX1_setThousandths_48 (by decide) ?_
    refine lv_istore (lv' := [(4, .int 0), (3, .int (nI ((48 - n) / 3))), (2, .int (nI (48 - n))), (0, .ref h0), (1, .int (nI n))]) hx hb dX1_setThousandths_49 hl (by decide) rfl (fun ls hl => ?_)
    refine fw_loop (σ := Nat) (I := fun zn u H locs ls => match u with | k => zn = (48 - n) % 3 - k ∧ (k ≤ (48 - n) % 3) ∧ va_P (dC, dI) vwCl [(h0, .inr (1, [.ref a0])), (a0, .inl (cJ, 17, .inr (.inl (fun j => lN ((va_up d2 ((48 - n) / 3) (1000 ^ k)) j)))))] H ∧ va_D A [(h0, .inr (1, [.ref a0])), (a0, .inl (cJ, 17, .inr (.inl (fun j => lN ((va_up d2 ((48 - n) / 3) (1000 ^ k)) j)))))] ∧ va_S A zs.heap H locs ∧ lv_has ls 5 [(0, .ref h0), (2, .int (nI (48 - n))), (3, .int (nI ((48 - n) / 3))), (4, .int (nI k))]) ?_ _ 0 _ _ _ ⟨rfl, by omega, hP.sub [0, 1] rfl, hD.sub [0, 1] (by decide) rfl, hS, lv_sub hl [3, 2, 1, 0] rfl⟩
    intro zn k H locs ls hI ih_51
    obtain ⟨hzn, hk, hP, hD, hS, hl⟩ := hI
    refine lv_iload hx hb dX1_setThousandths_51 (lv_at hl 3 rfl) ?_
    refine lv_iload_n hx hb dX1_setThousandths_53 rfl (lv_at hl 1 rfl) ?_
    refine lv_iconst (v := 3) hx hb dX1_setThousandths_54 (by decide) ?_
    refine lv_irem hx hb dX1_setThousandths_55 (by decide) ?_
    refine fw_i (x' := nI ((48 - n) % 3)) (pk_rem (a := 48 - n) (d := 3) (by omega) (by omega) (by omega)) ?_
    refine lv_icmp_ge (tgt := 77) hx hb dX1_setThousandths_56 (by decide) (fun c_56 => ?_) (fun c_56 => ?_)
    · -- then 56
      have hk3 : k = (48 - n) % 3 := by have := (nI_leI (a := (48 - n) % 3) (b := k) (by omega) (by omega)).mp c_56; omega
      have hP9 := hP.sub (ws' := [(h0, .inr (1, [.ref a0])), (a0, .inl (cJ, 17, .inr (.inl (fun j => lN ((va_up d2 ((48 - n) / 3) (1000 ^ k)) j)))))]) [0, 1] rfl
      have hD9 := hD.sub (ws' := [(h0, .inr (1, [.ref a0])), (a0, .inl (cJ, 17, .inr (.inl (fun j => lN ((va_up d2 ((48 - n) / 3) (1000 ^ k)) j)))))]) [0, 1] (by decide) rfl
      have hK9 := hK.sub (tys' := [(cJ, .long)]) [0] rfl
      exact W.vret hx hb hr (fun zt zht hW => ⟨⟨va_up d2 ((48 - n) / 3) (1000 ^ k), rfl, pd_set hz hn48 hk3, by rw [zht]; exact hP9, va_K.moved hW.alike hK9, hD9⟩, hS.F zht⟩) hS.2.2 dX1_setThousandths_77 hlocks
    · -- else 56
      have hlt : k < (48 - n) % 3 := by
        rcases Nat.lt_or_ge k ((48 - n) % 3) with q | q
        · exact q
        · exact absurd (nI_le (a := (48 - n) % 3) (b := k) q (by omega)) c_56
      refine lv_aload_n hx hb dX1_setThousandths_59 rfl (lv_at hl 0 rfl) ?_
      refine va_get (D := (dC, dI)) (ci := 1) (v := .ref a0) (C := RX1) (T := TX1) (N := 1) hx hb hts (by decide +kernel) hown hK hP 0 rfl rfl 0 (by decide) (hts (.fieldLink RX1 11 "FlakyBounds$Decimal" "parts" "[J") (by decide +kernel)) (fun _ h9 => h9) rfl dX1_setThousandths_60 ?_
      refine lv_iload_n hx hb dX1_setThousandths_63 rfl (lv_at hl 2 rfl) ?_
      refine lv_dup2_11 hx hb dX1_setThousandths_64 rfl rfl ?_
      refine va_lald hx hb hK hP 1 0 rfl rfl (vp_in_nI (by omega) (by decide)) dX1_setThousandths_65 ?_
      refine fw_l (x' := lN (1000 ^ k)) (by rw [nI_clamp (by omega)]; show lN (va_up d2 _ _ _) = _; rw [va_up_self]) ?_
      refine lv_ldc2 (v := 1000) hx hb hown (hts (.constantLong RX1 15 1000) (by decide +kernel)) dX1_setThousandths_66 ?_
      refine lv_lmul hx hb dX1_setThousandths_69 ?_
      refine fw_l (x' := lN (1000 ^ (k + 1))) (by show lN _ * lN 1000 = _; rw [lN_mul, Nat.pow_succ]) ?_
      refine va_last hx hb hK hP hD hS 1 0 rfl rfl (vp_in_nI (by omega) (by decide)) dX1_setThousandths_70 (fun H locs hP hD hS => ?_)
      have e_st : vp_updL (fun j => lN ((va_up d2 ((48 - n) / 3) (1000 ^ k)) j)) (nI ((48 - n) / 3)).toNatClampNeg (lN (1000 ^ (k + 1))) = fun j => lN (va_up d2 ((48 - n) / 3) (1000 ^ (k + 1)) j) := by rw [nI_clamp (by omega), lN_st, bx_uu]
      rw [e_st] at hP hD
      have hP : va_P (dC, dI) vwCl [(h0, .inr (1, [.ref a0])), (a0, .inl (cJ, 17, .inr (.inl (fun j => lN (va_up d2 ((48 - n) / 3) (1000 ^ (k + 1)) j)))))] H := hP
      have hD : va_D A [(h0, .inr (1, [.ref a0])), (a0, .inl (cJ, 17, .inr (.inl (fun j => lN (va_up d2 ((48 - n) / 3) (1000 ^ (k + 1)) j)))))] := hD
      refine lv_iinc (v := nI (k + 1)) (lv' := [(4, .int (nI (k + 1))), (0, .ref h0), (2, .int (nI (48 - n))), (3, .int (nI ((48 - n) / 3)))]) hx hb dX1_setThousandths_71 hl (k := 3) rfl (nI_1 k) (by decide) rfl (fun ls hl => ?_)
      refine lv_goto (tgt := 51) hx hb dX1_setThousandths_74 (by decide) ?_
      exact ih_51 _ (k + 1) _ _ _ (by omega) ⟨rfl, by omega, hP.sub [0, 1] rfl, hD.sub [0, 1] (by decide) rfl, hS, lv_sub hl [1, 2, 3, 0] rfl⟩
  · -- else 5
    have hlt : i < 17 := by
      rcases Nat.lt_or_ge i 17 with q | q
      · exact q
      · exact absurd (nI_le (a := 17) (b := i) q (by omega)) c_5
    refine lv_aload_n hx hb dX1_setThousandths_8 rfl (lv_at hl 0 rfl) ?_
    refine va_get (D := (dC, dI)) (ci := 1) (v := .ref a0) (C := RX1) (T := TX1) (N := 1) hx hb hts (by decide +kernel) hown hK hP 0 rfl rfl 0 (by decide) (hts (.fieldLink RX1 11 "FlakyBounds$Decimal" "parts" "[J") (by decide +kernel)) (fun _ h9 => h9) rfl dX1_setThousandths_9 ?_
    refine lv_iload_n hx hb dX1_setThousandths_12 rfl (lv_at hl 2 rfl) ?_
    refine lv_lconst (v := 0) hx hb dX1_setThousandths_13 (by decide) ?_
    refine va_last hx hb hK hP hD hS 1 0 rfl rfl (vp_in_nI (by omega) (by decide)) dX1_setThousandths_14 (fun H locs hP hD hS => ?_)
    have e_st : vp_updL (fun j => lN (d2 j)) (nI i).toNatClampNeg 0 = fun j => lN (va_up d2 i 0 j) := by rw [nI_clamp (by omega)]; exact lN_st d2 i 0
    rw [e_st] at hP hD
    have hP : va_P (dC, dI) vwCl [(h0, .inr (1, [.ref a0])), (a0, .inl (cJ, 17, .inr (.inl (fun j => lN (va_up d2 i 0 j)))))] H := hP
    have hD : va_D A [(h0, .inr (1, [.ref a0])), (a0, .inl (cJ, 17, .inr (.inl (fun j => lN (va_up d2 i 0 j)))))] := hD
    refine lv_iinc (v := nI (i + 1)) (lv' := [(2, .int (nI (i + 1))), (0, .ref h0), (1, .int (nI n))]) hx hb dX1_setThousandths_15 hl (k := 2) rfl (nI_1 i) (by decide) rfl (fun ls hl => ?_)
    refine lv_goto (tgt := 2) hx hb dX1_setThousandths_18 (by decide) ?_
    have hz2 : ∀ j, j < i + 1 → va_up d2 i 0 j = 0 := by
      intro j hj
      by_cases h : j = i
      · rw [h, va_up_self]
      · rw [va_up_ne _ _ h]; exact hz j (by omega)
    exact ih_2 _ (i + 1, va_up d2 i 0) _ _ _ (by omega) ⟨rfl, by omega, hz2, hP.sub [0, 1] rfl, hD.sub [0, 1] (by decide) rfl, hS, lv_sub hl [1, 2, 0] rfl⟩
set_option maxHeartbeats 4000000 in
set_option maxRecDepth 100000 in
theorem c_dec_mul (l : Launch) (dC : Nat → ClassId) (dI : Nat → Nat → Nat) (h0 a0 : Nat) (cJ : ClassId) (d : Nat → Nat) (f : Nat) (sz : Nat) (hd : pd_ok d) (hf : f ≤ 48000) (hm : f * pd_v d 17 < 1000000000 ^ 17) : Met l yX1_multiply wsX1_multiply ({ frames := 0, cells := 0, slots := 0, locals := 0 } : Room) (va_Pc [.ref h0, .int (nI f)] (fw_pW (dC, dI) vwCl [(cJ, .long)] [(h0, .inr (1, [.ref a0])), (a0, .inl (cJ, 17, .inr (.inl (fun j => lN (d j)))))] sz)) (va_Qv (S := Nat → Nat) (fun d2 => pd_ok d2 ∧ pd_v d2 17 = f * pd_v d 17) (fun u t => fw_q (dC, dI) vwCl [(cJ, .long)] (va_A [(h0, .inr (1, [.ref a0])), (a0, .inl (cJ, 17, .inr (.inl (fun j => lN (d j)))))] sz) [(h0, .inr (1, [.ref a0])), (a0, .inl (cJ, 17, .inr (.inl (fun j => lN (u j)))))] t) (va_A [(h0, .inr (1, [.ref a0])), (a0, .inl (cJ, 17, .inr (.inl (fun j => lN (d j)))))] sz)) 0 0 (va_A [(h0, .inr (1, [.ref a0])), (a0, .inl (cJ, 17, .inr (.inl (fun j => lN (d j)))))] sz) := by
  refine fw_metW (cc := cX1_multiply) (maxL := 7) (ret := none) (by decide) rfl (Nat.le_of_ble_eq_true rfl) ?_
  intro zp ze zs zm zbelow zmeth zc ls hx hb hr hts hown hlocks hml hin hN hsz hP hK hD hA hS hl
  generalize hAe : (va_A [(h0, .inr (1, [.ref a0])), (a0, .inl (cJ, 17, .inr (.inl (fun j => lN (d j)))))] sz) = A at hD hA hS ⊢
  have hown : zs.vm.findClass RX1 = some zm.cls := hown
  have hl : lv_has ls 7 [(0, .ref h0), (1, .int (nI f))] := hl
  refine lv_lconst (v := 0) hx hb dX1_multiply_0 (by decide) ?_
  refine lv_lstore_n (lv' := [(2, .long 0), (0, .ref h0), (1, .int (nI f))]) hx hb dX1_multiply_1 rfl hl (by decide) rfl (fun ls hl => ?_)
  refine lv_iconst (v := 0) hx hb dX1_multiply_2 (by decide) ?_
  refine lv_istore (lv' := [(4, .int 0), (2, .long 0), (0, .ref h0), (1, .int (nI f))]) hx hb dX1_multiply_3 hl (by decide) rfl (fun ls hl => ?_)
  refine fw_loop (σ := Nat × Nat × (Nat → Nat)) (I := fun zn u H locs ls => match u with | (i, k, d2) => zn = 17 - i ∧ (i ≤ 17) ∧ (∀ j, i ≤ j → d2 j = d j) ∧ (∀ j, j < i → d2 j < 1000000000) ∧ (pd_v d2 i + k * 1000000000 ^ i = f * pd_v d i) ∧ (k ≤ f) ∧ va_P (dC, dI) vwCl [(h0, .inr (1, [.ref a0])), (a0, .inl (cJ, 17, .inr (.inl (fun j => lN (d2 j)))))] H ∧ va_D A [(h0, .inr (1, [.ref a0])), (a0, .inl (cJ, 17, .inr (.inl (fun j => lN (d2 j)))))] ∧ va_S A zs.heap H locs ∧ lv_has ls 7 [(0, .ref h0), (1, .int (nI f)), (2, .long (lN k)), (4, .int (nI i))]) ?_ _ (0, 0, d) _ _ _ ⟨rfl, by omega, fun _ _ => rfl, fun j hj => by omega, by simp [pd_v0], by omega, hP.sub [0, 1] rfl, hD.sub [0, 1] (by decide) rfl, hS, lv_sub hl [2, 3, 1, 0] rfl⟩
  intro zn u H locs ls hI ih_5
  obtain ⟨i, k, d2⟩ := u
  obtain ⟨hzn, hi, hk, hlo, hv, hc, hP, hD, hS, hl⟩ := hI
  refine lv_iload hx hb dX1_multiply_5 (lv_at hl 3 rfl) ?_
  refine lv_bipush (v := 17) hx hb dX1_multiply_7 (by decide) ?_
  refine lv_icmp_ge (tgt := 54) hx hb dX1_multiply_9 (by decide) (fun c_9 => ?_) (fun c_9 => ?_)
  · -- then 9
    have hi17 : i = 17 := by have := (nI_leI (a := 17) (b := i) (by decide) (by omega)).mp c_9; omega
    subst hi17
    have hP9 := hP.sub (ws' := [(h0, .inr (1, [.ref a0])), (a0, .inl (cJ, 17, .inr (.inl (fun j => lN (d2 j)))))]) [0, 1] rfl
    have hD9 := hD.sub (ws' := [(h0, .inr (1, [.ref a0])), (a0, .inl (cJ, 17, .inr (.inl (fun j => lN (d2 j)))))]) [0, 1] (by decide) rfl
    have hK9 := hK.sub (tys' := [(cJ, .long)]) [0] rfl
    exact W.vret hx hb hr (fun zt zht hW => ⟨⟨d2, rfl, ⟨fun j hj => hlo j hj, pd_top hv hm⟩, by rw [zht]; exact hP9, va_K.moved hW.alike hK9, hD9⟩, hS.F zht⟩) hS.2.2 dX1_multiply_54 hlocks
  · -- else 9
    have hlt : i < 17 := by
      rcases Nat.lt_or_ge i 17 with q | q
      · exact q
      · exact absurd (nI_le (a := 17) (b := i) q (by omega)) c_9
    have hbd : d i * f + k < 2 ^ 63 := pd_mulB hlt hd hf hc
    refine lv_aload_n hx hb dX1_multiply_12 rfl (lv_at hl 0 rfl) ?_
    refine va_get (D := (dC, dI)) (ci := 1) (v := .ref a0) (C := RX1) (T := TX1) (N := 1) hx hb hts (by decide +kernel) hown hK hP 0 rfl rfl 0 (by decide) (hts (.fieldLink RX1 11 "FlakyBounds$Decimal" "parts" "[J") (by decide +kernel)) (fun _ h9 => h9) rfl dX1_multiply_13 ?_
    refine lv_iload hx hb dX1_multiply_16 (lv_at hl 3 rfl) ?_
    refine va_lald hx hb hK hP 1 0 rfl rfl (vp_in_nI (by omega) (by decide)) dX1_multiply_18 ?_
    refine fw_l (x' := lN (d i)) (by rw [nI_clamp (by omega)]; show lN (d2 i) = _; rw [hk i (Nat.le_refl i)]) ?_
    refine lv_iload_n hx hb dX1_multiply_19 rfl (lv_at hl 1 rfl) ?_
    refine lv_i2l (v := lN f) hx hb dX1_multiply_20 (nI_l (by omega)) ?_
    refine lv_lmul hx hb dX1_multiply_21 ?_
    refine fw_l (x' := lN (d i * f)) (lN_mul _ _) ?_
    refine lv_lload_n hx hb dX1_multiply_22 rfl (lv_at hl 2 rfl) ?_
    refine lv_ladd hx hb dX1_multiply_23 ?_
    refine fw_l (x' := lN (d i * f + k)) (lN_add _ _) ?_
    refine lv_lstore (lv' := [(5, .long (lN (d i * f + k))), (0, .ref h0), (1, .int (nI f)), (2, .long (lN k)), (4, .int (nI i))]) hx hb dX1_multiply_24 hl (by decide) rfl (fun ls hl => ?_)
    refine lv_lload hx hb dX1_multiply_26 (lv_at hl 0 rfl) ?_
    refine lv_ldc2 (v := 1000000000) hx hb hown (hts (.constantLong RX1 17 1000000000) (by decide +kernel)) dX1_multiply_28 ?_
    refine lv_ldiv hx hb dX1_multiply_31 (by decide) ?_
    refine fw_l (x' := lN ((d i * f + k) / 1000000000)) (pk_lDiv (b := 1000000000) hbd (by decide) (by decide)) ?_
    refine lv_lstore_n (lv' := [(2, .long (lN ((d i * f + k) / 1000000000))), (5, .long (lN (d i * f + k))), (0, .ref h0), (1, .int (nI f)), (4, .int (nI i))]) hx hb dX1_multiply_32 rfl hl (by decide) rfl (fun ls hl => ?_)
    refine lv_aload_n hx hb dX1_multiply_33 rfl (lv_at hl 2 rfl) ?_
    refine va_get (D := (dC, dI)) (ci := 1) (v := .ref a0) (C := RX1) (T := TX1) (N := 1) hx hb hts (by decide +kernel) hown hK hP 0 rfl rfl 0 (by decide) (hts (.fieldLink RX1 11 "FlakyBounds$Decimal" "parts" "[J") (by decide +kernel)) (fun _ h9 => h9) rfl dX1_multiply_34 ?_
    refine lv_iload hx hb dX1_multiply_37 (lv_at hl 4 rfl) ?_
    refine lv_lload hx hb dX1_multiply_39 (lv_at hl 1 rfl) ?_
    refine lv_lload_n hx hb dX1_multiply_41 rfl (lv_at hl 0 rfl) ?_
    refine lv_ldc2 (v := 1000000000) hx hb hown (hts (.constantLong RX1 17 1000000000) (by decide +kernel)) dX1_multiply_42 ?_
    refine lv_lmul hx hb dX1_multiply_45 ?_
    refine fw_l (x' := lN ((d i * f + k) / 1000000000 * 1000000000)) (lN_mul _ 1000000000) ?_
    refine lv_lsub hx hb dX1_multiply_46 ?_
    refine fw_l (x' := lN ((d i * f + k) % 1000000000)) (lN_md _ _) ?_
    refine va_last hx hb hK hP hD hS 1 0 rfl rfl (vp_in_nI (by omega) (by decide)) dX1_multiply_47 (fun H locs hP hD hS => ?_)
    have e_st : vp_updL (fun j => lN (d2 j)) (nI i).toNatClampNeg (lN ((d i * f + k) % 1000000000)) = fun j => lN (va_up d2 i ((d i * f + k) % 1000000000) j) := by rw [nI_clamp (by omega)]; exact lN_st _ _ _
    rw [e_st] at hP hD
    have hP : va_P (dC, dI) vwCl [(h0, .inr (1, [.ref a0])), (a0, .inl (cJ, 17, .inr (.inl (fun j => lN (va_up d2 i ((d i * f + k) % 1000000000) j)))))] H := hP
    have hD : va_D A [(h0, .inr (1, [.ref a0])), (a0, .inl (cJ, 17, .inr (.inl (fun j => lN (va_up d2 i ((d i * f + k) % 1000000000) j)))))] := hD
    refine lv_iinc (v := nI (i + 1)) (lv' := [(4, .int (nI (i + 1))), (2, .long (lN ((d i * f + k) / 1000000000))), (5, .long (lN (d i * f + k))), (0, .ref h0), (1, .int (nI f))]) hx hb dX1_multiply_48 hl (k := 4) rfl (nI_1 i) (by decide) rfl (fun ls hl => ?_)
    refine lv_goto (tgt := 5) hx hb dX1_multiply_51 (by decide) ?_
    have hI2 := pd_mulI hlt hd hf hk hlo hv hc
    exact ih_5 _ (i + 1, (d i * f + k) / 1000000000, va_up d2 i ((d i * f + k) % 1000000000)) _ _ _ (by omega) ⟨rfl, by omega, hI2.1, hI2.2.1, hI2.2.2.1, hI2.2.2.2, hP.sub [0, 1] rfl, hD.sub [0, 1] (by decide) rfl, hS, lv_sub hl [3, 4, 1, 0] rfl⟩
set_option maxHeartbeats 4000000 in
set_option maxRecDepth 100000 in
theorem c_dec_div (l : Launch) (dC : Nat → ClassId) (dI : Nat → Nat → Nat) (h0 a0 : Nat) (cJ : ClassId) (d : Nat → Nat) (k : Nat) (sz : Nat) (hd : pd_ok d) (hk1 : 1 ≤ k) (hk48 : k ≤ 48) : Met l yX1_divide wsX1_divide ({ frames := 0, cells := 0, slots := 0, locals := 0 } : Room) (va_Pc [.ref h0, .int (nI k)] (fw_pW (dC, dI) vwCl [(cJ, .long)] [(h0, .inr (1, [.ref a0])), (a0, .inl (cJ, 17, .inr (.inl (fun j => lN (d j)))))] sz)) (va_Qv (S := Nat → Nat) (fun d2 => pd_ok d2 ∧ pd_v d2 17 = pd_v d 17 / k) (fun u t => fw_q (dC, dI) vwCl [(cJ, .long)] (va_A [(h0, .inr (1, [.ref a0])), (a0, .inl (cJ, 17, .inr (.inl (fun j => lN (d j)))))] sz) [(h0, .inr (1, [.ref a0])), (a0, .inl (cJ, 17, .inr (.inl (fun j => lN (u j)))))] t) (va_A [(h0, .inr (1, [.ref a0])), (a0, .inl (cJ, 17, .inr (.inl (fun j => lN (d j)))))] sz)) 0 0 (va_A [(h0, .inr (1, [.ref a0])), (a0, .inl (cJ, 17, .inr (.inl (fun j => lN (d j)))))] sz) := by
  refine fw_metW (cc := cX1_divide) (maxL := 7) (ret := none) (by decide) rfl (Nat.le_of_ble_eq_true rfl) ?_
  intro zp ze zs zm zbelow zmeth zc ls hx hb hr hts hown hlocks hml hin hN hsz hP hK hD hA hS hl
  generalize hAe : (va_A [(h0, .inr (1, [.ref a0])), (a0, .inl (cJ, 17, .inr (.inl (fun j => lN (d j)))))] sz) = A at hD hA hS ⊢
  have hown : zs.vm.findClass RX1 = some zm.cls := hown
  have hl : lv_has ls 7 [(0, .ref h0), (1, .int (nI k))] := hl
  refine lv_iload_n hx hb dX1_divide_0 rfl (lv_at hl 1 rfl) ?_
  refine lv_if_gt (tgt := 5) hx hb dX1_divide_1 (by decide) (fun _ => ?_) (fun c_1 => absurd (nI_lt (a := 0) (b := k) (by omega) (by omega)) c_1)
  refine lv_lconst (v := 0) hx hb dX1_divide_5 (by decide) ?_
  refine lv_lstore_n (lv' := [(2, .long 0), (0, .ref h0), (1, .int (nI k))]) hx hb dX1_divide_6 rfl hl (by decide) rfl (fun ls hl => ?_)
  refine lv_bipush (v := 16) hx hb dX1_divide_7 (by decide) ?_
  refine lv_istore (lv' := [(4, .int 16), (2, .long 0), (0, .ref h0), (1, .int (nI k))]) hx hb dX1_divide_9 hl (by decide) rfl (fun ls hl => ?_)
  refine fw_loop (σ := Nat × Nat × Int32 × (Nat → Nat)) (I := fun zn u H locs ls => match u with | (t, w, x, d2) => zn = t ∧ (t ≤ 17) ∧ (x = nI t + (-1)) ∧ (pd_h d (17 - t) = k * pd_h d2 (17 - t) + w) ∧ (w < k) ∧ (∀ j, j < t → d2 j = d j) ∧ (∀ j, t ≤ j → j < 17 → d2 j < 1000000000) ∧ va_P (dC, dI) vwCl [(h0, .inr (1, [.ref a0])), (a0, .inl (cJ, 17, .inr (.inl (fun j => lN (d2 j)))))] H ∧ va_D A [(h0, .inr (1, [.ref a0])), (a0, .inl (cJ, 17, .inr (.inl (fun j => lN (d2 j)))))] ∧ va_S A zs.heap H locs ∧ lv_has ls 7 [(0, .ref h0), (1, .int (nI k)), (2, .long (lN w)), (4, .int x)]) ?_ _ (17, 0, 16, d) _ _ _ ⟨rfl, by omega, by decide, rfl, by omega, fun _ _ => rfl, fun j h1 h2 => by omega, hP.sub [0, 1] rfl, hD.sub [0, 1] (by decide) rfl, hS, lv_sub hl [2, 3, 1, 0] rfl⟩
  intro zn u H locs ls hI ih_11
  obtain ⟨t, w, x, d2⟩ := u
  obtain ⟨hzn, ht, ex, hv, hw, heq, hok, hP, hD, hS, hl⟩ := hI
  refine lv_iload hx hb dX1_divide_11 (lv_at hl 3 rfl) ?_
  refine lv_if_lt (tgt := 63) hx hb dX1_divide_13 (by decide) (fun c_13 => ?_) (fun c_13 => ?_)
  · -- then 13
    have ht0 : t = 0 := by
      rcases Nat.eq_zero_or_pos t with q | q
      · exact q
      · obtain ⟨i, rfl⟩ : ∃ i, t = i + 1 := ⟨t - 1, by omega⟩
        rw [pk_m1] at ex
        rw [ex] at c_13
        exact absurd c_13 (nI_pos (by omega))
    subst ht0
    have hP9 := hP.sub (ws' := [(h0, .inr (1, [.ref a0])), (a0, .inl (cJ, 17, .inr (.inl (fun j => lN (d2 j)))))]) [0, 1] rfl
    have hD9 := hD.sub (ws' := [(h0, .inr (1, [.ref a0])), (a0, .inl (cJ, 17, .inr (.inl (fun j => lN (d2 j)))))]) [0, 1] (by decide) rfl
    have hK9 := hK.sub (tys' := [(cJ, .long)]) [0] rfl
    exact W.vret hx hb hr (fun zt zht hW => ⟨⟨d2, rfl, ⟨fun j hj => hok j (Nat.zero_le j) hj, pd_divE hv hw⟩, by rw [zht]; exact hP9, va_K.moved hW.alike hK9, hD9⟩, hS.F zht⟩) hS.2.2 dX1_divide_63 hlocks
  · -- else 13
    obtain ⟨i, rfl⟩ : ∃ i, t = i + 1 := by
      rcases Nat.eq_zero_or_pos t with q | q
      · subst q
        exact absurd (by rw [ex]; decide) c_13
      · exact ⟨t - 1, by omega⟩
    rw [pk_m1] at ex
    subst ex
    have hbd : w * 1000000000 + d i < 2 ^ 63 := by
      have h1 := hd i (by omega)
      omega
    refine lv_lload_n hx hb dX1_divide_16 rfl (lv_at hl 2 rfl) ?_
    refine lv_ldc2 (v := 1000000000) hx hb hown (hts (.constantLong RX1 17 1000000000) (by decide +kernel)) dX1_divide_17 ?_
    refine lv_lmul hx hb dX1_divide_20 ?_
    refine fw_l (x' := lN (w * 1000000000)) (lN_mul _ 1000000000) ?_
    refine lv_aload_n hx hb dX1_divide_21 rfl (lv_at hl 0 rfl) ?_
    refine va_get (D := (dC, dI)) (ci := 1) (v := .ref a0) (C := RX1) (T := TX1) (N := 1) hx hb hts (by decide +kernel) hown hK hP 0 rfl rfl 0 (by decide) (hts (.fieldLink RX1 11 "FlakyBounds$Decimal" "parts" "[J") (by decide +kernel)) (fun _ h9 => h9) rfl dX1_divide_22 ?_
    refine lv_iload hx hb dX1_divide_25 (lv_at hl 3 rfl) ?_
    refine va_lald hx hb hK hP 1 0 rfl rfl (vp_in_nI (by omega) (by decide)) dX1_divide_27 ?_
    refine fw_l (x' := lN (d i)) (by rw [nI_clamp (by omega)]; show lN (d2 i) = _; rw [heq i (by omega)]) ?_
    refine lv_ladd hx hb dX1_divide_28 ?_
    refine fw_l (x' := lN (w * 1000000000 + d i)) (lN_add _ _) ?_
    refine lv_lstore (lv' := [(5, .long (lN (w * 1000000000 + d i))), (0, .ref h0), (1, .int (nI k)), (2, .long (lN w)), (4, .int (nI i))]) hx hb dX1_divide_29 hl (by decide) rfl (fun ls hl => ?_)
    refine lv_aload_n hx hb dX1_divide_31 rfl (lv_at hl 1 rfl) ?_
    refine va_get (D := (dC, dI)) (ci := 1) (v := .ref a0) (C := RX1) (T := TX1) (N := 1) hx hb hts (by decide +kernel) hown hK hP 0 rfl rfl 0 (by decide) (hts (.fieldLink RX1 11 "FlakyBounds$Decimal" "parts" "[J") (by decide +kernel)) (fun _ h9 => h9) rfl dX1_divide_32 ?_
    refine lv_iload hx hb dX1_divide_35 (lv_at hl 4 rfl) ?_
    refine lv_lload hx hb dX1_divide_37 (lv_at hl 0 rfl) ?_
    refine lv_iload_n hx hb dX1_divide_39 rfl (lv_at hl 2 rfl) ?_
    refine lv_i2l (v := lN k) hx hb dX1_divide_40 (nI_l (by omega)) ?_
    refine lv_ldiv hx hb dX1_divide_41 (fun h => by have := (pk_lEQ (a := k) (b := 0) (by omega) (by omega)).mp h; omega) ?_
    refine fw_l (x' := lN ((w * 1000000000 + d i) / k)) (pk_lDiv hbd (by omega) (by omega)) ?_
    refine va_last hx hb hK hP hD hS 1 0 rfl rfl (vp_in_nI (by omega) (by decide)) dX1_divide_42 (fun H locs hP hD hS => ?_)
    have e_st : vp_updL (fun j => lN (d2 j)) (nI i).toNatClampNeg (lN ((w * 1000000000 + d i) / k)) = fun j => lN (va_up d2 i ((w * 1000000000 + d i) / k) j) := by rw [nI_clamp (by omega)]; exact lN_st _ _ _
    rw [e_st] at hP hD
    have hP : va_P (dC, dI) vwCl [(h0, .inr (1, [.ref a0])), (a0, .inl (cJ, 17, .inr (.inl (fun j => lN (va_up d2 i ((w * 1000000000 + d i) / k) j)))))] H := hP
    have hD : va_D A [(h0, .inr (1, [.ref a0])), (a0, .inl (cJ, 17, .inr (.inl (fun j => lN (va_up d2 i ((w * 1000000000 + d i) / k) j)))))] := hD
    refine lv_lload hx hb dX1_divide_43 (lv_at hl 0 rfl) ?_
    refine lv_aload_n hx hb dX1_divide_45 rfl (lv_at hl 1 rfl) ?_
    refine va_get (D := (dC, dI)) (ci := 1) (v := .ref a0) (C := RX1) (T := TX1) (N := 1) hx hb hts (by decide +kernel) hown hK hP 0 rfl rfl 0 (by decide) (hts (.fieldLink RX1 11 "FlakyBounds$Decimal" "parts" "[J") (by decide +kernel)) (fun _ h9 => h9) rfl dX1_divide_46 ?_
    refine lv_iload hx hb dX1_divide_49 (lv_at hl 4 rfl) ?_
    refine va_lald hx hb hK hP 1 0 rfl rfl (vp_in_nI (by omega) (by decide)) dX1_divide_51 ?_
    refine fw_l (x' := lN ((w * 1000000000 + d i) / k)) (by rw [nI_clamp (by omega)]; show lN (va_up d2 i _ i) = _; rw [va_up_self]) ?_
    refine lv_iload_n hx hb dX1_divide_52 rfl (lv_at hl 2 rfl) ?_
    refine lv_i2l (v := lN k) hx hb dX1_divide_53 (nI_l (by omega)) ?_
    refine lv_lmul hx hb dX1_divide_54 ?_
    refine fw_l (x' := lN ((w * 1000000000 + d i) / k * k)) (lN_mul _ _) ?_
    refine lv_lsub hx hb dX1_divide_55 ?_
    refine fw_l (x' := lN ((w * 1000000000 + d i) % k)) (lN_md _ _) ?_
    refine lv_lstore_n (lv' := [(2, .long (lN ((w * 1000000000 + d i) % k))), (5, .long (lN (w * 1000000000 + d i))), (0, .ref h0), (1, .int (nI k)), (4, .int (nI i))]) hx hb dX1_divide_56 rfl hl (by decide) rfl (fun ls hl => ?_)
    refine lv_iinc (v := nI i + (-1)) (lv' := [(4, .int (nI i + (-1))), (2, .long (lN ((w * 1000000000 + d i) % k))), (5, .long (lN (w * 1000000000 + d i))), (0, .ref h0), (1, .int (nI k))]) hx hb dX1_divide_57 hl (k := 4) rfl (rfl) (by decide) rfl (fun ls hl => ?_)
    refine lv_goto (tgt := 11) hx hb dX1_divide_60 (by decide) ?_
    have hI2 := pd_divI (by omega) hd hk1 hv hw heq hok
    exact ih_11 _ (i, (w * 1000000000 + d i) % k, nI i + (-1), va_up d2 i ((w * 1000000000 + d i) / k)) _ _ _ (by omega) ⟨rfl, by omega, rfl, hI2.1, hI2.2.1, hI2.2.2.1, hI2.2.2.2, hP.sub [0, 1] rfl, hD.sub [0, 1] (by decide) rfl, hS, lv_sub hl [3, 4, 1, 0] rfl⟩
set_option maxHeartbeats 4000000 in
set_option maxRecDepth 100000 in
theorem c_dec_add (l : Launch) (dC : Nat → ClassId) (dI : Nat → Nat → Nat) (h0 a0 h1 a1 : Nat) (cJ : ClassId) (d e : Nat → Nat) (sz : Nat) (hd : pd_ok d) (he : pd_ok e) (hm : pd_v d 17 + pd_v e 17 < 1000000000 ^ 17) : Met l yX1_add wsX1_add ({ frames := 0, cells := 0, slots := 0, locals := 0 } : Room) (va_Pc [.ref h0, .ref h1] (fw_pW (dC, dI) vwCl [(cJ, .long)] [(h0, .inr (1, [.ref a0])), (a0, .inl (cJ, 17, .inr (.inl (fun j => lN (d j))))), (h1, .inr (1, [.ref a1])), (a1, .inl (cJ, 17, .inr (.inl (fun j => lN (e j)))))] sz)) (va_Qv (S := Nat → Nat) (fun d2 => pd_ok d2 ∧ pd_v d2 17 = pd_v d 17 + pd_v e 17) (fun u t => fw_q (dC, dI) vwCl [(cJ, .long)] (va_A [(h0, .inr (1, [.ref a0])), (a0, .inl (cJ, 17, .inr (.inl (fun j => lN (d j))))), (h1, .inr (1, [.ref a1])), (a1, .inl (cJ, 17, .inr (.inl (fun j => lN (e j)))))] sz) [(h0, .inr (1, [.ref a0])), (a0, .inl (cJ, 17, .inr (.inl (fun j => lN (u j))))), (h1, .inr (1, [.ref a1])), (a1, .inl (cJ, 17, .inr (.inl (fun j => lN (e j)))))] t) (va_A [(h0, .inr (1, [.ref a0])), (a0, .inl (cJ, 17, .inr (.inl (fun j => lN (d j))))), (h1, .inr (1, [.ref a1])), (a1, .inl (cJ, 17, .inr (.inl (fun j => lN (e j)))))] sz)) 0 0 (va_A [(h0, .inr (1, [.ref a0])), (a0, .inl (cJ, 17, .inr (.inl (fun j => lN (d j))))), (h1, .inr (1, [.ref a1])), (a1, .inl (cJ, 17, .inr (.inl (fun j => lN (e j)))))] sz) := by
  refine fw_metW (cc := cX1_add) (maxL := 7) (ret := none) (by decide) rfl (Nat.le_of_ble_eq_true rfl) ?_
  intro zp ze zs zm zbelow zmeth zc ls hx hb hr hts hown hlocks hml hin hN hsz hP hK hD hA hS hl
  generalize hAe : (va_A [(h0, .inr (1, [.ref a0])), (a0, .inl (cJ, 17, .inr (.inl (fun j => lN (d j))))), (h1, .inr (1, [.ref a1])), (a1, .inl (cJ, 17, .inr (.inl (fun j => lN (e j)))))] sz) = A at hD hA hS ⊢
  have hown : zs.vm.findClass RX1 = some zm.cls := hown
  have hl : lv_has ls 7 [(0, .ref h0), (1, .ref h1)] := hl
  refine lv_aload_n hx hb dX1_add_0 rfl (lv_at hl 1 rfl) ?_
  refine lv_ifnonnull (tgt := 5) hx hb dX1_add_1 (by decide) ?_
  refine lv_lconst (v := 0) hx hb dX1_add_5 (by decide) ?_
  refine lv_lstore_n (lv' := [(2, .long 0), (0, .ref h0), (1, .ref h1)]) hx hb dX1_add_6 rfl hl (by decide) rfl (fun ls hl => ?_)
  refine lv_iconst (v := 0) hx hb dX1_add_7 (by decide) ?_
  refine lv_istore (lv' := [(4, .int 0), (2, .long 0), (0, .ref h0), (1, .ref h1)]) hx hb dX1_add_8 hl (by decide) rfl (fun ls hl => ?_)
  refine fw_loop (σ := Nat × Nat × (Nat → Nat)) (I := fun zn u H locs ls => match u with | (i, k, d2) => zn = 17 - i ∧ (i ≤ 17) ∧ (∀ j, i ≤ j → d2 j = d j) ∧ (∀ j, j < i → d2 j < 1000000000) ∧ (pd_v d2 i + k * 1000000000 ^ i = pd_v d i + pd_v e i) ∧ (k ≤ 1) ∧ va_P (dC, dI) vwCl [(h0, .inr (1, [.ref a0])), (a0, .inl (cJ, 17, .inr (.inl (fun j => lN (d2 j))))), (h1, .inr (1, [.ref a1])), (a1, .inl (cJ, 17, .inr (.inl (fun j => lN (e j)))))] H ∧ va_D A [(h0, .inr (1, [.ref a0])), (a0, .inl (cJ, 17, .inr (.inl (fun j => lN (d2 j))))), (h1, .inr (1, [.ref a1])), (a1, .inl (cJ, 17, .inr (.inl (fun j => lN (e j)))))] ∧ va_S A zs.heap H locs ∧ lv_has ls 7 [(0, .ref h0), (1, .ref h1), (2, .long (lN k)), (4, .int (nI i))]) ?_ _ (0, 0, d) _ _ _ ⟨rfl, by omega, fun _ _ => rfl, fun j hj => by omega, by simp [pd_v0], by omega, hP.sub [0, 1, 2, 3] rfl, hD.sub [0, 1, 2, 3] (by decide) rfl, hS, lv_sub hl [2, 3, 1, 0] rfl⟩
  intro zn u H locs ls hI ih_10
  obtain ⟨i, k, d2⟩ := u
  obtain ⟨hzn, hi, hk, hlo, hv, hc, hP, hD, hS, hl⟩ := hI
  refine lv_iload hx hb dX1_add_10 (lv_at hl 3 rfl) ?_
  refine lv_bipush (v := 17) hx hb dX1_add_12 (by decide) ?_
  refine lv_icmp_ge (tgt := 72) hx hb dX1_add_14 (by decide) (fun c_14 => ?_) (fun c_14 => ?_)
  · -- then 14
    have hi17 : i = 17 := by have := (nI_leI (a := 17) (b := i) (by decide) (by omega)).mp c_14; omega
    subst hi17
    have hP9 := hP.sub (ws' := [(h0, .inr (1, [.ref a0])), (a0, .inl (cJ, 17, .inr (.inl (fun j => lN (d2 j))))), (h1, .inr (1, [.ref a1])), (a1, .inl (cJ, 17, .inr (.inl (fun j => lN (e j)))))]) [0, 1, 2, 3] rfl
    have hD9 := hD.sub (ws' := [(h0, .inr (1, [.ref a0])), (a0, .inl (cJ, 17, .inr (.inl (fun j => lN (d2 j))))), (h1, .inr (1, [.ref a1])), (a1, .inl (cJ, 17, .inr (.inl (fun j => lN (e j)))))]) [0, 1, 2, 3] (by decide) rfl
    have hK9 := hK.sub (tys' := [(cJ, .long)]) [0] rfl
    exact W.vret hx hb hr (fun zt zht hW => ⟨⟨d2, rfl, ⟨fun j hj => hlo j hj, pd_top hv hm⟩, by rw [zht]; exact hP9, va_K.moved hW.alike hK9, hD9⟩, hS.F zht⟩) hS.2.2 dX1_add_72 hlocks
  · -- else 14
    have hlt : i < 17 := by
      rcases Nat.lt_or_ge i 17 with q | q
      · exact q
      · exact absurd (nI_le (a := 17) (b := i) q (by omega)) c_14
    have hd1 := hd i hlt
    have he1 := he i hlt
    refine lv_aload_n hx hb dX1_add_17 rfl (lv_at hl 0 rfl) ?_
    refine va_get (D := (dC, dI)) (ci := 1) (v := .ref a0) (C := RX1) (T := TX1) (N := 1) hx hb hts (by decide +kernel) hown hK hP 0 rfl rfl 0 (by decide) (hts (.fieldLink RX1 11 "FlakyBounds$Decimal" "parts" "[J") (by decide +kernel)) (fun _ h9 => h9) rfl dX1_add_18 ?_
    refine lv_iload hx hb dX1_add_21 (lv_at hl 3 rfl) ?_
    refine va_lald hx hb hK hP 1 0 rfl rfl (vp_in_nI (by omega) (by decide)) dX1_add_23 ?_
    refine fw_l (x' := lN (d i)) (by rw [nI_clamp (by omega)]; show lN (d2 i) = _; rw [hk i (Nat.le_refl i)]) ?_
    refine lv_aload_n hx hb dX1_add_24 rfl (lv_at hl 1 rfl) ?_
    refine va_get (D := (dC, dI)) (ci := 1) (v := .ref a1) (C := RX1) (T := TX1) (N := 1) hx hb hts (by decide +kernel) hown hK hP 2 rfl rfl 0 (by decide) (hts (.fieldLink RX1 11 "FlakyBounds$Decimal" "parts" "[J") (by decide +kernel)) (fun _ h9 => h9) rfl dX1_add_25 ?_
    refine lv_iload hx hb dX1_add_28 (lv_at hl 3 rfl) ?_
    refine va_lald hx hb hK hP 3 0 rfl rfl (vp_in_nI (by omega) (by decide)) dX1_add_30 ?_
    refine fw_l (x' := lN (e i)) (by rw [nI_clamp (by omega)]) ?_
    refine lv_ladd hx hb dX1_add_31 ?_
    refine fw_l (x' := lN (d i + e i)) (lN_add _ _) ?_
    refine lv_lload_n hx hb dX1_add_32 rfl (lv_at hl 2 rfl) ?_
    refine lv_ladd hx hb dX1_add_33 ?_
    refine fw_l (x' := lN (d i + e i + k)) (lN_add _ _) ?_
    refine lv_lstore (lv' := [(5, .long (lN (d i + e i + k))), (0, .ref h0), (1, .ref h1), (2, .long (lN k)), (4, .int (nI i))]) hx hb dX1_add_34 hl (by decide) rfl (fun ls hl => ?_)
    refine lv_lload hx hb dX1_add_36 (lv_at hl 0 rfl) ?_
    refine lv_ldc2 (v := 1000000000) hx hb hown (hts (.constantLong RX1 17 1000000000) (by decide +kernel)) dX1_add_38 ?_
    refine W.lcmp hx hb dX1_add_41 ?_
    refine lv_if_lt (tgt := 49) hx hb dX1_add_42 (by decide) (fun c_42 => ?_) (fun c_42 => ?_)
    · -- then 42
      have hlt2 : d i + e i + k < 1000000000 := (pk_lLT (b := 1000000000) (by omega) (by decide)).mp ((lg_cmp_lt _ _).mp c_42)
      refine lv_lconst (v := 0) hx hb dX1_add_49 (by decide) ?_
      refine fw_l (x' := lN 0) (rfl) ?_
      refine lv_lstore_n (lv' := [(2, .long (lN 0)), (5, .long (lN (d i + e i + k))), (0, .ref h0), (1, .ref h1), (4, .int (nI i))]) hx hb dX1_add_50 rfl hl (by decide) rfl (fun ls hl => ?_)
      refine lv_aload_n hx hb dX1_add_51 rfl (lv_at hl 2 rfl) ?_
      refine va_get (D := (dC, dI)) (ci := 1) (v := .ref a0) (C := RX1) (T := TX1) (N := 1) hx hb hts (by decide +kernel) hown hK hP 0 rfl rfl 0 (by decide) (hts (.fieldLink RX1 11 "FlakyBounds$Decimal" "parts" "[J") (by decide +kernel)) (fun _ h9 => h9) rfl dX1_add_52 ?_
      refine lv_iload hx hb dX1_add_55 (lv_at hl 4 rfl) ?_
      refine lv_lload hx hb dX1_add_57 (lv_at hl 1 rfl) ?_
      refine lv_lload_n hx hb dX1_add_59 rfl (lv_at hl 0 rfl) ?_
      refine lv_ldc2 (v := 1000000000) hx hb hown (hts (.constantLong RX1 17 1000000000) (by decide +kernel)) dX1_add_60 ?_
      refine lv_lmul hx hb dX1_add_63 ?_
      refine fw_l (x' := lN 0) (lN_mul 0 1000000000) ?_
      refine lv_lsub hx hb dX1_add_64 ?_
      refine fw_l (x' := lN (d i + e i + k)) (lN_s0 _) ?_
      refine va_last hx hb hK hP hD hS 1 0 rfl rfl (vp_in_nI (by omega) (by decide)) dX1_add_65 (fun H locs hP hD hS => ?_)
      have e_st : vp_updL (fun j => lN (d2 j)) (nI i).toNatClampNeg (lN (d i + e i + k)) = fun j => lN (va_up d2 i (d i + e i + k) j) := by rw [nI_clamp (by omega)]; exact lN_st _ _ _
      rw [e_st] at hP hD
      have hP : va_P (dC, dI) vwCl [(h0, .inr (1, [.ref a0])), (a0, .inl (cJ, 17, .inr (.inl (fun j => lN (va_up d2 i (d i + e i + k) j))))), (h1, .inr (1, [.ref a1])), (a1, .inl (cJ, 17, .inr (.inl (fun j => lN (e j)))))] H := hP
      have hD : va_D A [(h0, .inr (1, [.ref a0])), (a0, .inl (cJ, 17, .inr (.inl (fun j => lN (va_up d2 i (d i + e i + k) j))))), (h1, .inr (1, [.ref a1])), (a1, .inl (cJ, 17, .inr (.inl (fun j => lN (e j)))))] := hD
      refine lv_iinc (v := nI (i + 1)) (lv' := [(4, .int (nI (i + 1))), (2, .long (lN 0)), (5, .long (lN (d i + e i + k))), (0, .ref h0), (1, .ref h1)]) hx hb dX1_add_66 hl (k := 4) rfl (nI_1 i) (by decide) rfl (fun ls hl => ?_)
      refine lv_goto (tgt := 10) hx hb dX1_add_69 (by decide) ?_
      have hI2 := pd_addI (r := (d i + e i + k)) (k2 := 0) hlt hk hlo hv (by simp) hlt2
      exact ih_10 _ (i + 1, 0, va_up d2 i (d i + e i + k)) _ _ _ (by omega) ⟨rfl, by omega, hI2.1, hI2.2.1, hI2.2.2, by omega, hP.sub [0, 1, 2, 3] rfl, hD.sub [0, 1, 2, 3] (by decide) rfl, hS, lv_sub hl [3, 4, 1, 0] rfl⟩
    · -- else 42
      have hge2 : 1000000000 ≤ d i + e i + k := by
        rcases Nat.lt_or_ge (d i + e i + k) 1000000000 with q | q
        · exact absurd ((lg_cmp_lt _ _).mpr ((pk_lLT (b := 1000000000) (by omega) (by decide)).mpr q)) c_42
        · exact q
      refine lv_lconst (v := 1) hx hb dX1_add_45 (by decide) ?_
      refine fw_l (x' := lN 1) (rfl) ?_
      refine lv_goto (tgt := 50) hx hb dX1_add_46 (by decide) ?_
      refine lv_lstore_n (lv' := [(2, .long (lN 1)), (5, .long (lN (d i + e i + k))), (0, .ref h0), (1, .ref h1), (4, .int (nI i))]) hx hb dX1_add_50 rfl hl (by decide) rfl (fun ls hl => ?_)
      refine lv_aload_n hx hb dX1_add_51 rfl (lv_at hl 2 rfl) ?_
      refine va_get (D := (dC, dI)) (ci := 1) (v := .ref a0) (C := RX1) (T := TX1) (N := 1) hx hb hts (by decide +kernel) hown hK hP 0 rfl rfl 0 (by decide) (hts (.fieldLink RX1 11 "FlakyBounds$Decimal" "parts" "[J") (by decide +kernel)) (fun _ h9 => h9) rfl dX1_add_52 ?_
      refine lv_iload hx hb dX1_add_55 (lv_at hl 4 rfl) ?_
      refine lv_lload hx hb dX1_add_57 (lv_at hl 1 rfl) ?_
      refine lv_lload_n hx hb dX1_add_59 rfl (lv_at hl 0 rfl) ?_
      refine lv_ldc2 (v := 1000000000) hx hb hown (hts (.constantLong RX1 17 1000000000) (by decide +kernel)) dX1_add_60 ?_
      refine lv_lmul hx hb dX1_add_63 ?_
      refine fw_l (x' := lN 1000000000) (lN_mul 1 1000000000) ?_
      refine lv_lsub hx hb dX1_add_64 ?_
      refine fw_l (x' := lN ((d i + e i + k) - 1000000000)) (lN_sub hge2) ?_
      refine va_last hx hb hK hP hD hS 1 0 rfl rfl (vp_in_nI (by omega) (by decide)) dX1_add_65 (fun H locs hP hD hS => ?_)
      have e_st : vp_updL (fun j => lN (d2 j)) (nI i).toNatClampNeg (lN ((d i + e i + k) - 1000000000)) = fun j => lN (va_up d2 i ((d i + e i + k) - 1000000000) j) := by rw [nI_clamp (by omega)]; exact lN_st _ _ _
      rw [e_st] at hP hD
      have hP : va_P (dC, dI) vwCl [(h0, .inr (1, [.ref a0])), (a0, .inl (cJ, 17, .inr (.inl (fun j => lN (va_up d2 i ((d i + e i + k) - 1000000000) j))))), (h1, .inr (1, [.ref a1])), (a1, .inl (cJ, 17, .inr (.inl (fun j => lN (e j)))))] H := hP
      have hD : va_D A [(h0, .inr (1, [.ref a0])), (a0, .inl (cJ, 17, .inr (.inl (fun j => lN (va_up d2 i ((d i + e i + k) - 1000000000) j))))), (h1, .inr (1, [.ref a1])), (a1, .inl (cJ, 17, .inr (.inl (fun j => lN (e j)))))] := hD
      refine lv_iinc (v := nI (i + 1)) (lv' := [(4, .int (nI (i + 1))), (2, .long (lN 1)), (5, .long (lN (d i + e i + k))), (0, .ref h0), (1, .ref h1)]) hx hb dX1_add_66 hl (k := 4) rfl (nI_1 i) (by decide) rfl (fun ls hl => ?_)
      refine lv_goto (tgt := 10) hx hb dX1_add_69 (by decide) ?_
      have hI2 := pd_addI (r := ((d i + e i + k) - 1000000000)) (k2 := 1) hlt hk hlo hv (by omega) (by omega)
      exact ih_10 _ (i + 1, 1, va_up d2 i ((d i + e i + k) - 1000000000)) _ _ _ (by omega) ⟨rfl, by omega, hI2.1, hI2.2.1, hI2.2.2, by omega, hP.sub [0, 1, 2, 3] rfl, hD.sub [0, 1, 2, 3] (by decide) rfl, hS, lv_sub hl [3, 4, 1, 0] rfl⟩
set_option maxHeartbeats 4000000 in
set_option maxRecDepth 100000 in
theorem c_dec_above (l : Launch) (dC : Nat → ClassId) (dI : Nat → Nat → Nat) (h0 a0 : Nat) (cJ : ClassId) (d : Nat → Nat) (t : Nat) (hd : pd_ok d) (ht9 : t ≤ 999) : Met l yX1_isAbove wsX1_isAbove ({ frames := 0, cells := 0, slots := 0, locals := 0 } : Room) (va_Pc [.ref h0, .int (nI t)] (fw_pR (dC, dI) vwCl [(cJ, .long)] [(h0, .inr (1, [.ref a0])), (a0, .inl (cJ, 17, .inr (.inl (fun j => lN (d j)))))])) (vp_Si (fun r => r = zI (decide (t * 1000000 * 1000000000 ^ 15 < pd_v d 17)))) 0 0 (fun _ => False) := by
  refine fw_metR (cc := cX1_isAbove) (maxL := 7) (ret := (some .boolean)) (by decide) rfl (Nat.le_of_ble_eq_true rfl) ?_
  intro zp ze zs zm zbelow zmeth zc ls hx hb hr hts hown hlocks hml hin hN hP hK hl
  have hown : zs.vm.findClass RX1 = some zm.cls := hown
  have hl : lv_has ls 7 [(0, .ref h0), (1, .int (nI t))] := hl
  have hp15 := pd_15 d
  have hl15 := pd_lt (d := d) 15 (fun j hj => hd j (by omega))
  have h15 := hd 15 (by decide)
  have h16 := hd 16 (by decide)
  refine lv_aload_n hx hb dX1_isAbove_0 rfl (lv_at hl 0 rfl) ?_
  refine va_get (D := (dC, dI)) (ci := 1) (v := .ref a0) (C := RX1) (T := TX1) (N := 1) hx hb hts (by decide +kernel) hown hK hP 0 rfl rfl 0 (by decide) (hts (.fieldLink RX1 11 "FlakyBounds$Decimal" "parts" "[J") (by decide +kernel)) (fun _ h9 => h9) rfl dX1_isAbove_1 ?_
  refine lv_bipush (v := 16) hx hb dX1_isAbove_4 (by decide) ?_
  refine va_lald hx hb hK hP 1 0 rfl rfl (vp_in_nI (n := 16) (by decide) (by decide)) dX1_isAbove_6 ?_
  refine fw_l (x' := lN (d 16)) (congrArg (fun z => lN (d z)) (show (16 : Int32).toNatClampNeg = 16 by decide)) ?_
  refine lv_lconst (v := 0) hx hb dX1_isAbove_7 (by decide) ?_
  refine W.lcmp hx hb dX1_isAbove_8 ?_
  refine lv_if_le (tgt := 14) hx hb dX1_isAbove_9 (by decide) (fun c_9 => ?_) (fun c_9 => ?_)
  · -- then 9
    have h160 : d 16 = 0 := by have := (pk_lLE (a := d 16) (b := 0) (by omega) (by decide)).mp ((lg_cmp_le _ _).mp c_9); omega
    rw [h160] at hp15
    refine lv_aload_n hx hb dX1_isAbove_14 rfl (lv_at hl 0 rfl) ?_
    refine va_get (D := (dC, dI)) (ci := 1) (v := .ref a0) (C := RX1) (T := TX1) (N := 1) hx hb hts (by decide +kernel) hown hK hP 0 rfl rfl 0 (by decide) (hts (.fieldLink RX1 11 "FlakyBounds$Decimal" "parts" "[J") (by decide +kernel)) (fun _ h9 => h9) rfl dX1_isAbove_15 ?_
    refine lv_bipush (v := 15) hx hb dX1_isAbove_18 (by decide) ?_
    refine va_lald hx hb hK hP 1 0 rfl rfl (vp_in_nI (n := 15) (by decide) (by decide)) dX1_isAbove_20 ?_
    refine fw_l (x' := lN (d 15)) (congrArg (fun z => lN (d z)) (show (15 : Int32).toNatClampNeg = 15 by decide)) ?_
    refine lv_lstore_n (lv' := [(2, .long (lN (d 15))), (0, .ref h0), (1, .int (nI t))]) hx hb dX1_isAbove_21 rfl hl (by decide) rfl (fun ls hl => ?_)
    refine lv_iload_n hx hb dX1_isAbove_22 rfl (lv_at hl 2 rfl) ?_
    refine lv_i2l (v := lN t) hx hb dX1_isAbove_23 (nI_l (by omega)) ?_
    refine lv_ldc2 (v := 1000000) hx hb hown (hts (.constantLong RX1 19 1000000) (by decide +kernel)) dX1_isAbove_24 ?_
    refine lv_lmul hx hb dX1_isAbove_27 ?_
    refine fw_l (x' := lN (t * 1000000)) (lN_mul _ 1000000) ?_
    refine lv_lstore (lv' := [(4, .long (lN (t * 1000000))), (2, .long (lN (d 15))), (0, .ref h0), (1, .int (nI t))]) hx hb dX1_isAbove_28 hl (by decide) rfl (fun ls hl => ?_)
    refine lv_lload_n hx hb dX1_isAbove_30 rfl (lv_at hl 1 rfl) ?_
    refine lv_lload hx hb dX1_isAbove_31 (lv_at hl 0 rfl) ?_
    refine W.lcmp hx hb dX1_isAbove_33 ?_
    refine lv_if_eq (tgt := 50) hx hb dX1_isAbove_34 (by decide) (fun c_34 => ?_) (fun c_34 => ?_)
    · -- then 34
      have heq : d 15 = t * 1000000 := (pk_lEQ (by omega) (by omega)).mp ((lg_cmp_eq _ _).mp c_34)
      refine lv_iconst (v := 0) hx hb dX1_isAbove_50 (by decide) ?_
      refine lv_istore (lv' := [(6, .int 0), (4, .long (lN (t * 1000000))), (2, .long (lN (d 15))), (0, .ref h0), (1, .int (nI t))]) hx hb dX1_isAbove_51 hl (by decide) rfl (fun ls hl => ?_)
      refine fw_loopR (σ := Nat) (I := fun zn u ls => match u with | i => zn = 15 - i ∧ (i ≤ 15) ∧ (∀ j, j < i → d j = 0) ∧ lv_has ls 7 [(0, .ref h0), (6, .int (nI i))]) ?_ _ 0 _ ⟨rfl, by omega, fun j hj => by omega, lv_sub hl [3, 0] rfl⟩
      intro zn i ls hI ih_53
      obtain ⟨hzn, hi, hz, hl⟩ := hI
      refine lv_iload hx hb dX1_isAbove_53 (lv_at hl 1 rfl) ?_
      refine lv_bipush (v := 15) hx hb dX1_isAbove_55 (by decide) ?_
      refine lv_icmp_ge (tgt := 80) hx hb dX1_isAbove_57 (by decide) (fun c_57 => ?_) (fun c_57 => ?_)
      · -- then 57
        have hi15 : i = 15 := by have := (nI_leI (a := 15) (b := i) (by decide) (by omega)).mp c_57; omega
        subst hi15
        refine lv_iconst (v := 0) hx hb dX1_isAbove_80 (by decide) ?_
        have h1 := pd_0 d 15 hz
        have hfin : decide (t * 1000000 * 1000000000 ^ 15 < pd_v d 17) = false := decide_eq_false (by rw [hp15, heq, h1]; omega)
        exact W.zret (v := 0) (ty := .boolean) hx hb hr rfl (fun zt zht _ => ⟨0, rfl, by rw [hfin, zI_f], zht⟩) (fun q h => by cases h) dX1_isAbove_81 hlocks
      · -- else 57
        have hlt : i < 15 := by
          rcases Nat.lt_or_ge i 15 with q | q
          · exact q
          · exact absurd (nI_le (a := 15) (b := i) q (by omega)) c_57
        have hdi := hd i (by omega)
        refine lv_aload_n hx hb dX1_isAbove_60 rfl (lv_at hl 0 rfl) ?_
        refine va_get (D := (dC, dI)) (ci := 1) (v := .ref a0) (C := RX1) (T := TX1) (N := 1) hx hb hts (by decide +kernel) hown hK hP 0 rfl rfl 0 (by decide) (hts (.fieldLink RX1 11 "FlakyBounds$Decimal" "parts" "[J") (by decide +kernel)) (fun _ h9 => h9) rfl dX1_isAbove_61 ?_
        refine lv_iload hx hb dX1_isAbove_64 (lv_at hl 1 rfl) ?_
        refine va_lald hx hb hK hP 1 0 rfl rfl (vp_in_nI (by omega) (by decide)) dX1_isAbove_66 ?_
        refine fw_l (x' := lN (d i)) (by rw [nI_clamp (by omega)]) ?_
        refine lv_lconst (v := 0) hx hb dX1_isAbove_67 (by decide) ?_
        refine W.lcmp hx hb dX1_isAbove_68 ?_
        refine lv_if_eq (tgt := 74) hx hb dX1_isAbove_69 (by decide) (fun c_69 => ?_) (fun c_69 => ?_)
        · -- then 69
          have hdi0 : d i = 0 := (pk_lEQ (b := 0) (by omega) (by decide)).mp ((lg_cmp_eq _ _).mp c_69)
          refine lv_iinc (v := nI (i + 1)) (lv' := [(6, .int (nI (i + 1))), (0, .ref h0)]) hx hb dX1_isAbove_74 hl (k := 1) rfl (nI_1 i) (by decide) rfl (fun ls hl => ?_)
          refine lv_goto (tgt := 53) hx hb dX1_isAbove_77 (by decide) ?_
          have hz2 : ∀ j, j < i + 1 → d j = 0 := by
            intro j hj
            rcases Nat.lt_or_ge j i with q | q
            · exact hz j q
            · obtain rfl : j = i := by omega
              exact hdi0
          exact ih_53 _ (i + 1) _ (by omega) ⟨rfl, by omega, hz2, lv_sub hl [1, 0] rfl⟩
        · -- else 69
          have hdi1 : ¬ d i = 0 := fun q => c_69 ((lg_cmp_eq _ _).mpr ((pk_lEQ (b := 0) (by omega) (by decide)).mpr q))
          refine lv_iconst (v := 1) hx hb dX1_isAbove_72 (by decide) ?_
          have h1 := pd_pos d 15 i hlt hdi1
          have hfin : decide (t * 1000000 * 1000000000 ^ 15 < pd_v d 17) = true := decide_eq_true (by rw [hp15, heq]; omega)
          exact W.zret (v := 1) (ty := .boolean) hx hb hr rfl (fun zt zht _ => ⟨1, rfl, by rw [hfin, zI_t], zht⟩) (fun q h => by cases h) dX1_isAbove_73 hlocks
    · -- else 34
      have hne : ¬ d 15 = t * 1000000 := fun q => c_34 ((lg_cmp_eq _ _).mpr ((pk_lEQ (by omega) (by omega)).mpr q))
      refine lv_lload_n hx hb dX1_isAbove_37 rfl (lv_at hl 1 rfl) ?_
      refine lv_lload hx hb dX1_isAbove_38 (lv_at hl 0 rfl) ?_
      refine W.lcmp hx hb dX1_isAbove_40 ?_
      refine lv_if_le (tgt := 48) hx hb dX1_isAbove_41 (by decide) (fun c_41 => ?_) (fun c_41 => ?_)
      · -- then 41
        have hle : d 15 ≤ t * 1000000 := (pk_lLE (by omega) (by omega)).mp ((lg_cmp_le _ _).mp c_41)
        refine lv_iconst (v := 0) hx hb dX1_isAbove_48 (by decide) ?_
        have hfin : decide (t * 1000000 * 1000000000 ^ 15 < pd_v d 17) = false := decide_eq_false (by omega)
        exact W.zret (v := 0) (ty := .boolean) hx hb hr rfl (fun zt zht _ => ⟨0, rfl, by rw [hfin, zI_f], zht⟩) (fun q h => by cases h) dX1_isAbove_49 hlocks
      · -- else 41
        have hgt : t * 1000000 < d 15 := by
          rcases Nat.lt_or_ge (t * 1000000) (d 15) with q | q
          · exact q
          · exact absurd ((lg_cmp_le _ _).mpr ((pk_lLE (by omega) (by omega)).mpr q)) c_41
        refine lv_iconst (v := 1) hx hb dX1_isAbove_44 (by decide) ?_
        refine lv_goto (tgt := 49) hx hb dX1_isAbove_45 (by decide) ?_
        have hfin : decide (t * 1000000 * 1000000000 ^ 15 < pd_v d 17) = true := decide_eq_true (pd_abG hgt)
        exact W.zret (v := 1) (ty := .boolean) hx hb hr rfl (fun zt zht _ => ⟨1, rfl, by rw [hfin, zI_t], zht⟩) (fun q h => by cases h) dX1_isAbove_49 hlocks
  · -- else 9
    have h161 : 1 ≤ d 16 := by
      rcases Nat.eq_zero_or_pos (d 16) with q | q
      · exact absurd ((lg_cmp_le _ _).mpr ((pk_lLE (a := d 16) (b := 0) (by omega) (by decide)).mpr (by omega))) c_9
      · exact q
    refine lv_iconst (v := 1) hx hb dX1_isAbove_12 (by decide) ?_
    have hfin : decide (t * 1000000 * 1000000000 ^ 15 < pd_v d 17) = true := decide_eq_true (pd_abT ht9 h161)
    exact W.zret (v := 1) (ty := .boolean) hx hb hr rfl (fun zt zht _ => ⟨1, rfl, by rw [hfin, zI_t], zht⟩) (fun q h => by cases h) dX1_isAbove_13 hlocks
set_option maxHeartbeats 4000000 in
set_option maxRecDepth 100000 in
theorem c_dec_cut (l : Launch) (dC : Nat → ClassId) (dI : Nat → Nat → Nat) (h0 a0 : Nat) (cJ : ClassId) (d : Nat → Nat) (g : Nat) (hd : pd_ok d) (h1e : pd_v d 17 ≤ 1000000000 ^ 16) (hg : g ≤ 18) : Met l yX1_cutTo wsX1_cutTo ({ frames := 0, cells := 0, slots := 0, locals := 0 } : Room) (va_Pc [.ref h0, .int (nI g)] (fw_pR (dC, dI) vwCl [(cJ, .long)] [(h0, .inr (1, [.ref a0])), (a0, .inl (cJ, 17, .inr (.inl (fun j => lN (d j)))))])) (vp_Sl (fun r => r = lN (pd_v d 17 / 1000000000 ^ 14 / 10 ^ (18 - g)))) 0 0 (fun _ => False) := by
  refine fw_metR (cc := cX1_cutTo) (maxL := 5) (ret := (some .long)) (by decide) rfl (Nat.le_of_ble_eq_true rfl) ?_
  intro zp ze zs zm zbelow zmeth zc ls hx hb hr hts hown hlocks hml hin hN hP hK hl
  have hown : zs.vm.findClass RX1 = some zm.cls := hown
  have hl : lv_has ls 5 [(0, .ref h0), (1, .int (nI g))] := hl
  have h14 := pd_14 d hd
  obtain ⟨hV, h16⟩ := pd_cut1 hd h1e
  have d14 := hd 14 (by decide)
  have d15 := hd 15 (by decide)
  have d16 := hd 16 (by decide)
  refine lv_aload_n hx hb dX1_cutTo_0 rfl (lv_at hl 0 rfl) ?_
  refine va_get (D := (dC, dI)) (ci := 1) (v := .ref a0) (C := RX1) (T := TX1) (N := 1) hx hb hts (by decide +kernel) hown hK hP 0 rfl rfl 0 (by decide) (hts (.fieldLink RX1 11 "FlakyBounds$Decimal" "parts" "[J") (by decide +kernel)) (fun _ h9 => h9) rfl dX1_cutTo_1 ?_
  refine lv_bipush (v := 16) hx hb dX1_cutTo_4 (by decide) ?_
  refine va_lald hx hb hK hP 1 0 rfl rfl (vp_in_nI (n := 16) (by decide) (by decide)) dX1_cutTo_6 ?_
  refine fw_l (x' := lN (d 16)) (congrArg (fun z => lN (d z)) (show (16 : Int32).toNatClampNeg = 16 by decide)) ?_
  refine lv_ldc2 (v := 1000000000) hx hb hown (hts (.constantLong RX1 17 1000000000) (by decide +kernel)) dX1_cutTo_7 ?_
  refine lv_lmul hx hb dX1_cutTo_10 ?_
  refine fw_l (x' := lN (d 16 * 1000000000)) (lN_mul _ 1000000000) ?_
  refine lv_aload_n hx hb dX1_cutTo_11 rfl (lv_at hl 0 rfl) ?_
  refine va_get (D := (dC, dI)) (ci := 1) (v := .ref a0) (C := RX1) (T := TX1) (N := 1) hx hb hts (by decide +kernel) hown hK hP 0 rfl rfl 0 (by decide) (hts (.fieldLink RX1 11 "FlakyBounds$Decimal" "parts" "[J") (by decide +kernel)) (fun _ h9 => h9) rfl dX1_cutTo_12 ?_
  refine lv_bipush (v := 15) hx hb dX1_cutTo_15 (by decide) ?_
  refine va_lald hx hb hK hP 1 0 rfl rfl (vp_in_nI (n := 15) (by decide) (by decide)) dX1_cutTo_17 ?_
  refine fw_l (x' := lN (d 15)) (congrArg (fun z => lN (d z)) (show (15 : Int32).toNatClampNeg = 15 by decide)) ?_
  refine lv_ladd hx hb dX1_cutTo_18 ?_
  refine fw_l (x' := lN (d 16 * 1000000000 + d 15)) (lN_add _ _) ?_
  refine lv_ldc2 (v := 1000000000) hx hb hown (hts (.constantLong RX1 17 1000000000) (by decide +kernel)) dX1_cutTo_19 ?_
  refine lv_lmul hx hb dX1_cutTo_22 ?_
  refine fw_l (x' := lN ((d 16 * 1000000000 + d 15) * 1000000000)) (lN_mul _ 1000000000) ?_
  refine lv_aload_n hx hb dX1_cutTo_23 rfl (lv_at hl 0 rfl) ?_
  refine va_get (D := (dC, dI)) (ci := 1) (v := .ref a0) (C := RX1) (T := TX1) (N := 1) hx hb hts (by decide +kernel) hown hK hP 0 rfl rfl 0 (by decide) (hts (.fieldLink RX1 11 "FlakyBounds$Decimal" "parts" "[J") (by decide +kernel)) (fun _ h9 => h9) rfl dX1_cutTo_24 ?_
  refine lv_bipush (v := 14) hx hb dX1_cutTo_27 (by decide) ?_
  refine va_lald hx hb hK hP 1 0 rfl rfl (vp_in_nI (n := 14) (by decide) (by decide)) dX1_cutTo_29 ?_
  refine fw_l (x' := lN (d 14)) (congrArg (fun z => lN (d z)) (show (14 : Int32).toNatClampNeg = 14 by decide)) ?_
  refine lv_ladd hx hb dX1_cutTo_30 ?_
  refine fw_l (x' := lN (pd_v d 17 / 1000000000 ^ 14 / 10 ^ (g - g))) (by rw [Nat.sub_self, Nat.pow_zero, Nat.div_one, lN_add, h14]) ?_
  refine lv_lstore_n (lv' := [(2, .long (lN (pd_v d 17 / 1000000000 ^ 14 / 10 ^ (g - g)))), (0, .ref h0), (1, .int (nI g))]) hx hb dX1_cutTo_31 rfl hl (by decide) rfl (fun ls hl => ?_)
  refine lv_iload_n hx hb dX1_cutTo_32 rfl (lv_at hl 2 rfl) ?_
  refine lv_istore (lv' := [(4, .int (nI g)), (2, .long (lN (pd_v d 17 / 1000000000 ^ 14 / 10 ^ (g - g)))), (0, .ref h0), (1, .int (nI g))]) hx hb dX1_cutTo_33 hl (by decide) rfl (fun ls hl => ?_)
  refine fw_loopR (σ := Nat) (I := fun zn u ls => match u with | i => zn = 18 - i ∧ (i ≤ 18) ∧ (g ≤ i) ∧ lv_has ls 5 [(0, .ref h0), (2, .long (lN (pd_v d 17 / 1000000000 ^ 14 / 10 ^ (i - g)))), (4, .int (nI i))]) ?_ _ g _ ⟨rfl, hg, Nat.le_refl g, lv_sub hl [2, 1, 0] rfl⟩
  intro zn i ls hI ih_35
  obtain ⟨hzn, hi, hgi, hl⟩ := hI
  refine lv_iload hx hb dX1_cutTo_35 (lv_at hl 2 rfl) ?_
  refine lv_bipush (v := 18) hx hb dX1_cutTo_37 (by decide) ?_
  refine lv_icmp_ge (tgt := 54) hx hb dX1_cutTo_39 (by decide) (fun c_39 => ?_) (fun c_39 => ?_)
  · -- then 39
    have hi18 : i = 18 := by have := (nI_leI (a := 18) (b := i) (by decide) (by omega)).mp c_39; omega
    subst hi18
    refine lv_lload_n hx hb dX1_cutTo_54 rfl (lv_at hl 1 rfl) ?_
    exact W.lret (v := (lN (pd_v d 17 / 1000000000 ^ 14 / 10 ^ (18 - g)))) hx hb hr (fun zt zht _ => ⟨(lN (pd_v d 17 / 1000000000 ^ 14 / 10 ^ (18 - g))), rfl, rfl, zht⟩) (fun q h => by cases h) dX1_cutTo_55 hlocks
  · -- else 39
    have hlt : i < 18 := by
      rcases Nat.lt_or_ge i 18 with q | q
      · exact q
      · exact absurd (nI_le (a := 18) (b := i) q (by omega)) c_39
    refine lv_lload_n hx hb dX1_cutTo_42 rfl (lv_at hl 1 rfl) ?_
    refine lv_ldc2 (v := 10) hx hb hown (hts (.constantLong RX1 21 10) (by decide +kernel)) dX1_cutTo_43 ?_
    have e46 : lN (pd_v d 17 / 1000000000 ^ 14 / 10 ^ (i - g)) / 10 = lN (pd_v d 17 / 1000000000 ^ 14 / 10 ^ (i + 1 - g)) := by
      rw [show i + 1 - g = (i - g) + 1 by omega]
      exact lN_cut (i - g) hV
    refine lv_ldiv hx hb dX1_cutTo_46 (by decide) ?_
    refine fw_l (x' := lN (pd_v d 17 / 1000000000 ^ 14 / 10 ^ (i + 1 - g))) (e46) ?_
    refine lv_lstore_n (lv' := [(2, .long (lN (pd_v d 17 / 1000000000 ^ 14 / 10 ^ (i + 1 - g)))), (0, .ref h0), (4, .int (nI i))]) hx hb dX1_cutTo_47 rfl hl (by decide) rfl (fun ls hl => ?_)
    refine lv_iinc (v := nI (i + 1)) (lv' := [(4, .int (nI (i + 1))), (2, .long (lN (pd_v d 17 / 1000000000 ^ 14 / 10 ^ (i + 1 - g)))), (0, .ref h0)]) hx hb dX1_cutTo_48 hl (k := 2) rfl (nI_1 i) (by decide) rfl (fun ls hl => ?_)
    refine lv_goto (tgt := 35) hx hb dX1_cutTo_51 (by decide) ?_
    exact ih_35 _ (i + 1) _ (by omega) ⟨rfl, by omega, by omega, lv_sub hl [2, 1, 0] rfl⟩
end
section
/-! the sum on its way -/
theorem pm_b1 {n h j t : Nat} (hn : n ≤ 48) (hh : h ≤ 1000) (hj : j ≤ n) (ht : t ≤ j) : pm_G n h j t * 1000 ^ (48 - n) ≤ 2 * 1000 ^ 48 := by
  have h1 := pm_G_le n h j t (j - t)
  rw [show t + (j - t) = j by omega] at h1
  exact Nat.le_trans (Nat.mul_le_mul_right _ (Nat.le_trans h1 (pm_G_bd h hh n j hj))) (pm_1001 hn)
theorem pm_b2 {n h j : Nat} (hn : n ≤ 48) (hh : h ≤ 1000) (hj : j ≤ n) : pm_ch n j * h ^ j * 1000 ^ (48 - n) ≤ 2 * 1000 ^ 48 :=
  Nat.le_trans (Nat.mul_le_mul_right _ (Nat.le_trans (pm_c_le n h j) (pm_G_bd h hh n j hj))) (pm_1001 hn)
theorem pm_b3 {v f : Nat} (hv : v ≤ 2 * 1000 ^ 48) (hf : f ≤ 48000) : f * v < 1000000000 ^ 17 :=
  Nat.lt_of_le_of_lt (Nat.mul_le_mul hf hv) (by decide +kernel)
theorem pm_b4 {v w : Nat} (hv : v ≤ 2000 * 1000 ^ 48) (hw : w ≤ 2 * 1000 ^ 48) : v + w < 1000000000 ^ 17 :=
  Nat.lt_of_le_of_lt (Nat.add_le_add hv hw) (by decide +kernel)
theorem pm_b5 {v h : Nat} (hv : v ≤ 2 * 1000 ^ 48) : (1000 - h) * v ≤ 2000 * 1000 ^ 48 :=
  Nat.le_trans (Nat.mul_le_mul (show 1000 - h ≤ 1000 by omega) hv) (by decide +kernel)
/-- the next term -/
theorem pm_term {n h j S : Nat} (hj : j < n) : (n - j) * h * (pm_ch n j * h ^ j * S) / (j + 1) = pm_ch n (j + 1) * h ^ (j + 1) * S := by
  have h1 := pm_ch_mul n j
  have h2 : (n - j) * pm_ch n j = (j + 1) * pm_ch n (j + 1) := by
    rw [Nat.sub_mul]
    omega
  have h3 : (n - j) * h * (pm_ch n j * h ^ j * S) = (pm_ch n (j + 1) * h ^ (j + 1) * S) * (j + 1) := by
    calc (n - j) * h * (pm_ch n j * h ^ j * S) = ((n - j) * pm_ch n j) * (h ^ j * h * S) := by simp only [Nat.mul_assoc, Nat.mul_comm, Nat.mul_left_comm]
      _ = ((j + 1) * pm_ch n (j + 1)) * (h ^ j * h * S) := by rw [h2]
      _ = (pm_ch n (j + 1) * h ^ (j + 1) * S) * (j + 1) := by
        rw [Nat.pow_succ]
        simp only [Nat.mul_assoc, Nat.mul_comm, Nat.mul_left_comm]
  rw [h3, Nat.mul_div_cancel _ (Nat.succ_pos j)]
theorem pm_s1 {n h j m S v : Nat} (hm : m ≤ j) (hv : v = pm_G n h j (min j m) * S) : (1000 - h) * v = pm_G n h (j + 1) (min (j + 1) m) * S := by
  rw [hv, Nat.min_eq_right hm, Nat.min_eq_right (by omega), pm_G_up n h j m hm, Nat.mul_assoc]
theorem pm_s2 {n h j m S v w : Nat} (hm : j < m) (hv : v = pm_G n h j (min j m) * S) (hw : w = pm_ch n (j + 1) * h ^ (j + 1) * S) : (1000 - h) * v + w = pm_G n h (j + 1) (min (j + 1) m) * S := by
  rw [hv, hw, Nat.min_eq_left (by omega), Nat.min_eq_left (by omega), pm_GS n h (j + 1) j, pm_G_up n h j j (Nat.le_refl j), Nat.sub_self, Nat.pow_zero, Nat.mul_one, Nat.add_mul, Nat.mul_assoc (1000 - h)]
/-- whether the sum, through 1000^n, is above a level of thousandths -/
def pv_above (n m h lv : Nat) : Bool := decide (lv * 1000 ^ n < 1000 * pm_G n h n m)
theorem pv_above_v {n m h lv v : Nat} (hn : n ≤ 48) (hv : v = pm_G n h n m * 1000 ^ (48 - n)) : decide (lv * 1000000 * 1000000000 ^ 15 < v) = pv_above n m h lv := by
  unfold pv_above
  have e : (1000000 : Nat) * 1000000000 ^ 15 * 1000 = 1000 ^ n * 1000 ^ (48 - n) := by
    rw [← Nat.pow_add, show n + (48 - n) = 48 by omega]
  have hp : 0 < 1000 ^ (48 - n) := Nat.pow_pos (by decide)
  have h1 : lv * 1000000 * 1000000000 ^ 15 < v ↔ lv * 1000 ^ n < 1000 * pm_G n h n m := by
    rw [hv]
    generalize pm_G n h n m = G
    generalize 1000 ^ (48 - n) = S at e hp ⊢
    generalize 1000 ^ n = T at e ⊢
    have e1 : lv * 1000000 * 1000000000 ^ 15 * 1000 = lv * T * S := by
      rw [Nat.mul_assoc lv, Nat.mul_assoc lv, e, Nat.mul_assoc]
    have e2 : G * S * 1000 = 1000 * G * S := by rw [Nat.mul_comm, Nat.mul_assoc]
    constructor
    · intro h
      have h2 := Nat.mul_lt_mul_of_pos_right h (show 0 < 1000 by decide)
      rw [e1, e2] at h2
      exact Nat.lt_of_mul_lt_mul_right h2
    · intro h
      have h2 := Nat.mul_lt_mul_of_pos_right h hp
      rw [← e1, ← e2] at h2
      exact Nat.lt_of_mul_lt_mul_right h2
  exact decide_eq_decide.mpr h1
theorem pv_above_anti {n m h h2 lv : Nat} (hh : h ≤ h2) (h1000 : h2 ≤ 1000) (ha : pv_above n m h2 lv = true) : pv_above n m h lv = true := by
  unfold pv_above at *
  rw [decide_eq_true_eq] at *
  have := pm_P_anti n m (h2 - h) h (by omega)
  rw [show h + (h2 - h) = h2 by omega] at this
  omega
theorem pv_above_0 {n m lv : Nat} (hl : lv ≤ 999) : pv_above n m 0 lv = true := by
  unfold pv_above
  rw [decide_eq_true_eq, pm_P_zero]
  exact Nat.mul_lt_mul_of_pos_right (by omega) (Nat.pow_pos (by decide))
end
section
set_option maxHeartbeats 4000000 in
set_option maxRecDepth 100000 in
theorem c_cha_init (l : Launch) (dC : Nat → ClassId) (dI : Nat → Nat → Nat) (c0 : Nat) (sz : Nat)  : Met l yX0_init wsX0_init ({ frames := 2, cells := 4, slots := 36, locals := 32 } : Room) (va_Pc [.ref c0] (fw_pW (dC, dI) vwCl [] [(c0, .inr (0, [.null, .null]))] sz)) (va_Qv (S := Nat × Nat × Nat × Nat × ClassId) (fun _ => True) (fun u t => match u with | (s0, sa, t0, ta, cJ) => fw_q (dC, dI) vwCl [(cJ, .long)] (va_A [(c0, .inr (0, [.null, .null]))] sz) [(c0, .inr (0, [.ref s0, .ref t0])), (s0, .inr (1, [.ref sa])), (sa, .inl (cJ, 17, .inr (.inl (fun j => lN ((fun _ : Nat => 0) j))))), (t0, .inr (1, [.ref ta])), (ta, .inl (cJ, 17, .inr (.inl (fun j => lN ((fun _ : Nat => 0) j)))))] t) (va_A [(c0, .inr (0, [.null, .null]))] sz)) 4 36 (va_A [(c0, .inr (0, [.null, .null]))] sz) := by
  refine fw_metW (cc := cX0_init) (maxL := 1) (ret := none) (by decide) rfl (Nat.le_of_ble_eq_true rfl) ?_
  intro zp ze zs zm zbelow zmeth zc ls hx hb hr hts hown hlocks hml hin hN hsz hP hK hD hA hS hl
  generalize hAe : (va_A [(c0, .inr (0, [.null, .null]))] sz) = A at hD hA hS ⊢
  have hown : zs.vm.findClass RX0 = some zm.cls := hown
  have hin : zmeth.name = "<init>" := hin
  have hl : lv_has ls 1 [(0, .ref c0)] := hl
  refine lv_aload_n hx hb dX0_init_0 rfl (lv_at hl 0 rfl) ?_
  refine W.objInit hx hb hown (hts (.methodLink RX0 3 objectInit) (by decide +kernel)) (hts (.instanceMethod objectInit) (by decide +kernel)) (hts _ (by decide +kernel)) rfl (by rw [hml]; exact hl.1) rfl dX0_init_1 (Nat.le_of_ble_eq_true rfl) (Nat.le_of_ble_eq_true rfl) ?_
  refine W.eq (g2 := F0 zm 4 ls []) rfl ?_
  refine lv_aload_n hx hb dX0_init_4 rfl (lv_at hl 0 rfl) ?_
  refine va_new (ci := 1) (fs := [.null]) (C := RX1) (T := TX1) (N := 1) hx hb hts (by decide +kernel) tyX1 tyX1_ok hown (hts (.classLink RX0 9 RX1) (by decide +kernel)) (hts (.instantiable RX1 1) (by decide +kernel)) (hts (.initialized RX1) (by decide +kernel)) hK hP hD hS hA rfl (by decide) (Nat.le_of_ble_eq_true rfl) (Nat.le_of_ble_eq_true rfl) dX0_init_5 (fun q5 H hP hD hS => ?_)
  have hP : va_P (dC, dI) vwCl [(c0, .inr (0, [.null, .null])), (q5, .inr (1, [.null]))] H := hP
  have hD : va_D A [(c0, .inr (0, [.null, .null])), (q5, .inr (1, [.null]))] := hD
  refine W.widen (k := 1) (n := 1) (by decide) (by decide) ?_
  refine lv_dup hx hb dX0_init_8 rfl ?_
  have hPc := hP.sub (ws' := [(q5, .inr (1, [.null]))]) [1] rfl
  have hKc := hK.sub (tys' := []) [] rfl
  have hDc := hD.sub (ws' := [(q5, .inr (1, [.null]))]) [1] (by decide) rfl
  have hFc := va_free (wc := [(q5, .inr (1, [.null]))]) hD hS hA [1] rfl
  refine va_callv (va_runI (As := []) (rest := [.ref q5, .ref c0]) ⟨hx, hb, hml, hown, hts⟩ (c_dec_init l dC dI q5 H.size) (cwI 0 hts gX0_init_X1_init rfl rfl rfl (hts (.initialized RX1) (by decide +kernel)) (hts (.methodLink RX0 11 yX1_init) (by decide +kernel)) (hts (.instanceMethod yX1_init) (by decide +kernel)) rfl (by decide +kernel) ⟨Nat.le_of_ble_eq_true rfl, Nat.le_of_ble_eq_true rfl⟩) (fw_preSW hN hKc hPc hDc) rfl rfl hl.1 rfl (lv_room (Nat.le_of_ble_eq_true rfl)) dX0_init_9 ⟨Nat.le_of_ble_eq_true rfl, Nat.le_of_ble_eq_true rfl⟩) hS (fun q _ h => hFc q h) hFc (fun u zt H1 locs zht hvm hw hB hz1 hk1 hS => ?_)
  obtain ⟨a9, cJ9⟩ := u
  obtain ⟨hP1, hK1, hD1⟩ := hB
  rw [zht] at hP1
  obtain ⟨hP, hD⟩ := va_join (wr := [(c0, .inr (0, [.null, .null]))]) (w1 := [(q5, .inr (1, [.ref a9])), (a9, .inl (cJ9, 17, .inr (.inl (fun _ => 0))))]) hP hD [1] [0] rfl rfl (by decide) (by decide) hk1 hFc hP1 hD1
  have hK := hK.app (va_K.moved hvm.symm hK1)
  have hK : va_K (dC, dI) vwCl [(cJ9, .long)] zs := hK
  generalize H1 = H at hP hS ⊢
  have hP : va_P (dC, dI) vwCl [(c0, .inr (0, [.null, .null])), (q5, .inr (1, [.ref a9])), (a9, .inl (cJ9, 17, .inr (.inl (fun _ => 0))))] H := hP
  have hD : va_D A [(c0, .inr (0, [.null, .null])), (q5, .inr (1, [.ref a9])), (a9, .inl (cJ9, 17, .inr (.inl (fun _ => 0))))] := hD
  refine W.widen (k := 2) (n := 18) (by decide) (by decide) ?_
  refine va_putF (D := (dC, dI)) (ci := 0) (v := .ref q5) (ty := (.object "FlakyBounds$Decimal")) (C := RX0) (T := TX0) (N := 2) hx hb hts (by decide +kernel) tyX0 tyX0_ok nmX0 hown hK hP hD hS 0 rfl rfl 0 (by decide) (hts (.fieldLink RX0 12 "FlakyBounds$Chance" "sum" "LFlakyBounds$Decimal;") (by decide +kernel)) (fun _ h9 => h9) rfl hin rfl (by decide +kernel) rfl rfl (Nat.le_of_ble_eq_true rfl) dX0_init_12 (fun H locs hP hD hS => ?_)
  have hP : va_P (dC, dI) vwCl [(c0, .inr (0, [.ref q5, .null])), (q5, .inr (1, [.ref a9])), (a9, .inl (cJ9, 17, .inr (.inl (fun _ => 0))))] H := hP
  have hD : va_D A [(c0, .inr (0, [.ref q5, .null])), (q5, .inr (1, [.ref a9])), (a9, .inl (cJ9, 17, .inr (.inl (fun _ => 0))))] := hD
  refine lv_aload_n hx hb dX0_init_15 rfl (lv_at hl 0 rfl) ?_
  refine va_new (ci := 1) (fs := [.null]) (C := RX1) (T := TX1) (N := 1) hx hb hts (by decide +kernel) tyX1 tyX1_ok hown (hts (.classLink RX0 9 RX1) (by decide +kernel)) (hts (.instantiable RX1 1) (by decide +kernel)) (hts (.initialized RX1) (by decide +kernel)) hK hP hD hS hA rfl (by decide) (Nat.le_of_ble_eq_true rfl) (Nat.le_of_ble_eq_true rfl) dX0_init_16 (fun q16 H hP hD hS => ?_)
  have hP : va_P (dC, dI) vwCl [(c0, .inr (0, [.ref q5, .null])), (q5, .inr (1, [.ref a9])), (a9, .inl (cJ9, 17, .inr (.inl (fun _ => 0)))), (q16, .inr (1, [.null]))] H := hP
  have hD : va_D A [(c0, .inr (0, [.ref q5, .null])), (q5, .inr (1, [.ref a9])), (a9, .inl (cJ9, 17, .inr (.inl (fun _ => 0)))), (q16, .inr (1, [.null]))] := hD
  refine W.widen (k := 3) (n := 19) (by decide) (by decide) ?_
  refine lv_dup hx hb dX0_init_19 rfl ?_
  have hPc := hP.sub (ws' := [(q16, .inr (1, [.null]))]) [3] rfl
  have hKc := hK.sub (tys' := []) [] rfl
  have hDc := hD.sub (ws' := [(q16, .inr (1, [.null]))]) [3] (by decide) rfl
  have hFc := va_free (wc := [(q16, .inr (1, [.null]))]) hD hS hA [3] rfl
  refine va_callv (va_runI (As := []) (rest := [.ref q16, .ref c0]) ⟨hx, hb, hml, hown, hts⟩ (c_dec_init l dC dI q16 H.size) (cwI 0 hts gX0_init_X1_init rfl rfl rfl (hts (.initialized RX1) (by decide +kernel)) (hts (.methodLink RX0 11 yX1_init) (by decide +kernel)) (hts (.instanceMethod yX1_init) (by decide +kernel)) rfl (by decide +kernel) ⟨Nat.le_of_ble_eq_true rfl, Nat.le_of_ble_eq_true rfl⟩) (fw_preSW hN hKc hPc hDc) rfl rfl hl.1 rfl (lv_room (Nat.le_of_ble_eq_true rfl)) dX0_init_20 ⟨Nat.le_of_ble_eq_true rfl, Nat.le_of_ble_eq_true rfl⟩) hS (fun q _ h => hFc q h) hFc (fun u zt H1 locs zht hvm hw hB hz1 hk1 hS => ?_)
  obtain ⟨a20, cJ20⟩ := u
  obtain ⟨hP1, hK1, hD1⟩ := hB
  rw [zht] at hP1
  obtain ⟨hP, hD⟩ := va_join (wr := [(c0, .inr (0, [.ref q5, .null])), (q5, .inr (1, [.ref a9])), (a9, .inl (cJ9, 17, .inr (.inl (fun _ => 0))))]) (w1 := [(q16, .inr (1, [.ref a20])), (a20, .inl (cJ20, 17, .inr (.inl (fun _ => 0))))]) hP hD [3] [0, 1, 2] rfl rfl (by decide) (by decide) hk1 hFc hP1 hD1
  have hK := hK.app (va_K.moved hvm.symm hK1)
  have hK : va_K (dC, dI) vwCl [(cJ9, .long), (cJ20, .long)] zs := hK
  generalize H1 = H at hP hS ⊢
  have hP : va_P (dC, dI) vwCl [(c0, .inr (0, [.ref q5, .null])), (q5, .inr (1, [.ref a9])), (a9, .inl (cJ9, 17, .inr (.inl (fun _ => 0)))), (q16, .inr (1, [.ref a20])), (a20, .inl (cJ20, 17, .inr (.inl (fun _ => 0))))] H := hP
  have hD : va_D A [(c0, .inr (0, [.ref q5, .null])), (q5, .inr (1, [.ref a9])), (a9, .inl (cJ9, 17, .inr (.inl (fun _ => 0)))), (q16, .inr (1, [.ref a20])), (a20, .inl (cJ20, 17, .inr (.inl (fun _ => 0))))] := hD
  refine W.widen (k := 4) (n := 36) (by decide) (by decide) ?_
  refine va_putF (D := (dC, dI)) (ci := 0) (v := .ref q16) (ty := (.object "FlakyBounds$Decimal")) (C := RX0) (T := TX0) (N := 2) hx hb hts (by decide +kernel) tyX0 tyX0_ok nmX0 hown hK hP hD hS 0 rfl rfl 1 (by decide) (hts (.fieldLink RX0 18 "FlakyBounds$Chance" "term" "LFlakyBounds$Decimal;") (by decide +kernel)) (fun _ h9 => h9) rfl hin rfl (by decide +kernel) rfl rfl (Nat.le_of_ble_eq_true rfl) dX0_init_23 (fun H locs hP hD hS => ?_)
  have hP : va_P (dC, dI) vwCl [(c0, .inr (0, [.ref q5, .ref q16])), (q5, .inr (1, [.ref a9])), (a9, .inl (cJ9, 17, .inr (.inl (fun _ => 0)))), (q16, .inr (1, [.ref a20])), (a20, .inl (cJ20, 17, .inr (.inl (fun _ => 0))))] H := hP
  have hD : va_D A [(c0, .inr (0, [.ref q5, .ref q16])), (q5, .inr (1, [.ref a9])), (a9, .inl (cJ9, 17, .inr (.inl (fun _ => 0)))), (q16, .inr (1, [.ref a20])), (a20, .inl (cJ20, 17, .inr (.inl (fun _ => 0))))] := hD
  have ej : cJ20 = cJ9 := Option.some.inj ((va_nm_long (hK.2 1 _ rfl).2).symm.trans (va_nm_long (hK.2 0 _ rfl).2))
  rw [ej] at hP hD hK
  have hP9 := hP.sub (ws' := [(c0, .inr (0, [.ref q5, .ref q16])), (q5, .inr (1, [.ref a9])), (a9, .inl (cJ9, 17, .inr (.inl (fun j => lN ((fun _ : Nat => 0) j))))), (q16, .inr (1, [.ref a20])), (a20, .inl (cJ9, 17, .inr (.inl (fun j => lN ((fun _ : Nat => 0) j)))))]) [0, 1, 2, 3, 4] rfl
  have hD9 := hD.sub (ws' := [(c0, .inr (0, [.ref q5, .ref q16])), (q5, .inr (1, [.ref a9])), (a9, .inl (cJ9, 17, .inr (.inl (fun j => lN ((fun _ : Nat => 0) j))))), (q16, .inr (1, [.ref a20])), (a20, .inl (cJ9, 17, .inr (.inl (fun j => lN ((fun _ : Nat => 0) j)))))]) [0, 1, 2, 3, 4] (by decide) rfl
  have hK9 := hK.sub (tys' := [(cJ9, .long)]) [0] rfl
  exact W.vret hx hb hr (fun zt zht hW => ⟨⟨(q5, a9, q16, a20, cJ9), rfl, trivial, by rw [zht]; exact hP9, va_K.moved hW.alike hK9, hD9⟩, hS.F zht⟩) hS.2.2 dX0_init_26 hlocks
set_option maxHeartbeats 4000000 in
set_option maxRecDepth 100000 in
theorem c_cha_upto (l : Launch) (dC : Nat → ClassId) (dI : Nat → Nat → Nat) (c0 s0 sa t0 ta : Nat) (cJ : ClassId) (ds dt : Nat → Nat) (n m h : Nat) (sz : Nat) (hn48 : n ≤ 48) (hmn : m ≤ n) (hh : h ≤ 1000) : Met l yX0_upTo wsX0_upTo ({ frames := 1, cells := 0, slots := 0, locals := 26 } : Room) (va_Pc [.ref c0, .int (nI n), .int (nI m), .int (nI h)] (fw_pW (dC, dI) vwCl [(cJ, .long)] [(c0, .inr (0, [.ref s0, .ref t0])), (s0, .inr (1, [.ref sa])), (sa, .inl (cJ, 17, .inr (.inl (fun j => lN (ds j))))), (t0, .inr (1, [.ref ta])), (ta, .inl (cJ, 17, .inr (.inl (fun j => lN (dt j)))))] sz)) (va_Qr (S := (Nat → Nat) × (Nat → Nat)) (fun u => pd_ok u.1 ∧ pd_v u.1 17 = pm_G n h n m * 1000 ^ (48 - n)) (fun u a t => a = s0 ∧ fw_q (dC, dI) vwCl [(cJ, .long)] (va_A [(c0, .inr (0, [.ref s0, .ref t0])), (s0, .inr (1, [.ref sa])), (sa, .inl (cJ, 17, .inr (.inl (fun j => lN (ds j))))), (t0, .inr (1, [.ref ta])), (ta, .inl (cJ, 17, .inr (.inl (fun j => lN (dt j)))))] sz) [(c0, .inr (0, [.ref s0, .ref t0])), (s0, .inr (1, [.ref sa])), (sa, .inl (cJ, 17, .inr (.inl (fun j => lN (u.1 j))))), (t0, .inr (1, [.ref ta])), (ta, .inl (cJ, 17, .inr (.inl (fun j => lN (u.2 j)))))] t) (va_A [(c0, .inr (0, [.ref s0, .ref t0])), (s0, .inr (1, [.ref sa])), (sa, .inl (cJ, 17, .inr (.inl (fun j => lN (ds j))))), (t0, .inr (1, [.ref ta])), (ta, .inl (cJ, 17, .inr (.inl (fun j => lN (dt j)))))] sz)) 0 0 (va_A [(c0, .inr (0, [.ref s0, .ref t0])), (s0, .inr (1, [.ref sa])), (sa, .inl (cJ, 17, .inr (.inl (fun j => lN (ds j))))), (t0, .inr (1, [.ref ta])), (ta, .inl (cJ, 17, .inr (.inl (fun j => lN (dt j)))))] sz) := by
  refine fw_metW (cc := cX0_upTo) (maxL := 6) (ret := (some (.object "FlakyBounds$Decimal"))) (by decide) rfl (Nat.le_of_ble_eq_true rfl) ?_
  intro zp ze zs zm zbelow zmeth zc ls hx hb hr hts hown hlocks hml hin hN hsz hP hK hD hA hS hl
  generalize hAe : (va_A [(c0, .inr (0, [.ref s0, .ref t0])), (s0, .inr (1, [.ref sa])), (sa, .inl (cJ, 17, .inr (.inl (fun j => lN (ds j))))), (t0, .inr (1, [.ref ta])), (ta, .inl (cJ, 17, .inr (.inl (fun j => lN (dt j)))))] sz) = A at hD hA hS ⊢
  have hown : zs.vm.findClass RX0 = some zm.cls := hown
  have hl : lv_has ls 6 [(0, .ref c0), (1, .int (nI n)), (2, .int (nI m)), (3, .int (nI h))] := hl
  refine lv_sipush (v := 1000) hx hb dX0_upTo_0 (by decide) ?_
  refine lv_iload_n hx hb dX0_upTo_3 rfl (lv_at hl 3 rfl) ?_
  refine lv_isub hx hb dX0_upTo_4 ?_
  refine fw_i (x' := nI (1000 - h)) (pk_sub (a := 1000) hh) ?_
  refine lv_istore (lv' := [(4, .int (nI (1000 - h))), (0, .ref c0), (1, .int (nI n)), (2, .int (nI m)), (3, .int (nI h))]) hx hb dX0_upTo_5 hl (by decide) rfl (fun ls hl => ?_)
  refine lv_aload_n hx hb dX0_upTo_7 rfl (lv_at hl 1 rfl) ?_
  refine va_get (D := (dC, dI)) (ci := 0) (v := .ref s0) (C := RX0) (T := TX0) (N := 2) hx hb hts (by decide +kernel) hown hK hP 0 rfl rfl 0 (by decide) (hts (.fieldLink RX0 12 "FlakyBounds$Chance" "sum" "LFlakyBounds$Decimal;") (by decide +kernel)) (fun _ h9 => h9) rfl dX0_upTo_8 ?_
  refine lv_iload_n hx hb dX0_upTo_11 rfl (lv_at hl 2 rfl) ?_
  have hPc := hP.sub (ws' := [(s0, .inr (1, [.ref sa])), (sa, .inl (cJ, 17, .inr (.inl (fun j => lN (ds j)))))]) [1, 2] rfl
  have hKc := hK.sub (tys' := [(cJ, .long)]) [0] rfl
  have hDc := hD.sub (ws' := [(s0, .inr (1, [.ref sa])), (sa, .inl (cJ, 17, .inr (.inl (fun j => lN (ds j)))))]) [1, 2] (by decide) rfl
  have hFc := va_free (wc := [(s0, .inr (1, [.ref sa])), (sa, .inl (cJ, 17, .inr (.inl (fun j => lN (ds j)))))]) hD hS hA [1, 2] rfl
  refine va_callv (va_runV (As := [.int (nI n)]) (rest := []) ⟨hx, hb, hml, hown, hts⟩ (c_dec_set l dC dI s0 sa cJ ds n zs.heap.size hn48) (cwV 1 hts gX0_upTo_X1_setThousandths rfl rfl rfl (by decide +kernel) ⟨Nat.le_of_ble_eq_true rfl, Nat.le_of_ble_eq_true rfl⟩) (fw_preVW hN hKc hPc hDc (ci := 1) (q0 := 0) rfl rfl) rfl rfl hl.1 rfl (lv_room (Nat.le_of_ble_eq_true rfl)) dX0_upTo_12 ⟨Nat.le_of_ble_eq_true rfl, Nat.le_of_ble_eq_true rfl⟩) hS (fun q _ h => hFc q h) hFc (fun e1 zt H1 locs zht hvm hw hB hz1 hk1 hS => ?_)
  obtain ⟨ok_e1, v_e1⟩ := hw
  obtain ⟨hP1, hK1, hD1⟩ := hB
  rw [zht] at hP1
  obtain ⟨hP, hD⟩ := va_join (wr := [(c0, .inr (0, [.ref s0, .ref t0])), (t0, .inr (1, [.ref ta])), (ta, .inl (cJ, 17, .inr (.inl (fun j => lN (dt j)))))]) (w1 := [(s0, .inr (1, [.ref sa])), (sa, .inl (cJ, 17, .inr (.inl (fun j => lN (e1 j)))))]) hP hD [1, 2] [0, 3, 4] rfl rfl (by decide) (by decide) hk1 hFc hP1 hD1
  generalize H1 = H at hP hS ⊢
  have hP : va_P (dC, dI) vwCl [(c0, .inr (0, [.ref s0, .ref t0])), (t0, .inr (1, [.ref ta])), (ta, .inl (cJ, 17, .inr (.inl (fun j => lN (dt j))))), (s0, .inr (1, [.ref sa])), (sa, .inl (cJ, 17, .inr (.inl (fun j => lN (e1 j)))))] H := hP
  have hD : va_D A [(c0, .inr (0, [.ref s0, .ref t0])), (t0, .inr (1, [.ref ta])), (ta, .inl (cJ, 17, .inr (.inl (fun j => lN (dt j))))), (s0, .inr (1, [.ref sa])), (sa, .inl (cJ, 17, .inr (.inl (fun j => lN (e1 j)))))] := hD
  refine lv_aload_n hx hb dX0_upTo_15 rfl (lv_at hl 1 rfl) ?_
  refine va_get (D := (dC, dI)) (ci := 0) (v := .ref t0) (C := RX0) (T := TX0) (N := 2) hx hb hts (by decide +kernel) hown hK hP 0 rfl rfl 1 (by decide) (hts (.fieldLink RX0 18 "FlakyBounds$Chance" "term" "LFlakyBounds$Decimal;") (by decide +kernel)) (fun _ h9 => h9) rfl dX0_upTo_16 ?_
  refine lv_iload_n hx hb dX0_upTo_19 rfl (lv_at hl 2 rfl) ?_
  have hPc := hP.sub (ws' := [(t0, .inr (1, [.ref ta])), (ta, .inl (cJ, 17, .inr (.inl (fun j => lN (dt j)))))]) [1, 2] rfl
  have hKc := hK.sub (tys' := [(cJ, .long)]) [0] rfl
  have hDc := hD.sub (ws' := [(t0, .inr (1, [.ref ta])), (ta, .inl (cJ, 17, .inr (.inl (fun j => lN (dt j)))))]) [1, 2] (by decide) rfl
  have hFc := va_free (wc := [(t0, .inr (1, [.ref ta])), (ta, .inl (cJ, 17, .inr (.inl (fun j => lN (dt j)))))]) hD hS hA [1, 2] rfl
  refine va_callv (va_runV (As := [.int (nI n)]) (rest := []) ⟨hx, hb, hml, hown, hts⟩ (c_dec_set l dC dI t0 ta cJ dt n H.size hn48) (cwV 1 hts gX0_upTo_X1_setThousandths rfl rfl rfl (by decide +kernel) ⟨Nat.le_of_ble_eq_true rfl, Nat.le_of_ble_eq_true rfl⟩) (fw_preVW hN hKc hPc hDc (ci := 1) (q0 := 0) rfl rfl) rfl rfl hl.1 rfl (lv_room (Nat.le_of_ble_eq_true rfl)) dX0_upTo_20 ⟨Nat.le_of_ble_eq_true rfl, Nat.le_of_ble_eq_true rfl⟩) hS (fun q _ h => hFc q h) hFc (fun e2 zt H1 locs zht hvm hw hB hz1 hk1 hS => ?_)
  obtain ⟨ok_e2, v_e2⟩ := hw
  obtain ⟨hP1, hK1, hD1⟩ := hB
  rw [zht] at hP1
  obtain ⟨hP, hD⟩ := va_join (wr := [(c0, .inr (0, [.ref s0, .ref t0])), (s0, .inr (1, [.ref sa])), (sa, .inl (cJ, 17, .inr (.inl (fun j => lN (e1 j)))))]) (w1 := [(t0, .inr (1, [.ref ta])), (ta, .inl (cJ, 17, .inr (.inl (fun j => lN (e2 j)))))]) hP hD [1, 2] [0, 3, 4] rfl rfl (by decide) (by decide) hk1 hFc hP1 hD1
  generalize H1 = H at hP hS ⊢
  have hP : va_P (dC, dI) vwCl [(c0, .inr (0, [.ref s0, .ref t0])), (s0, .inr (1, [.ref sa])), (sa, .inl (cJ, 17, .inr (.inl (fun j => lN (e1 j))))), (t0, .inr (1, [.ref ta])), (ta, .inl (cJ, 17, .inr (.inl (fun j => lN (e2 j)))))] H := hP
  have hD : va_D A [(c0, .inr (0, [.ref s0, .ref t0])), (s0, .inr (1, [.ref sa])), (sa, .inl (cJ, 17, .inr (.inl (fun j => lN (e1 j))))), (t0, .inr (1, [.ref ta])), (ta, .inl (cJ, 17, .inr (.inl (fun j => lN (e2 j)))))] := hD
  refine lv_iconst (v := 1) hx hb dX0_upTo_23 (by decide) ?_
  refine lv_istore (lv' := [(5, .int 1), (4, .int (nI (1000 - h))), (0, .ref c0), (1, .int (nI n)), (2, .int (nI m)), (3, .int (nI h))]) hx hb dX0_upTo_24 hl (by decide) rfl (fun ls hl => ?_)
  refine fw_loop (σ := Nat × (Nat → Nat) × (Nat → Nat)) (I := fun zn u H locs ls => match u with | (j, d1, d2) => zn = n - j ∧ (j ≤ n) ∧ (pd_ok d1) ∧ (pd_ok d2) ∧ (pd_v d1 17 = pm_G n h j (min j m) * 1000 ^ (48 - n)) ∧ (pd_v d2 17 = pm_ch n (min j m) * h ^ (min j m) * 1000 ^ (48 - n)) ∧ va_P (dC, dI) vwCl [(c0, .inr (0, [.ref s0, .ref t0])), (s0, .inr (1, [.ref sa])), (sa, .inl (cJ, 17, .inr (.inl (fun j => lN (d1 j))))), (t0, .inr (1, [.ref ta])), (ta, .inl (cJ, 17, .inr (.inl (fun j => lN (d2 j)))))] H ∧ va_D A [(c0, .inr (0, [.ref s0, .ref t0])), (s0, .inr (1, [.ref sa])), (sa, .inl (cJ, 17, .inr (.inl (fun j => lN (d1 j))))), (t0, .inr (1, [.ref ta])), (ta, .inl (cJ, 17, .inr (.inl (fun j => lN (d2 j)))))] ∧ va_S A zs.heap H locs ∧ lv_has ls 6 [(0, .ref c0), (1, .int (nI n)), (2, .int (nI m)), (3, .int (nI h)), (4, .int (nI (1000 - h))), (5, .int (nI (j + 1)))]) ?_ _ (0, e1, e2) _ _ _ ⟨rfl, by omega, ok_e1, ok_e2, by rw [v_e1, Nat.zero_min, pm_G0, Nat.pow_zero, Nat.one_mul], by rw [v_e2, Nat.zero_min, pm_ch0, Nat.pow_zero, Nat.one_mul], hP.sub [0, 1, 2, 3, 4] rfl, hD.sub [0, 1, 2, 3, 4] (by decide) rfl, hS, lv_sub hl [2, 3, 4, 5, 1, 0] rfl⟩
  intro zn u H locs ls hI ih_26
  obtain ⟨j, d1, d2⟩ := u
  obtain ⟨hzn, hj, hso, hto, hsv, htv, hP, hD, hS, hl⟩ := hI
  refine lv_iload hx hb dX0_upTo_26 (lv_at hl 5 rfl) ?_
  refine lv_iload_n hx hb dX0_upTo_28 rfl (lv_at hl 1 rfl) ?_
  refine lv_icmp_gt (tgt := 95) hx hb dX0_upTo_29 (by decide) (fun c_29 => ?_) (fun c_29 => ?_)
  · -- then 29
    have hjn : j = n := by have := (nI_ltI (a := n) (b := j + 1) (by omega) (by omega)).mp c_29; omega
    refine lv_aload_n hx hb dX0_upTo_95 rfl (lv_at hl 0 rfl) ?_
    refine va_get (D := (dC, dI)) (ci := 0) (v := .ref s0) (C := RX0) (T := TX0) (N := 2) hx hb hts (by decide +kernel) hown hK hP 0 rfl rfl 0 (by decide) (hts (.fieldLink RX0 12 "FlakyBounds$Chance" "sum" "LFlakyBounds$Decimal;") (by decide +kernel)) (fun _ h9 => h9) rfl dX0_upTo_96 ?_
    have hP9 := hP.sub (ws' := [(c0, .inr (0, [.ref s0, .ref t0])), (s0, .inr (1, [.ref sa])), (sa, .inl (cJ, 17, .inr (.inl (fun j => lN (d1 j))))), (t0, .inr (1, [.ref ta])), (ta, .inl (cJ, 17, .inr (.inl (fun j => lN (d2 j)))))]) [0, 1, 2, 3, 4] rfl
    have hD9 := hD.sub (ws' := [(c0, .inr (0, [.ref s0, .ref t0])), (s0, .inr (1, [.ref sa])), (sa, .inl (cJ, 17, .inr (.inl (fun j => lN (d1 j))))), (t0, .inr (1, [.ref ta])), (ta, .inl (cJ, 17, .inr (.inl (fun j => lN (d2 j)))))]) [0, 1, 2, 3, 4] (by decide) rfl
    have hK9 := hK.sub (tys' := [(cJ, .long)]) [0] rfl
    exact W.aret (v := .ref s0) hx hb hr (Or.inl ⟨_, rfl⟩) (Or.inr ⟨_, rfl⟩) (fun zt zht hW => ⟨⟨(d1, d2), s0, rfl, ⟨hso, by rw [hsv, hjn, Nat.min_eq_right hmn]⟩, rfl, by rw [zht]; exact hP9, va_K.moved hW.alike hK9, hD9⟩, hS.F zht⟩) hS.2.2 dX0_upTo_99 hlocks
  · -- else 29
    have hlt : j < n := by
      rcases Nat.lt_or_ge j n with q9 | q9
      · exact q9
      · exact absurd (nI_lt (a := n) (b := j + 1) (by omega) (by omega)) c_29
    have hB1 : pd_v d1 17 ≤ 2 * 1000 ^ 48 := by rw [hsv]; exact pm_b1 hn48 hh (by omega) (Nat.min_le_left _ _)
    have hm45 := pm_b3 (f := 1000 - h) hB1 (by omega)
    refine lv_iload hx hb dX0_upTo_32 (lv_at hl 5 rfl) ?_
    refine lv_bipush (v := 48) hx hb dX0_upTo_34 (by decide) ?_
    refine lv_icmp_gt (tgt := 95) hx hb dX0_upTo_36 (by decide) (fun c_36 => absurd c_36 (nI_nlt (a := 48) (b := j + 1) (by omega) (by decide))) (fun _ => ?_)
    refine lv_aload_n hx hb dX0_upTo_39 rfl (lv_at hl 0 rfl) ?_
    refine va_get (D := (dC, dI)) (ci := 0) (v := .ref s0) (C := RX0) (T := TX0) (N := 2) hx hb hts (by decide +kernel) hown hK hP 0 rfl rfl 0 (by decide) (hts (.fieldLink RX0 12 "FlakyBounds$Chance" "sum" "LFlakyBounds$Decimal;") (by decide +kernel)) (fun _ h9 => h9) rfl dX0_upTo_40 ?_
    refine lv_iload hx hb dX0_upTo_43 (lv_at hl 4 rfl) ?_
    have hPc := hP.sub (ws' := [(s0, .inr (1, [.ref sa])), (sa, .inl (cJ, 17, .inr (.inl (fun j => lN (d1 j)))))]) [1, 2] rfl
    have hKc := hK.sub (tys' := [(cJ, .long)]) [0] rfl
    have hDc := hD.sub (ws' := [(s0, .inr (1, [.ref sa])), (sa, .inl (cJ, 17, .inr (.inl (fun j => lN (d1 j)))))]) [1, 2] (by decide) rfl
    have hFc := va_free (wc := [(s0, .inr (1, [.ref sa])), (sa, .inl (cJ, 17, .inr (.inl (fun j => lN (d1 j)))))]) hD hS hA [1, 2] rfl
    refine va_callv (va_runV (As := [.int (nI (1000 - h))]) (rest := []) ⟨hx, hb, hml, hown, hts⟩ (c_dec_mul l dC dI s0 sa cJ d1 (1000 - h) H.size hso (by omega) hm45) (cwV 1 hts gX0_upTo_X1_multiply rfl rfl rfl (by decide +kernel) ⟨Nat.le_of_ble_eq_true rfl, Nat.le_of_ble_eq_true rfl⟩) (fw_preVW hN hKc hPc hDc (ci := 1) (q0 := 0) rfl rfl) rfl rfl hl.1 rfl (lv_room (Nat.le_of_ble_eq_true rfl)) dX0_upTo_45 ⟨Nat.le_of_ble_eq_true rfl, Nat.le_of_ble_eq_true rfl⟩) hS (fun q _ h => hFc q h) hFc (fun d3 zt H1 locs zht hvm hw hB hz1 hk1 hS => ?_)
    obtain ⟨ok_d3, v_d3⟩ := hw
    obtain ⟨hP1, hK1, hD1⟩ := hB
    rw [zht] at hP1
    obtain ⟨hP, hD⟩ := va_join (wr := [(c0, .inr (0, [.ref s0, .ref t0])), (t0, .inr (1, [.ref ta])), (ta, .inl (cJ, 17, .inr (.inl (fun j => lN (d2 j)))))]) (w1 := [(s0, .inr (1, [.ref sa])), (sa, .inl (cJ, 17, .inr (.inl (fun j => lN (d3 j)))))]) hP hD [1, 2] [0, 3, 4] rfl rfl (by decide) (by decide) hk1 hFc hP1 hD1
    generalize H1 = H at hP hS ⊢
    have hP : va_P (dC, dI) vwCl [(c0, .inr (0, [.ref s0, .ref t0])), (t0, .inr (1, [.ref ta])), (ta, .inl (cJ, 17, .inr (.inl (fun j => lN (d2 j))))), (s0, .inr (1, [.ref sa])), (sa, .inl (cJ, 17, .inr (.inl (fun j => lN (d3 j)))))] H := hP
    have hD : va_D A [(c0, .inr (0, [.ref s0, .ref t0])), (t0, .inr (1, [.ref ta])), (ta, .inl (cJ, 17, .inr (.inl (fun j => lN (d2 j))))), (s0, .inr (1, [.ref sa])), (sa, .inl (cJ, 17, .inr (.inl (fun j => lN (d3 j)))))] := hD
    refine lv_iload hx hb dX0_upTo_48 (lv_at hl 5 rfl) ?_
    refine lv_iload_n hx hb dX0_upTo_50 rfl (lv_at hl 2 rfl) ?_
    refine lv_icmp_gt (tgt := 89) hx hb dX0_upTo_51 (by decide) (fun c_51 => ?_) (fun c_51 => ?_)
    · -- then 51
      have h51 : m ≤ j := by have := (nI_ltI (a := m) (b := j + 1) (by omega) (by omega)).mp c_51; omega
      refine lv_iinc (v := nI (j + 1 + 1)) (lv' := [(5, .int (nI (j + 1 + 1))), (0, .ref c0), (1, .int (nI n)), (2, .int (nI m)), (3, .int (nI h)), (4, .int (nI (1000 - h)))]) hx hb dX0_upTo_89 hl (k := 5) rfl (nI_1 _) (by decide) rfl (fun ls hl => ?_)
      refine lv_goto (tgt := 26) hx hb dX0_upTo_92 (by decide) ?_
      have hmj : m ≤ j := h51
      exact ih_26 _ (j + 1, d3, d2) _ _ _ (by omega) ⟨rfl, by omega, ok_d3, hto, by rw [v_d3]; exact pm_s1 hmj hsv, by rw [htv, Nat.min_eq_right hmj, Nat.min_eq_right (by omega)], hP.sub [0, 3, 4, 1, 2] rfl, hD.sub [0, 3, 4, 1, 2] (by decide) rfl, hS, lv_sub hl [1, 2, 3, 4, 5, 0] rfl⟩
    · -- else 51
      have h51 : j < m := by
        rcases Nat.lt_or_ge j m with q9 | q9
        · exact q9
        · exact absurd (nI_lt (a := m) (b := j + 1) (by omega) (by omega)) c_51
      have htv2 := htv
      rw [Nat.min_eq_left (by omega)] at htv2
      have hB2 : pd_v d2 17 ≤ 2 * 1000 ^ 48 := by rw [htv2]; exact pm_b2 hn48 hh (by omega)
      have hf66 : (n - j) * h ≤ 48000 := Nat.mul_le_mul (show n - j ≤ 48 by omega) hh
      have hm66 := pm_b3 (f := (n - j) * h) hB2 hf66
      refine lv_aload_n hx hb dX0_upTo_54 rfl (lv_at hl 0 rfl) ?_
      refine va_get (D := (dC, dI)) (ci := 0) (v := .ref t0) (C := RX0) (T := TX0) (N := 2) hx hb hts (by decide +kernel) hown hK hP 0 rfl rfl 1 (by decide) (hts (.fieldLink RX0 18 "FlakyBounds$Chance" "term" "LFlakyBounds$Decimal;") (by decide +kernel)) (fun _ h9 => h9) rfl dX0_upTo_55 ?_
      refine lv_iload_n hx hb dX0_upTo_58 rfl (lv_at hl 1 rfl) ?_
      refine lv_iload hx hb dX0_upTo_59 (lv_at hl 5 rfl) ?_
      refine lv_isub hx hb dX0_upTo_61 ?_
      refine fw_i (x' := nI (n - (j + 1))) (pk_sub (by omega)) ?_
      refine lv_iconst (v := 1) hx hb dX0_upTo_62 (by decide) ?_
      refine lv_iadd hx hb dX0_upTo_63 ?_
      refine fw_i (x' := nI (n - j)) (by rw [nI_1]; congr 1; omega) ?_
      refine lv_iload_n hx hb dX0_upTo_64 rfl (lv_at hl 3 rfl) ?_
      refine lv_imul hx hb dX0_upTo_65 ?_
      refine fw_i (x' := nI ((n - j) * h)) (pk_mul _ _) ?_
      have hPc := hP.sub (ws' := [(t0, .inr (1, [.ref ta])), (ta, .inl (cJ, 17, .inr (.inl (fun j => lN (d2 j)))))]) [1, 2] rfl
      have hKc := hK.sub (tys' := [(cJ, .long)]) [0] rfl
      have hDc := hD.sub (ws' := [(t0, .inr (1, [.ref ta])), (ta, .inl (cJ, 17, .inr (.inl (fun j => lN (d2 j)))))]) [1, 2] (by decide) rfl
      have hFc := va_free (wc := [(t0, .inr (1, [.ref ta])), (ta, .inl (cJ, 17, .inr (.inl (fun j => lN (d2 j)))))]) hD hS hA [1, 2] rfl
      refine va_callv (va_runV (As := [.int (nI ((n - j) * h))]) (rest := []) ⟨hx, hb, hml, hown, hts⟩ (c_dec_mul l dC dI t0 ta cJ d2 ((n - j) * h) H.size hto hf66 hm66) (cwV 1 hts gX0_upTo_X1_multiply rfl rfl rfl (by decide +kernel) ⟨Nat.le_of_ble_eq_true rfl, Nat.le_of_ble_eq_true rfl⟩) (fw_preVW hN hKc hPc hDc (ci := 1) (q0 := 0) rfl rfl) rfl rfl hl.1 rfl (lv_room (Nat.le_of_ble_eq_true rfl)) dX0_upTo_66 ⟨Nat.le_of_ble_eq_true rfl, Nat.le_of_ble_eq_true rfl⟩) hS (fun q _ h => hFc q h) hFc (fun d4 zt H1 locs zht hvm hw hB hz1 hk1 hS => ?_)
      obtain ⟨ok_d4, v_d4⟩ := hw
      obtain ⟨hP1, hK1, hD1⟩ := hB
      rw [zht] at hP1
      obtain ⟨hP, hD⟩ := va_join (wr := [(c0, .inr (0, [.ref s0, .ref t0])), (s0, .inr (1, [.ref sa])), (sa, .inl (cJ, 17, .inr (.inl (fun j => lN (d3 j)))))]) (w1 := [(t0, .inr (1, [.ref ta])), (ta, .inl (cJ, 17, .inr (.inl (fun j => lN (d4 j)))))]) hP hD [1, 2] [0, 3, 4] rfl rfl (by decide) (by decide) hk1 hFc hP1 hD1
      generalize H1 = H at hP hS ⊢
      have hP : va_P (dC, dI) vwCl [(c0, .inr (0, [.ref s0, .ref t0])), (s0, .inr (1, [.ref sa])), (sa, .inl (cJ, 17, .inr (.inl (fun j => lN (d3 j))))), (t0, .inr (1, [.ref ta])), (ta, .inl (cJ, 17, .inr (.inl (fun j => lN (d4 j)))))] H := hP
      have hD : va_D A [(c0, .inr (0, [.ref s0, .ref t0])), (s0, .inr (1, [.ref sa])), (sa, .inl (cJ, 17, .inr (.inl (fun j => lN (d3 j))))), (t0, .inr (1, [.ref ta])), (ta, .inl (cJ, 17, .inr (.inl (fun j => lN (d4 j)))))] := hD
      refine lv_aload_n hx hb dX0_upTo_69 rfl (lv_at hl 0 rfl) ?_
      refine va_get (D := (dC, dI)) (ci := 0) (v := .ref t0) (C := RX0) (T := TX0) (N := 2) hx hb hts (by decide +kernel) hown hK hP 0 rfl rfl 1 (by decide) (hts (.fieldLink RX0 18 "FlakyBounds$Chance" "term" "LFlakyBounds$Decimal;") (by decide +kernel)) (fun _ h9 => h9) rfl dX0_upTo_70 ?_
      refine lv_iload hx hb dX0_upTo_73 (lv_at hl 5 rfl) ?_
      have hPc := hP.sub (ws' := [(t0, .inr (1, [.ref ta])), (ta, .inl (cJ, 17, .inr (.inl (fun j => lN (d4 j)))))]) [3, 4] rfl
      have hKc := hK.sub (tys' := [(cJ, .long)]) [0] rfl
      have hDc := hD.sub (ws' := [(t0, .inr (1, [.ref ta])), (ta, .inl (cJ, 17, .inr (.inl (fun j => lN (d4 j)))))]) [3, 4] (by decide) rfl
      have hFc := va_free (wc := [(t0, .inr (1, [.ref ta])), (ta, .inl (cJ, 17, .inr (.inl (fun j => lN (d4 j)))))]) hD hS hA [3, 4] rfl
      refine va_callv (va_runV (As := [.int (nI (j + 1))]) (rest := []) ⟨hx, hb, hml, hown, hts⟩ (c_dec_div l dC dI t0 ta cJ d4 (j + 1) H.size ok_d4 (by omega) (by omega)) (cwV 1 hts gX0_upTo_X1_divide rfl rfl rfl (by decide +kernel) ⟨Nat.le_of_ble_eq_true rfl, Nat.le_of_ble_eq_true rfl⟩) (fw_preVW hN hKc hPc hDc (ci := 1) (q0 := 0) rfl rfl) rfl rfl hl.1 rfl (lv_room (Nat.le_of_ble_eq_true rfl)) dX0_upTo_75 ⟨Nat.le_of_ble_eq_true rfl, Nat.le_of_ble_eq_true rfl⟩) hS (fun q _ h => hFc q h) hFc (fun d5 zt H1 locs zht hvm hw hB hz1 hk1 hS => ?_)
      obtain ⟨ok_d5, v_d5⟩ := hw
      obtain ⟨hP1, hK1, hD1⟩ := hB
      rw [zht] at hP1
      have w_d5 : pd_v d5 17 = pm_ch n (j + 1) * h ^ (j + 1) * 1000 ^ (48 - n) := by rw [v_d5, v_d4, htv2]; exact pm_term (by omega)
      obtain ⟨hP, hD⟩ := va_join (wr := [(c0, .inr (0, [.ref s0, .ref t0])), (s0, .inr (1, [.ref sa])), (sa, .inl (cJ, 17, .inr (.inl (fun j => lN (d3 j)))))]) (w1 := [(t0, .inr (1, [.ref ta])), (ta, .inl (cJ, 17, .inr (.inl (fun j => lN (d5 j)))))]) hP hD [3, 4] [0, 1, 2] rfl rfl (by decide) (by decide) hk1 hFc hP1 hD1
      generalize H1 = H at hP hS ⊢
      have hP : va_P (dC, dI) vwCl [(c0, .inr (0, [.ref s0, .ref t0])), (s0, .inr (1, [.ref sa])), (sa, .inl (cJ, 17, .inr (.inl (fun j => lN (d3 j))))), (t0, .inr (1, [.ref ta])), (ta, .inl (cJ, 17, .inr (.inl (fun j => lN (d5 j)))))] H := hP
      have hD : va_D A [(c0, .inr (0, [.ref s0, .ref t0])), (s0, .inr (1, [.ref sa])), (sa, .inl (cJ, 17, .inr (.inl (fun j => lN (d3 j))))), (t0, .inr (1, [.ref ta])), (ta, .inl (cJ, 17, .inr (.inl (fun j => lN (d5 j)))))] := hD
      refine lv_aload_n hx hb dX0_upTo_78 rfl (lv_at hl 0 rfl) ?_
      refine va_get (D := (dC, dI)) (ci := 0) (v := .ref s0) (C := RX0) (T := TX0) (N := 2) hx hb hts (by decide +kernel) hown hK hP 0 rfl rfl 0 (by decide) (hts (.fieldLink RX0 12 "FlakyBounds$Chance" "sum" "LFlakyBounds$Decimal;") (by decide +kernel)) (fun _ h9 => h9) rfl dX0_upTo_79 ?_
      refine lv_aload_n hx hb dX0_upTo_82 rfl (lv_at hl 0 rfl) ?_
      refine va_get (D := (dC, dI)) (ci := 0) (v := .ref t0) (C := RX0) (T := TX0) (N := 2) hx hb hts (by decide +kernel) hown hK hP 0 rfl rfl 1 (by decide) (hts (.fieldLink RX0 18 "FlakyBounds$Chance" "term" "LFlakyBounds$Decimal;") (by decide +kernel)) (fun _ h9 => h9) rfl dX0_upTo_83 ?_
      have hPc := hP.sub (ws' := [(s0, .inr (1, [.ref sa])), (sa, .inl (cJ, 17, .inr (.inl (fun j => lN (d3 j))))), (t0, .inr (1, [.ref ta])), (ta, .inl (cJ, 17, .inr (.inl (fun j => lN (d5 j)))))]) [1, 2, 3, 4] rfl
      have hKc := hK.sub (tys' := [(cJ, .long)]) [0] rfl
      have hDc := hD.sub (ws' := [(s0, .inr (1, [.ref sa])), (sa, .inl (cJ, 17, .inr (.inl (fun j => lN (d3 j))))), (t0, .inr (1, [.ref ta])), (ta, .inl (cJ, 17, .inr (.inl (fun j => lN (d5 j)))))]) [1, 2, 3, 4] (by decide) rfl
      have hFc := va_free (wc := [(s0, .inr (1, [.ref sa])), (sa, .inl (cJ, 17, .inr (.inl (fun j => lN (d3 j))))), (t0, .inr (1, [.ref ta])), (ta, .inl (cJ, 17, .inr (.inl (fun j => lN (d5 j)))))]) hD hS hA [1, 2, 3, 4] rfl
      refine va_callv (va_runV (As := [.ref t0]) (rest := []) ⟨hx, hb, hml, hown, hts⟩ (c_dec_add l dC dI s0 sa t0 ta cJ d3 d5 H.size ok_d3 ok_d5 (by rw [v_d3, w_d5]; exact pm_b4 (pm_b5 hB1) (pm_b2 hn48 hh (by omega)))) (cwV 1 hts gX0_upTo_X1_add rfl rfl rfl (by decide +kernel) ⟨Nat.le_of_ble_eq_true rfl, Nat.le_of_ble_eq_true rfl⟩) (fw_preVW hN hKc hPc hDc (ci := 1) (q0 := 0) rfl rfl) rfl rfl hl.1 rfl (lv_room (Nat.le_of_ble_eq_true rfl)) dX0_upTo_86 ⟨Nat.le_of_ble_eq_true rfl, Nat.le_of_ble_eq_true rfl⟩) hS (fun q _ h => hFc q h) hFc (fun d6 zt H1 locs zht hvm hw hB hz1 hk1 hS => ?_)
      obtain ⟨ok_d6, v_d6⟩ := hw
      obtain ⟨hP1, hK1, hD1⟩ := hB
      rw [zht] at hP1
      obtain ⟨hP, hD⟩ := va_join (wr := [(c0, .inr (0, [.ref s0, .ref t0]))]) (w1 := [(s0, .inr (1, [.ref sa])), (sa, .inl (cJ, 17, .inr (.inl (fun j => lN (d6 j))))), (t0, .inr (1, [.ref ta])), (ta, .inl (cJ, 17, .inr (.inl (fun j => lN (d5 j)))))]) hP hD [1, 2, 3, 4] [0] rfl rfl (by decide) (by decide) hk1 hFc hP1 hD1
      generalize H1 = H at hP hS ⊢
      have hP : va_P (dC, dI) vwCl [(c0, .inr (0, [.ref s0, .ref t0])), (s0, .inr (1, [.ref sa])), (sa, .inl (cJ, 17, .inr (.inl (fun j => lN (d6 j))))), (t0, .inr (1, [.ref ta])), (ta, .inl (cJ, 17, .inr (.inl (fun j => lN (d5 j)))))] H := hP
      have hD : va_D A [(c0, .inr (0, [.ref s0, .ref t0])), (s0, .inr (1, [.ref sa])), (sa, .inl (cJ, 17, .inr (.inl (fun j => lN (d6 j))))), (t0, .inr (1, [.ref ta])), (ta, .inl (cJ, 17, .inr (.inl (fun j => lN (d5 j)))))] := hD
      refine lv_iinc (v := nI (j + 1 + 1)) (lv' := [(5, .int (nI (j + 1 + 1))), (0, .ref c0), (1, .int (nI n)), (2, .int (nI m)), (3, .int (nI h)), (4, .int (nI (1000 - h)))]) hx hb dX0_upTo_89 hl (k := 5) rfl (nI_1 _) (by decide) rfl (fun ls hl => ?_)
      refine lv_goto (tgt := 26) hx hb dX0_upTo_92 (by decide) ?_
      exact ih_26 _ (j + 1, d6, d5) _ _ _ (by omega) ⟨rfl, by omega, ok_d6, ok_d5, by rw [v_d6, v_d3]; exact pm_s2 h51 hsv w_d5, by rw [w_d5, Nat.min_eq_left (by omega)], hP.sub [0, 1, 2, 3, 4] rfl, hD.sub [0, 1, 2, 3, 4] (by decide) rfl, hS, lv_sub hl [1, 2, 3, 4, 5, 0] rfl⟩
end
section
/-! HISTORIES: runs in their places, without the machine -/
def hv_has (e : Nat → Int32) (b : Nat → Bool) (x : Int32) (q : Bool) : Nat → Bool
  | 0 => false
  | n + 1 => hv_has e b x q n || (e n == x && b n == q)
theorem hv_has0 (e : Nat → Int32) (b : Nat → Bool) (x : Int32) (q : Bool) : hv_has e b x q 0 = false := rfl
theorem hv_hasS (e : Nat → Int32) (b : Nat → Bool) (x : Int32) (q : Bool) (n : Nat) : hv_has e b x q (n + 1) = (hv_has e b x q n || (e n == x && b n == q)) := rfl
theorem hv_has_le (e : Nat → Int32) (b : Nat → Bool) (x : Int32) (q : Bool) (n d : Nat) (h : hv_has e b x q n = true) : hv_has e b x q (n + d) = true := by
  induction d with
  | zero => exact h
  | succ d ih => rw [← Nat.add_assoc, hv_hasS, ih, Bool.true_or]
theorem hv_has_hit {e : Nat → Int32} {b : Nat → Bool} {x : Int32} {q : Bool} {i s : Nat} (hi : i < s) (he : e i = x) (hb : b i = q) : hv_has e b x q s = true := by
  have h : hv_has e b x q (i + 1) = true := by
    rw [hv_hasS, he, hb]
    simp
  have := hv_has_le e b x q (i + 1) (s - (i + 1)) h
  rwa [show i + 1 + (s - (i + 1)) = s by omega] at this
theorem hv_has_go {e : Nat → Int32} {b : Nat → Bool} {x : Int32} {q : Bool} {i : Nat} (h : hv_has e b x q i = false) (hn : ¬ (e i = x ∧ b i = q)) : hv_has e b x q (i + 1) = false := by
  rw [hv_hasS, h, Bool.false_or]
  by_cases he : e i = x
  · have : ¬ b i = q := fun hb => hn ⟨he, hb⟩
    simp [this]
  · simp [he]
/-- whether another run of the same edition has the other outcome -/
def hv_con (e : Nat → Int32) (b : Nat → Bool) (s i : Nat) : Bool := hv_has e b (e i) (!b i) s
def hv_D (e : Nat → Int32) (b : Nat → Bool) (s : Nat) : Nat → Nat
  | 0 => 0
  | i + 1 => hv_D e b s i + (if hv_con e b s i = true then 1 else 0)
def hv_N (e : Nat → Int32) (b : Nat → Bool) (s : Nat) : Nat → Nat
  | 0 => 0
  | i + 1 => hv_N e b s i + (if (b i || hv_con e b s i) = true then 1 else 0)
def hv_X (e : Nat → Int32) (b : Nat → Bool) (s : Nat) : Nat → Nat
  | 0 => 0
  | i + 1 => hv_X e b s i + (if (!b i && hv_con e b s i) = true then 1 else 0)
theorem hv_DS (e : Nat → Int32) (b : Nat → Bool) (s i : Nat) : hv_D e b s (i + 1) = hv_D e b s i + (if hv_con e b s i = true then 1 else 0) := rfl
theorem hv_NS (e : Nat → Int32) (b : Nat → Bool) (s i : Nat) : hv_N e b s (i + 1) = hv_N e b s i + (if (b i || hv_con e b s i) = true then 1 else 0) := rfl
theorem hv_XS (e : Nat → Int32) (b : Nat → Bool) (s i : Nat) : hv_X e b s (i + 1) = hv_X e b s i + (if (!b i && hv_con e b s i) = true then 1 else 0) := rfl
theorem hv_N_le (e : Nat → Int32) (b : Nat → Bool) (s i : Nat) : hv_N e b s i ≤ i := by
  induction i with
  | zero => exact Nat.le_refl 0
  | succ i ih => rw [hv_NS]; split <;> omega
theorem hv_X_le (e : Nat → Int32) (b : Nat → Bool) (s i : Nat) : hv_X e b s i ≤ hv_N e b s i := by
  induction i with
  | zero => exact Nat.le_refl 0
  | succ i ih =>
    rw [hv_NS, hv_XS]
    cases b i <;> cases hv_con e b s i <;> simp <;> omega
theorem hv_D_le (e : Nat → Int32) (b : Nat → Bool) (s i : Nat) : hv_D e b s i ≤ i := by
  induction i with
  | zero => exact Nat.le_refl 0
  | succ i ih => rw [hv_DS]; split <;> omega
/-- where the next run goes, how many count then, where the oldest lies then -/
def hv_slot (s o : Nat) : Nat := if s < 48 then s else o
def hv_s (s : Nat) : Nat := if s < 48 then s + 1 else s
def hv_o (s o : Nat) : Nat := if s < 48 then o else if o + 1 < 48 then o + 1 else 0
theorem zI_st (b : Nat → Bool) (i : Nat) (q : Bool) : upd (fun j => zI (b j)) i (vp_nar .boolean (zI q)) = fun j => zI (va_up b i q j) := by
  funext j
  rw [zI_vnar]
  by_cases h : j = i
  · subst h
    rw [va_up_self]
    exact pk_us
  · rw [va_up_ne _ _ h]
    exact pk_un h
/-- judging: the fails so far, the verdict, the fails then -/
def jv_f (je x : Int32) (jf : Nat) : Nat := if x = je then jf else 0
def jv_P (f : Nat) : Int32 := if f = 0 then 1 else 2
def jv_F (mk : Bool) (f : Nat) : Int32 := if f + 1 < (if mk = true then 3 else 1) then 0 else if mk = true then 4 else 3
def jv_V (mk q : Bool) (f : Nat) : Int32 := if q = true then jv_P f else jv_F mk f
def jv_n (mk q : Bool) (f : Nat) : Nat := if jv_V mk q f = 0 then f + 1 else 0
end
section
set_option maxHeartbeats 4000000 in
set_option maxRecDepth 100000 in
theorem c_his_init (l : Launch) (dC : Nat → ClassId) (dI : Nat → Nat → Nat) (h0 : Nat) (sz : Nat)  : Met l yX2_init wsX2_init ({ frames := 1, cells := 2, slots := 96, locals := 12 } : Room) (va_Pc [.ref h0] (fw_pW (dC, dI) vwCl [] [(h0, .inr (2, [.null, .null, .int 0, .int 0, .int 0, .int 0, .int 0, .int 0, .int 0, .int 0, .int 0]))] sz)) (va_Qv (S := Nat × Nat × ClassId × ClassId) (fun _ => True) (fun u t => match u with | (ea, pa, cI, cZ) => fw_q (dC, dI) vwCl [(cI, .int), (cZ, .boolean)] (va_A [(h0, .inr (2, [.null, .null, .int 0, .int 0, .int 0, .int 0, .int 0, .int 0, .int 0, .int 0, .int 0]))] sz) [(h0, .inr (2, [.ref ea, .ref pa, .int 0, .int 0, .int 0, .int 0, .int 0, .int 0, .int 0, .int (-1), .int 0])), (ea, .inl (cI, 48, .inl (fun _ => 0))), (pa, .inl (cZ, 48, .inl (fun _ => 0)))] t) (va_A [(h0, .inr (2, [.null, .null, .int 0, .int 0, .int 0, .int 0, .int 0, .int 0, .int 0, .int 0, .int 0]))] sz)) 2 96 (va_A [(h0, .inr (2, [.null, .null, .int 0, .int 0, .int 0, .int 0, .int 0, .int 0, .int 0, .int 0, .int 0]))] sz) := by
  refine fw_metW (cc := cX2_init) (maxL := 1) (ret := none) (by decide) rfl (Nat.le_of_ble_eq_true rfl) ?_
  intro zp ze zs zm zbelow zmeth zc ls hx hb hr hts hown hlocks hml hin hN hsz hP hK hD hA hS hl
  generalize hAe : (va_A [(h0, .inr (2, [.null, .null, .int 0, .int 0, .int 0, .int 0, .int 0, .int 0, .int 0, .int 0, .int 0]))] sz) = A at hD hA hS ⊢
  have hown : zs.vm.findClass RX2 = some zm.cls := hown
  have hin : zmeth.name = "<init>" := hin
  have hl : lv_has ls 1 [(0, .ref h0)] := hl
  refine lv_aload_n hx hb dX2_init_0 rfl (lv_at hl 0 rfl) ?_
  refine W.objInit hx hb hown (hts (.methodLink RX2 3 objectInit) (by decide +kernel)) (hts (.instanceMethod objectInit) (by decide +kernel)) (hts _ (by decide +kernel)) rfl (by rw [hml]; exact hl.1) rfl dX2_init_1 (Nat.le_of_ble_eq_true rfl) (Nat.le_of_ble_eq_true rfl) ?_
  refine W.eq (g2 := F0 zm 4 ls []) rfl ?_
  refine lv_aload_n hx hb dX2_init_4 rfl (lv_at hl 0 rfl) ?_
  refine lv_bipush (v := 48) hx hb dX2_init_5 (by decide) ?_
  refine va_newa (atype := .int) (ty := .int) (N' := 48) (a0 := (48, .inl (fun _ => 0))) hx hb (hts (.arrayClass .int) (by decide +kernel)) rfl hK hP hD hS hA (fun _ => rfl) (by decide) (by decide) (by decide +kernel) (Nat.le_of_ble_eq_true rfl) (Nat.le_of_ble_eq_true rfl) dX2_init_7 (fun q7 cA7 H hK hP hD hS => ?_)
  have hK : va_K (dC, dI) vwCl [(cA7, .int)] zs := hK
  have hP : va_P (dC, dI) vwCl [(h0, .inr (2, [.null, .null, .int 0, .int 0, .int 0, .int 0, .int 0, .int 0, .int 0, .int 0, .int 0])), (q7, .inl (cA7, 48, .inl (fun _ => 0)))] H := hP
  have hD : va_D A [(h0, .inr (2, [.null, .null, .int 0, .int 0, .int 0, .int 0, .int 0, .int 0, .int 0, .int 0, .int 0])), (q7, .inl (cA7, 48, .inl (fun _ => 0)))] := hD
  refine W.widen (k := 1) (n := 48) (by decide) (by decide) ?_
  refine va_putF (D := (dC, dI)) (ci := 2) (v := .ref q7) (ty := (.array .int)) (C := RX2) (T := TX2) (N := 11) hx hb hts (by decide +kernel) tyX2 tyX2_ok nmX2 hown hK hP hD hS 0 rfl rfl 0 (by decide) (hts (.fieldLink RX2 9 "FlakyBounds$History" "editions" "[I") (by decide +kernel)) (fun _ h9 => h9) rfl hin rfl (by decide +kernel) rfl rfl (Nat.le_of_ble_eq_true rfl) dX2_init_9 (fun H locs hP hD hS => ?_)
  have hP : va_P (dC, dI) vwCl [(h0, .inr (2, [.ref q7, .null, .int 0, .int 0, .int 0, .int 0, .int 0, .int 0, .int 0, .int 0, .int 0])), (q7, .inl (cA7, 48, .inl (fun _ => 0)))] H := hP
  have hD : va_D A [(h0, .inr (2, [.ref q7, .null, .int 0, .int 0, .int 0, .int 0, .int 0, .int 0, .int 0, .int 0, .int 0])), (q7, .inl (cA7, 48, .inl (fun _ => 0)))] := hD
  refine lv_aload_n hx hb dX2_init_12 rfl (lv_at hl 0 rfl) ?_
  refine lv_bipush (v := 48) hx hb dX2_init_13 (by decide) ?_
  refine va_newa (atype := .boolean) (ty := .boolean) (N' := 48) (a0 := (48, .inl (fun _ => 0))) hx hb (hts (.arrayClass .boolean) (by decide +kernel)) rfl hK hP hD hS hA (fun _ => rfl) (by decide) (by decide) (by decide +kernel) (Nat.le_of_ble_eq_true rfl) (Nat.le_of_ble_eq_true rfl) dX2_init_15 (fun q15 cA15 H hK hP hD hS => ?_)
  have hK : va_K (dC, dI) vwCl [(cA7, .int), (cA15, .boolean)] zs := hK
  have hP : va_P (dC, dI) vwCl [(h0, .inr (2, [.ref q7, .null, .int 0, .int 0, .int 0, .int 0, .int 0, .int 0, .int 0, .int 0, .int 0])), (q7, .inl (cA7, 48, .inl (fun _ => 0))), (q15, .inl (cA15, 48, .inl (fun _ => 0)))] H := hP
  have hD : va_D A [(h0, .inr (2, [.ref q7, .null, .int 0, .int 0, .int 0, .int 0, .int 0, .int 0, .int 0, .int 0, .int 0])), (q7, .inl (cA7, 48, .inl (fun _ => 0))), (q15, .inl (cA15, 48, .inl (fun _ => 0)))] := hD
  refine W.widen (k := 2) (n := 96) (by decide) (by decide) ?_
  refine va_putF (D := (dC, dI)) (ci := 2) (v := .ref q15) (ty := (.array .boolean)) (C := RX2) (T := TX2) (N := 11) hx hb hts (by decide +kernel) tyX2 tyX2_ok nmX2 hown hK hP hD hS 0 rfl rfl 1 (by decide) (hts (.fieldLink RX2 15 "FlakyBounds$History" "passes" "[Z") (by decide +kernel)) (fun _ h9 => h9) rfl hin rfl (by decide +kernel) rfl rfl (Nat.le_of_ble_eq_true rfl) dX2_init_17 (fun H locs hP hD hS => ?_)
  have hP : va_P (dC, dI) vwCl [(h0, .inr (2, [.ref q7, .ref q15, .int 0, .int 0, .int 0, .int 0, .int 0, .int 0, .int 0, .int 0, .int 0])), (q7, .inl (cA7, 48, .inl (fun _ => 0))), (q15, .inl (cA15, 48, .inl (fun _ => 0)))] H := hP
  have hD : va_D A [(h0, .inr (2, [.ref q7, .ref q15, .int 0, .int 0, .int 0, .int 0, .int 0, .int 0, .int 0, .int 0, .int 0])), (q7, .inl (cA7, 48, .inl (fun _ => 0))), (q15, .inl (cA15, 48, .inl (fun _ => 0)))] := hD
  refine lv_aload_n hx hb dX2_init_20 rfl (lv_at hl 0 rfl) ?_
  refine lv_iconst (v := (-1)) hx hb dX2_init_21 (by decide) ?_
  refine va_put (D := (dC, dI)) (ci := 2) (v := .int (-1)) (ty := .int) (C := RX2) (T := TX2) (N := 11) hx hb hts (by decide +kernel) tyX2 tyX2_ok nmX2 hown hK hP hD hS 0 rfl rfl 9 (by decide) (hts (.fieldLink RX2 19 "FlakyBounds$History" "judgedEdition" "I") (by decide +kernel)) (fun _ h9 => h9) rfl (by decide +kernel) rfl rfl (Nat.le_of_ble_eq_true rfl) dX2_init_22 (fun H locs hP hD hS => ?_)
  have hP : va_P (dC, dI) vwCl [(h0, .inr (2, [.ref q7, .ref q15, .int 0, .int 0, .int 0, .int 0, .int 0, .int 0, .int 0, .int (-1), .int 0])), (q7, .inl (cA7, 48, .inl (fun _ => 0))), (q15, .inl (cA15, 48, .inl (fun _ => 0)))] H := hP
  have hD : va_D A [(h0, .inr (2, [.ref q7, .ref q15, .int 0, .int 0, .int 0, .int 0, .int 0, .int 0, .int 0, .int (-1), .int 0])), (q7, .inl (cA7, 48, .inl (fun _ => 0))), (q15, .inl (cA15, 48, .inl (fun _ => 0)))] := hD
  have hP9 := hP.sub (ws' := [(h0, .inr (2, [.ref q7, .ref q15, .int 0, .int 0, .int 0, .int 0, .int 0, .int 0, .int 0, .int (-1), .int 0])), (q7, .inl (cA7, 48, .inl (fun _ => 0))), (q15, .inl (cA15, 48, .inl (fun _ => 0)))]) [0, 1, 2] rfl
  have hD9 := hD.sub (ws' := [(h0, .inr (2, [.ref q7, .ref q15, .int 0, .int 0, .int 0, .int 0, .int 0, .int 0, .int 0, .int (-1), .int 0])), (q7, .inl (cA7, 48, .inl (fun _ => 0))), (q15, .inl (cA15, 48, .inl (fun _ => 0)))]) [0, 1, 2] (by decide) rfl
  have hK9 := hK.sub (tys' := [(cA7, .int), (cA15, .boolean)]) [0, 1] rfl
  exact W.vret hx hb hr (fun zt zht hW => ⟨⟨(q7, q15, cA7, cA15), rfl, trivial, by rw [zht]; exact hP9, va_K.moved hW.alike hK9, hD9⟩, hS.F zht⟩) hS.2.2 dX2_init_25 hlocks
set_option maxHeartbeats 4000000 in
set_option maxRecDepth 100000 in
theorem c_his_has (l : Launch) (dC : Nat → ClassId) (dI : Nat → Nat → Nat) (h0 ea pa : Nat) (cI cZ : ClassId) (s : Nat) (v3 v4 v5 v6 v7 v8 v9 v10 : Value) (e : Nat → Int32) (b : Nat → Bool) (x : Int32) (q : Bool) (hs : s ≤ 48) : Met l yX2_has wsX2_has ({ frames := 0, cells := 0, slots := 0, locals := 0 } : Room) (va_Pc [.ref h0, .int x, .int (zI q)] (fw_pR (dC, dI) vwCl [(cI, .int), (cZ, .boolean)] [(h0, .inr (2, [.ref ea, .ref pa, .int (nI s), v3, v4, v5, v6, v7, v8, v9, v10])), (ea, .inl (cI, 48, .inl (e))), (pa, .inl (cZ, 48, .inl (fun j => zI (b j))))])) (vp_Si (fun r => r = zI (hv_has e b x q s))) 0 0 (fun _ => False) := by
  refine fw_metR (cc := cX2_has) (maxL := 4) (ret := (some .boolean)) (by decide) rfl (Nat.le_of_ble_eq_true rfl) ?_
  intro zp ze zs zm zbelow zmeth zc ls hx hb hr hts hown hlocks hml hin hN hP hK hl
  have hown : zs.vm.findClass RX2 = some zm.cls := hown
  have hl : lv_has ls 4 [(0, .ref h0), (1, .int x), (2, .int (zI q))] := hl
  refine lv_iconst (v := 0) hx hb dX2_has_0 (by decide) ?_
  refine lv_istore_n (lv' := [(3, .int 0), (0, .ref h0), (1, .int x), (2, .int (zI q))]) hx hb dX2_has_1 rfl hl (by decide) rfl (fun ls hl => ?_)
  refine fw_loopR (σ := Nat) (I := fun zn u ls => match u with | i => zn = s - i ∧ (i ≤ s) ∧ (hv_has e b x q i = false) ∧ lv_has ls 4 [(0, .ref h0), (1, .int x), (2, .int (zI q)), (3, .int (nI i))]) ?_ _ 0 _ ⟨rfl, by omega, rfl, lv_sub hl [1, 2, 3, 0] rfl⟩
  intro zn i ls hI ih_2
  obtain ⟨hzn, hi, hz, hl⟩ := hI
  refine lv_iload_n hx hb dX2_has_2 rfl (lv_at hl 3 rfl) ?_
  refine lv_aload_n hx hb dX2_has_3 rfl (lv_at hl 0 rfl) ?_
  refine va_get (D := (dC, dI)) (ci := 2) (v := .int (nI s)) (C := RX2) (T := TX2) (N := 11) hx hb hts (by decide +kernel) hown hK hP 0 rfl rfl 2 (by decide) (hts (.fieldLink RX2 23 "FlakyBounds$History" "size" "I") (by decide +kernel)) (fun _ h9 => h9) rfl dX2_has_4 ?_
  refine lv_icmp_ge (tgt := 44) hx hb dX2_has_7 (by decide) (fun c_7 => ?_) (fun c_7 => ?_)
  · -- then 7
    have hend : i = s := by have := (nI_leI (a := s) (b := i) (by omega) (by omega)).mp c_7; omega
    refine lv_iconst (v := 0) hx hb dX2_has_44 (by decide) ?_
    subst hend
    exact W.zret (v := 0) (ty := .boolean) hx hb hr rfl (fun zt zht _ => ⟨0, rfl, by rw [hz, zI_f], zht⟩) (fun q h => by cases h) dX2_has_45 hlocks
  · -- else 7
    have hlt : i < s := by
      rcases Nat.lt_or_ge i s with q9 | q9
      · exact q9
      · exact absurd (nI_le (a := s) (b := i) q9 (by omega)) c_7
    refine lv_iload_n hx hb dX2_has_10 rfl (lv_at hl 3 rfl) ?_
    refine lv_bipush (v := 48) hx hb dX2_has_11 (by decide) ?_
    refine lv_icmp_ge (tgt := 44) hx hb dX2_has_13 (by decide) (fun c_13 => absurd c_13 (nI_ge (a := i) (b := 48) (by omega) (by decide))) (fun _ => ?_)
    refine lv_aload_n hx hb dX2_has_16 rfl (lv_at hl 0 rfl) ?_
    refine va_get (D := (dC, dI)) (ci := 2) (v := .ref ea) (C := RX2) (T := TX2) (N := 11) hx hb hts (by decide +kernel) hown hK hP 0 rfl rfl 0 (by decide) (hts (.fieldLink RX2 9 "FlakyBounds$History" "editions" "[I") (by decide +kernel)) (fun _ h9 => h9) rfl dX2_has_17 ?_
    refine lv_iload_n hx hb dX2_has_20 rfl (lv_at hl 3 rfl) ?_
    refine va_iald hx hb hK hP 1 0 rfl rfl (vp_in_nI (by omega) (by decide)) dX2_has_21 ?_
    refine fw_i (x' := e i) (by rw [nI_clamp (by omega)]) ?_
    refine lv_iload_n hx hb dX2_has_22 rfl (lv_at hl 1 rfl) ?_
    refine lv_icmp_ne (tgt := 38) hx hb dX2_has_23 (by decide) (fun c_23 => ?_) (fun c_23 => ?_)
    · -- then 23
      refine lv_iinc (v := nI (i + 1)) (lv' := [(3, .int (nI (i + 1))), (0, .ref h0), (1, .int x), (2, .int (zI q))]) hx hb dX2_has_38 hl (k := 3) rfl (nI_1 i) (by decide) rfl (fun ls hl => ?_)
      refine lv_goto (tgt := 2) hx hb dX2_has_41 (by decide) ?_
      have hnn : ¬ (e i = x ∧ b i = q) := fun h => c_23 h.1
      exact ih_2 _ (i + 1) _ (by omega) ⟨rfl, by omega, hv_has_go hz hnn, lv_sub hl [1, 2, 3, 0] rfl⟩
    · -- else 23
      refine lv_aload_n hx hb dX2_has_26 rfl (lv_at hl 0 rfl) ?_
      refine va_get (D := (dC, dI)) (ci := 2) (v := .ref pa) (C := RX2) (T := TX2) (N := 11) hx hb hts (by decide +kernel) hown hK hP 0 rfl rfl 1 (by decide) (hts (.fieldLink RX2 15 "FlakyBounds$History" "passes" "[Z") (by decide +kernel)) (fun _ h9 => h9) rfl dX2_has_27 ?_
      refine lv_iload_n hx hb dX2_has_30 rfl (lv_at hl 3 rfl) ?_
      refine va_zald hx hb hK hP 2 1 rfl rfl (vp_in_nI (by omega) (by decide)) dX2_has_31 ?_
      refine fw_i (x' := zI (b i)) (by rw [nI_clamp (by omega)]) ?_
      refine lv_iload_n hx hb dX2_has_32 rfl (lv_at hl 2 rfl) ?_
      refine lv_icmp_ne (tgt := 38) hx hb dX2_has_33 (by decide) (fun c_33 => ?_) (fun c_33 => ?_)
      · -- then 33
        refine lv_iinc (v := nI (i + 1)) (lv' := [(3, .int (nI (i + 1))), (0, .ref h0), (1, .int x), (2, .int (zI q))]) hx hb dX2_has_38 hl (k := 3) rfl (nI_1 i) (by decide) rfl (fun ls hl => ?_)
        refine lv_goto (tgt := 2) hx hb dX2_has_41 (by decide) ?_
        have hnn : ¬ (e i = x ∧ b i = q) := fun h => c_33 (by rw [h.2])
        exact ih_2 _ (i + 1) _ (by omega) ⟨rfl, by omega, hv_has_go hz hnn, lv_sub hl [1, 2, 3, 0] rfl⟩
      · -- else 33
        refine lv_iconst (v := 1) hx hb dX2_has_36 (by decide) ?_
        have hfin : hv_has e b x q s = true := hv_has_hit hlt c_23 (zI_inj.mp c_33)
        exact W.zret (v := 1) (ty := .boolean) hx hb hr rfl (fun zt zht _ => ⟨1, rfl, by rw [hfin, zI_t], zht⟩) (fun q h => by cases h) dX2_has_37 hlocks
set_option maxHeartbeats 4000000 in
set_option maxRecDepth 100000 in
theorem c_his_only (l : Launch) (dC : Nat → ClassId) (dI : Nat → Nat → Nat) (h0 ea pa : Nat) (cI cZ : ClassId) (s : Nat) (v3 v4 v5 v6 v7 v8 v9 v10 : Value) (e : Nat → Int32) (b : Nat → Bool) (x : Int32) (hs : s ≤ 48) : Met l yX2_hasOnlyFails wsX2_hasOnlyFails ({ frames := 1, cells := 0, slots := 0, locals := 23 } : Room) (va_Pc [.ref h0, .int x] (fw_pR (dC, dI) vwCl [(cI, .int), (cZ, .boolean)] [(h0, .inr (2, [.ref ea, .ref pa, .int (nI s), v3, v4, v5, v6, v7, v8, v9, v10])), (ea, .inl (cI, 48, .inl (e))), (pa, .inl (cZ, 48, .inl (fun j => zI (b j))))])) (vp_Si (fun r => r = zI (hv_has e b x false s && !hv_has e b x true s))) 0 0 (fun _ => False) := by
  refine fw_metR (cc := cX2_hasOnlyFails) (maxL := 2) (ret := (some .boolean)) (by decide) rfl (Nat.le_of_ble_eq_true rfl) ?_
  intro zp ze zs zm zbelow zmeth zc ls hx hb hr hts hown hlocks hml hin hN hP hK hl
  have hown : zs.vm.findClass RX2 = some zm.cls := hown
  have hl : lv_has ls 2 [(0, .ref h0), (1, .int x)] := hl
  refine lv_aload_n hx hb dX2_hasOnlyFails_0 rfl (lv_at hl 0 rfl) ?_
  refine lv_iload_n hx hb dX2_hasOnlyFails_1 rfl (lv_at hl 1 rfl) ?_
  refine lv_iconst (v := 0) hx hb dX2_hasOnlyFails_2 (by decide) ?_
  have hPc := hP.sub (ws' := [(h0, .inr (2, [.ref ea, .ref pa, .int (nI s), v3, v4, v5, v6, v7, v8, v9, v10])), (ea, .inl (cI, 48, .inl (e))), (pa, .inl (cZ, 48, .inl (fun j => zI (b j))))]) [0, 1, 2] rfl
  have hKc := hK.sub (tys' := [(cI, .int), (cZ, .boolean)]) [0, 1] rfl
  refine vp_callSi (va_runV (As := [.int x, .int 0]) (rest := []) ⟨hx, hb, hml, hown, hts⟩ (c_his_has l dC dI h0 ea pa cI cZ s v3 v4 v5 v6 v7 v8 v9 v10 e b x false hs) (cwV 2 hts gX2_hasOnlyFails_X2_has rfl rfl rfl (by decide +kernel) ⟨Nat.le_of_ble_eq_true rfl, Nat.le_of_ble_eq_true rfl⟩) (fw_preVR hN hKc hPc (ci := 2) (q0 := 0) rfl rfl) rfl rfl hl.1 rfl (lv_room (Nat.le_of_ble_eq_true rfl)) dX2_hasOnlyFails_3 ⟨Nat.le_of_ble_eq_true rfl, Nat.le_of_ble_eq_true rfl⟩).run (fun r_3 hr_3 => ?_)
  obtain rfl : r_3 = zI (hv_has e b x false s) := hr_3
  refine lv_if_eq (tgt := 22) hx hb dX2_hasOnlyFails_6 (by decide) (fun c_6 => ?_) (fun c_6 => ?_)
  · -- then 6
    have h6 := zI_eq0.mp c_6
    refine lv_iconst (v := 0) hx hb dX2_hasOnlyFails_22 (by decide) ?_
    exact W.zret (v := 0) (ty := .boolean) hx hb hr rfl (fun zt zht _ => ⟨0, rfl, by rw [h6]; rfl, zht⟩) (fun q h => by cases h) dX2_hasOnlyFails_23 hlocks
  · -- else 6
    have h6 := zI_ne0.mp c_6
    refine lv_aload_n hx hb dX2_hasOnlyFails_9 rfl (lv_at hl 0 rfl) ?_
    refine lv_iload_n hx hb dX2_hasOnlyFails_10 rfl (lv_at hl 1 rfl) ?_
    refine lv_iconst (v := 1) hx hb dX2_hasOnlyFails_11 (by decide) ?_
    have hPc := hP.sub (ws' := [(h0, .inr (2, [.ref ea, .ref pa, .int (nI s), v3, v4, v5, v6, v7, v8, v9, v10])), (ea, .inl (cI, 48, .inl (e))), (pa, .inl (cZ, 48, .inl (fun j => zI (b j))))]) [0, 1, 2] rfl
    have hKc := hK.sub (tys' := [(cI, .int), (cZ, .boolean)]) [0, 1] rfl
    refine vp_callSi (va_runV (As := [.int x, .int 1]) (rest := []) ⟨hx, hb, hml, hown, hts⟩ (c_his_has l dC dI h0 ea pa cI cZ s v3 v4 v5 v6 v7 v8 v9 v10 e b x true hs) (cwV 2 hts gX2_hasOnlyFails_X2_has rfl rfl rfl (by decide +kernel) ⟨Nat.le_of_ble_eq_true rfl, Nat.le_of_ble_eq_true rfl⟩) (fw_preVR hN hKc hPc (ci := 2) (q0 := 0) rfl rfl) rfl rfl hl.1 rfl (lv_room (Nat.le_of_ble_eq_true rfl)) dX2_hasOnlyFails_12 ⟨Nat.le_of_ble_eq_true rfl, Nat.le_of_ble_eq_true rfl⟩).run (fun r_12 hr_12 => ?_)
    obtain rfl : r_12 = zI (hv_has e b x true s) := hr_12
    refine lv_if_ne (tgt := 22) hx hb dX2_hasOnlyFails_15 (by decide) (fun c_15 => ?_) (fun c_15 => ?_)
    · -- then 15
      have h15 := zI_ne0.mp c_15
      refine lv_iconst (v := 0) hx hb dX2_hasOnlyFails_22 (by decide) ?_
      exact W.zret (v := 0) (ty := .boolean) hx hb hr rfl (fun zt zht _ => ⟨0, rfl, by rw [h6, h15]; rfl, zht⟩) (fun q h => by cases h) dX2_hasOnlyFails_23 hlocks
    · -- else 15
      have h15 := zI_eq0.mp c_15
      refine lv_iconst (v := 1) hx hb dX2_hasOnlyFails_18 (by decide) ?_
      refine lv_goto (tgt := 23) hx hb dX2_hasOnlyFails_19 (by decide) ?_
      exact W.zret (v := 1) (ty := .boolean) hx hb hr rfl (fun zt zht _ => ⟨1, rfl, by rw [h6, h15]; rfl, zht⟩) (fun q h => by cases h) dX2_hasOnlyFails_23 hlocks
set_option maxHeartbeats 4000000 in
set_option maxRecDepth 100000 in
theorem c_his_vpass (l : Launch) (dC : Nat → ClassId) (dI : Nat → Nat → Nat) (h0 : Nat) (v0 v1 v2 v3 v4 v5 v6 v8 v9 : Value) (mk : Bool) (jf : Nat) (hjf : jf ≤ 2) : Met l yX2_verdictOfPass wsX2_verdictOfPass ({ frames := 0, cells := 0, slots := 0, locals := 0 } : Room) (va_Pc [.ref h0] (fw_pR (dC, dI) vwCl [] [(h0, .inr (2, [v0, v1, v2, v3, v4, v5, v6, .int (zI mk), v8, v9, .int (nI jf)]))])) (vp_Si (fun r => r = jv_P jf)) 0 0 (fun _ => False) := by
  refine fw_metR (cc := cX2_verdictOfPass) (maxL := 1) (ret := (some .int)) (by decide) rfl (Nat.le_of_ble_eq_true rfl) ?_
  intro zp ze zs zm zbelow zmeth zc ls hx hb hr hts hown hlocks hml hin hN hP hK hl
  have hown : zs.vm.findClass RX2 = some zm.cls := hown
  have hl : lv_has ls 1 [(0, .ref h0)] := hl
  refine lv_aload_n hx hb dX2_verdictOfPass_0 rfl (lv_at hl 0 rfl) ?_
  refine va_get (D := (dC, dI)) (ci := 2) (v := .int (nI jf)) (C := RX2) (T := TX2) (N := 11) hx hb hts (by decide +kernel) hown hK hP 0 rfl rfl 10 (by decide) (hts (.fieldLink RX2 36 "FlakyBounds$History" "judgedFails" "I") (by decide +kernel)) (fun _ h9 => h9) rfl dX2_verdictOfPass_1 ?_
  refine lv_if_ne (tgt := 11) hx hb dX2_verdictOfPass_4 (by decide) (fun c_4 => ?_) (fun c_4 => ?_)
  · -- then 4
    have h4 : ¬ jf = 0 := fun q9 => c_4 (by rw [q9]; rfl)
    refine lv_iconst (v := 2) hx hb dX2_verdictOfPass_11 (by decide) ?_
    exact W.iret (v := 2) hx hb hr (fun zt zht _ => ⟨2, rfl, by unfold jv_P; rw [if_neg h4], zht⟩) (fun q h => by cases h) dX2_verdictOfPass_12 hlocks
  · -- else 4
    have h4 : jf = 0 := by have := (nI_eq (b := 0) (by omega) (by decide)).mp c_4; exact this
    refine lv_iconst (v := 1) hx hb dX2_verdictOfPass_7 (by decide) ?_
    refine lv_goto (tgt := 12) hx hb dX2_verdictOfPass_8 (by decide) ?_
    exact W.iret (v := 1) hx hb hr (fun zt zht _ => ⟨1, rfl, by unfold jv_P; rw [if_pos h4], zht⟩) (fun q h => by cases h) dX2_verdictOfPass_12 hlocks
set_option maxHeartbeats 4000000 in
set_option maxRecDepth 100000 in
theorem c_his_vfail (l : Launch) (dC : Nat → ClassId) (dI : Nat → Nat → Nat) (h0 : Nat) (v0 v1 v2 v3 v4 v5 v6 v8 v9 : Value) (mk : Bool) (jf : Nat) (hjf : jf ≤ 2) : Met l yX2_verdictOfFail wsX2_verdictOfFail ({ frames := 0, cells := 0, slots := 0, locals := 0 } : Room) (va_Pc [.ref h0] (fw_pR (dC, dI) vwCl [] [(h0, .inr (2, [v0, v1, v2, v3, v4, v5, v6, .int (zI mk), v8, v9, .int (nI jf)]))])) (vp_Si (fun r => r = jv_F mk jf)) 0 0 (fun _ => False) := by
  refine fw_metR (cc := cX2_verdictOfFail) (maxL := 2) (ret := (some .int)) (by decide) rfl (Nat.le_of_ble_eq_true rfl) ?_
  intro zp ze zs zm zbelow zmeth zc ls hx hb hr hts hown hlocks hml hin hN hP hK hl
  have hown : zs.vm.findClass RX2 = some zm.cls := hown
  have hl : lv_has ls 2 [(0, .ref h0)] := hl
  cases mk
  · -- f
    refine lv_aload_n hx hb dX2_verdictOfFail_0 rfl (lv_at hl 0 rfl) ?_
    refine va_get (D := (dC, dI)) (ci := 2) (v := .int (zI false)) (C := RX2) (T := TX2) (N := 11) hx hb hts (by decide +kernel) hown hK hP 0 rfl rfl 7 (by decide) (hts (.fieldLink RX2 46 "FlakyBounds$History" "marked" "Z") (by decide +kernel)) (fun _ h9 => h9) rfl dX2_verdictOfFail_1 ?_
    refine lv_if_eq (tgt := 11) hx hb dX2_verdictOfFail_4 (by decide) (fun _ => ?_) (fun c_4 => absurd (rfl) c_4)
    refine lv_iconst (v := 1) hx hb dX2_verdictOfFail_11 (by decide) ?_
    refine lv_istore_n (lv' := [(1, .int 1), (0, .ref h0)]) hx hb dX2_verdictOfFail_12 rfl hl (by decide) rfl (fun ls hl => ?_)
    refine lv_aload_n hx hb dX2_verdictOfFail_13 rfl (lv_at hl 1 rfl) ?_
    refine va_get (D := (dC, dI)) (ci := 2) (v := .int (nI jf)) (C := RX2) (T := TX2) (N := 11) hx hb hts (by decide +kernel) hown hK hP 0 rfl rfl 10 (by decide) (hts (.fieldLink RX2 36 "FlakyBounds$History" "judgedFails" "I") (by decide +kernel)) (fun _ h9 => h9) rfl dX2_verdictOfFail_14 ?_
    refine lv_iconst (v := 1) hx hb dX2_verdictOfFail_17 (by decide) ?_
    refine lv_iadd hx hb dX2_verdictOfFail_18 ?_
    refine fw_i (x' := nI (jf + 1)) (nI_1 jf) ?_
    refine lv_iload_n hx hb dX2_verdictOfFail_19 rfl (lv_at hl 0 rfl) ?_
    refine lv_icmp_ge (tgt := 25) hx hb dX2_verdictOfFail_20 (by decide) (fun _ => ?_) (fun c_20 => absurd (nI_le (a := 1) (b := jf + 1) (by omega) (by omega)) c_20)
    refine lv_aload_n hx hb dX2_verdictOfFail_25 rfl (lv_at hl 1 rfl) ?_
    refine va_get (D := (dC, dI)) (ci := 2) (v := .int (zI false)) (C := RX2) (T := TX2) (N := 11) hx hb hts (by decide +kernel) hown hK hP 0 rfl rfl 7 (by decide) (hts (.fieldLink RX2 46 "FlakyBounds$History" "marked" "Z") (by decide +kernel)) (fun _ h9 => h9) rfl dX2_verdictOfFail_26 ?_
    refine lv_if_eq (tgt := 36) hx hb dX2_verdictOfFail_29 (by decide) (fun _ => ?_) (fun c_29 => absurd (rfl) c_29)
    refine lv_iconst (v := 3) hx hb dX2_verdictOfFail_36 (by decide) ?_
    exact W.iret (v := 3) hx hb hr (fun zt zht _ => ⟨3, rfl, by unfold jv_F; rw [if_neg (by simp), if_neg (by simp)], zht⟩) (fun q h => by cases h) dX2_verdictOfFail_37 hlocks
  · -- t
    refine lv_aload_n hx hb dX2_verdictOfFail_0 rfl (lv_at hl 0 rfl) ?_
    refine va_get (D := (dC, dI)) (ci := 2) (v := .int (zI true)) (C := RX2) (T := TX2) (N := 11) hx hb hts (by decide +kernel) hown hK hP 0 rfl rfl 7 (by decide) (hts (.fieldLink RX2 46 "FlakyBounds$History" "marked" "Z") (by decide +kernel)) (fun _ h9 => h9) rfl dX2_verdictOfFail_1 ?_
    refine lv_if_eq (tgt := 11) hx hb dX2_verdictOfFail_4 (by decide) (fun c_4 => absurd c_4 (by decide)) (fun _ => ?_)
    refine lv_iconst (v := 3) hx hb dX2_verdictOfFail_7 (by decide) ?_
    refine lv_goto (tgt := 12) hx hb dX2_verdictOfFail_8 (by decide) ?_
    refine lv_istore_n (lv' := [(1, .int 3), (0, .ref h0)]) hx hb dX2_verdictOfFail_12 rfl hl (by decide) rfl (fun ls hl => ?_)
    refine lv_aload_n hx hb dX2_verdictOfFail_13 rfl (lv_at hl 1 rfl) ?_
    refine va_get (D := (dC, dI)) (ci := 2) (v := .int (nI jf)) (C := RX2) (T := TX2) (N := 11) hx hb hts (by decide +kernel) hown hK hP 0 rfl rfl 10 (by decide) (hts (.fieldLink RX2 36 "FlakyBounds$History" "judgedFails" "I") (by decide +kernel)) (fun _ h9 => h9) rfl dX2_verdictOfFail_14 ?_
    refine lv_iconst (v := 1) hx hb dX2_verdictOfFail_17 (by decide) ?_
    refine lv_iadd hx hb dX2_verdictOfFail_18 ?_
    refine fw_i (x' := nI (jf + 1)) (nI_1 jf) ?_
    refine lv_iload_n hx hb dX2_verdictOfFail_19 rfl (lv_at hl 0 rfl) ?_
    refine lv_icmp_ge (tgt := 25) hx hb dX2_verdictOfFail_20 (by decide) (fun c_20 => ?_) (fun c_20 => ?_)
    · -- then 20
      have h20 : ¬ jf + 1 < 3 := by have := (nI_leI (a := 3) (b := jf + 1) (by decide) (by omega)).mp c_20; omega
      refine lv_aload_n hx hb dX2_verdictOfFail_25 rfl (lv_at hl 1 rfl) ?_
      refine va_get (D := (dC, dI)) (ci := 2) (v := .int (zI true)) (C := RX2) (T := TX2) (N := 11) hx hb hts (by decide +kernel) hown hK hP 0 rfl rfl 7 (by decide) (hts (.fieldLink RX2 46 "FlakyBounds$History" "marked" "Z") (by decide +kernel)) (fun _ h9 => h9) rfl dX2_verdictOfFail_26 ?_
      refine lv_if_eq (tgt := 36) hx hb dX2_verdictOfFail_29 (by decide) (fun c_29 => absurd c_29 (by decide)) (fun _ => ?_)
      refine lv_iconst (v := 4) hx hb dX2_verdictOfFail_32 (by decide) ?_
      refine lv_goto (tgt := 37) hx hb dX2_verdictOfFail_33 (by decide) ?_
      exact W.iret (v := 4) hx hb hr (fun zt zht _ => ⟨4, rfl, by unfold jv_F; rw [if_neg (by simpa using h20), if_pos rfl], zht⟩) (fun q h => by cases h) dX2_verdictOfFail_37 hlocks
    · -- else 20
      have h20 : jf + 1 < 3 := by
        rcases Nat.lt_or_ge (jf + 1) 3 with q9 | q9
        · exact q9
        · exact absurd (nI_le (a := 3) (b := jf + 1) q9 (by omega)) c_20
      refine lv_iconst (v := 0) hx hb dX2_verdictOfFail_23 (by decide) ?_
      exact W.iret (v := 0) hx hb hr (fun zt zht _ => ⟨0, rfl, by unfold jv_F; rw [if_pos (by simpa using h20)], zht⟩) (fun q h => by cases h) dX2_verdictOfFail_24 hlocks
set_option maxHeartbeats 4000000 in
set_option maxRecDepth 100000 in
theorem c_his_next (l : Launch) (dC : Nat → ClassId) (dI : Nat → Nat → Nat) (h0 : Nat) (v0 v1 v2 v3 v4 v5 v6 v8 : Value) (mk : Bool) (je : Int32) (jf : Nat) (x : Int32) (q : Bool) (sz : Nat) (hjf : jf ≤ 2) : Met l yX2_nextVerdict wsX2_nextVerdict ({ frames := 1, cells := 0, slots := 0, locals := 21 } : Room) (va_Pc [.ref h0, .int x, .int (zI q)] (fw_pW (dC, dI) vwCl [] [(h0, .inr (2, [v0, v1, v2, v3, v4, v5, v6, .int (zI mk), v8, .int je, .int (nI jf)]))] sz)) (va_Qi (S := Unit) (fun r _ => r = jv_V mk q (jv_f je x jf)) (fun u t => fw_q (dC, dI) vwCl [] (va_A [(h0, .inr (2, [v0, v1, v2, v3, v4, v5, v6, .int (zI mk), v8, .int je, .int (nI jf)]))] sz) [(h0, .inr (2, [v0, v1, v2, v3, v4, v5, v6, .int (zI mk), v8, .int x, .int (nI (jv_n mk q (jv_f je x jf)))]))] t) (va_A [(h0, .inr (2, [v0, v1, v2, v3, v4, v5, v6, .int (zI mk), v8, .int je, .int (nI jf)]))] sz)) 0 0 (va_A [(h0, .inr (2, [v0, v1, v2, v3, v4, v5, v6, .int (zI mk), v8, .int je, .int (nI jf)]))] sz) := by
  refine fw_metW (cc := cX2_nextVerdict) (maxL := 4) (ret := (some .int)) (by decide) rfl (Nat.le_of_ble_eq_true rfl) ?_
  intro zp ze zs zm zbelow zmeth zc ls hx hb hr hts hown hlocks hml hin hN hsz hP hK hD hA hS hl
  generalize hAe : (va_A [(h0, .inr (2, [v0, v1, v2, v3, v4, v5, v6, .int (zI mk), v8, .int je, .int (nI jf)]))] sz) = A at hD hA hS ⊢
  have hown : zs.vm.findClass RX2 = some zm.cls := hown
  have hl : lv_has ls 4 [(0, .ref h0), (1, .int x), (2, .int (zI q))] := hl
  refine lv_iload_n hx hb dX2_nextVerdict_0 rfl (lv_at hl 1 rfl) ?_
  refine lv_aload_n hx hb dX2_nextVerdict_1 rfl (lv_at hl 0 rfl) ?_
  refine va_get (D := (dC, dI)) (ci := 2) (v := .int je) (C := RX2) (T := TX2) (N := 11) hx hb hts (by decide +kernel) hown hK hP 0 rfl rfl 9 (by decide) (hts (.fieldLink RX2 19 "FlakyBounds$History" "judgedEdition" "I") (by decide +kernel)) (fun _ h9 => h9) rfl dX2_nextVerdict_2 ?_
  refine lv_icmp_eq (tgt := 18) hx hb dX2_nextVerdict_5 (by decide) (fun c_5 => ?_) (fun c_5 => ?_)
  · -- then 5
    have hf : jf = jv_f je x jf := by unfold jv_f; rw [if_pos c_5]
    have hf2 : jv_f je x jf ≤ 2 := by unfold jv_f; split <;> omega
    have hP : va_P (dC, dI) vwCl [(h0, .inr (2, [v0, v1, v2, v3, v4, v5, v6, .int (zI mk), v8, .int x, .int (nI (jv_f je x jf))]))] zs.heap := by rw [← hf, c_5]; exact hP
    have hD : va_D A [(h0, .inr (2, [v0, v1, v2, v3, v4, v5, v6, .int (zI mk), v8, .int x, .int (nI (jv_f je x jf))]))] := by rw [← hf, c_5]; exact hD
    generalize jv_f je x jf = f at hP hD hf2 ⊢
    refine lv_iload_n hx hb dX2_nextVerdict_18 rfl (lv_at hl 2 rfl) ?_
    refine lv_if_eq (tgt := 29) hx hb dX2_nextVerdict_19 (by decide) (fun c_19 => ?_) (fun c_19 => ?_)
    · -- then 19
      have hq := zI_eq0.mp c_19
      subst hq
      refine lv_aload_n hx hb dX2_nextVerdict_29 rfl (lv_at hl 0 rfl) ?_
      have hPc := hP.sub (ws' := [(h0, .inr (2, [v0, v1, v2, v3, v4, v5, v6, .int (zI mk), v8, .int x, .int (nI f)]))]) [0] rfl
      have hKc := hK.sub (tys' := []) [] rfl
      refine vp_callSi (va_runV (As := []) (rest := []) ⟨hx, hb, hml, hown, hts⟩ (c_his_vfail l dC dI h0 v0 v1 v2 v3 v4 v5 v6 v8 (.int x) mk f hf2) (cwV 0 hts gX2_nextVerdict_X2_verdictOfFail rfl rfl rfl (by decide +kernel) ⟨Nat.le_of_ble_eq_true rfl, Nat.le_of_ble_eq_true rfl⟩) (fw_preVR hN hKc hPc (ci := 2) (q0 := 0) rfl rfl) rfl rfl hl.1 rfl (lv_room (Nat.le_of_ble_eq_true rfl)) dX2_nextVerdict_30 ⟨Nat.le_of_ble_eq_true rfl, Nat.le_of_ble_eq_true rfl⟩).run (fun r_30 hr_30 => ?_)
      obtain rfl : r_30 = jv_F mk f := hr_30
      refine lv_istore_n (lv' := [(3, .int (jv_F mk f)), (0, .ref h0), (1, .int x), (2, .int (zI false))]) hx hb dX2_nextVerdict_33 rfl hl (by decide) rfl (fun ls hl => ?_)
      refine lv_aload_n hx hb dX2_nextVerdict_34 rfl (lv_at hl 1 rfl) ?_
      refine lv_iload_n hx hb dX2_nextVerdict_35 rfl (lv_at hl 0 rfl) ?_
      refine lv_if_ne (tgt := 48) hx hb dX2_nextVerdict_36 (by decide) (fun c_36 => ?_) (fun c_36 => ?_)
      · -- then 36
        refine lv_iconst (v := 0) hx hb dX2_nextVerdict_48 (by decide) ?_
        refine va_put (D := (dC, dI)) (ci := 2) (v := .int 0) (ty := .int) (C := RX2) (T := TX2) (N := 11) hx hb hts (by decide +kernel) tyX2 tyX2_ok nmX2 hown hK hP hD hS 0 rfl rfl 10 (by decide) (hts (.fieldLink RX2 36 "FlakyBounds$History" "judgedFails" "I") (by decide +kernel)) (fun _ h9 => h9) rfl (by decide +kernel) rfl rfl (Nat.le_of_ble_eq_true rfl) dX2_nextVerdict_49 (fun H locs hP hD hS => ?_)
        have hP : va_P (dC, dI) vwCl [(h0, .inr (2, [v0, v1, v2, v3, v4, v5, v6, .int (zI mk), v8, .int x, .int 0]))] H := hP
        have hD : va_D A [(h0, .inr (2, [v0, v1, v2, v3, v4, v5, v6, .int (zI mk), v8, .int x, .int 0]))] := hD
        refine lv_iload_n hx hb dX2_nextVerdict_52 rfl (lv_at hl 0 rfl) ?_
        have hn9 : jv_n mk false f = 0 := by unfold jv_n; rw [if_neg (show ¬ jv_V mk false f = 0 from c_36)]
        have hP : va_P (dC, dI) vwCl [(h0, .inr (2, [v0, v1, v2, v3, v4, v5, v6, .int (zI mk), v8, .int x, .int (nI (jv_n mk false f))]))] H := by rw [hn9]; exact hP
        have hD : va_D A [(h0, .inr (2, [v0, v1, v2, v3, v4, v5, v6, .int (zI mk), v8, .int x, .int (nI (jv_n mk false f))]))] := by rw [hn9]; exact hD
        have hP9 := hP.sub (ws' := [(h0, .inr (2, [v0, v1, v2, v3, v4, v5, v6, .int (zI mk), v8, .int x, .int (nI (jv_n mk false f))]))]) [0] rfl
        have hD9 := hD.sub (ws' := [(h0, .inr (2, [v0, v1, v2, v3, v4, v5, v6, .int (zI mk), v8, .int x, .int (nI (jv_n mk false f))]))]) [0] (by decide) rfl
        have hK9 := hK.sub (tys' := []) [] rfl
        exact W.iret (v := (jv_F mk f)) hx hb hr (fun zt zht hW => ⟨⟨(jv_F mk f), ⟨⟩, rfl, rfl, by rw [zht]; exact hP9, va_K.moved hW.alike hK9, hD9⟩, hS.F zht⟩) hS.2.2 dX2_nextVerdict_53 hlocks
      · -- else 36
        refine lv_aload_n hx hb dX2_nextVerdict_39 rfl (lv_at hl 1 rfl) ?_
        refine va_get (D := (dC, dI)) (ci := 2) (v := .int (nI f)) (C := RX2) (T := TX2) (N := 11) hx hb hts (by decide +kernel) hown hK hP 0 rfl rfl 10 (by decide) (hts (.fieldLink RX2 36 "FlakyBounds$History" "judgedFails" "I") (by decide +kernel)) (fun _ h9 => h9) rfl dX2_nextVerdict_40 ?_
        refine lv_iconst (v := 1) hx hb dX2_nextVerdict_43 (by decide) ?_
        refine lv_iadd hx hb dX2_nextVerdict_44 ?_
        refine fw_i (x' := nI (f + 1)) (nI_1 f) ?_
        refine lv_goto (tgt := 49) hx hb dX2_nextVerdict_45 (by decide) ?_
        refine va_put (D := (dC, dI)) (ci := 2) (v := .int (nI (f + 1))) (ty := .int) (C := RX2) (T := TX2) (N := 11) hx hb hts (by decide +kernel) tyX2 tyX2_ok nmX2 hown hK hP hD hS 0 rfl rfl 10 (by decide) (hts (.fieldLink RX2 36 "FlakyBounds$History" "judgedFails" "I") (by decide +kernel)) (fun _ h9 => h9) rfl (by decide +kernel) rfl rfl (Nat.le_of_ble_eq_true rfl) dX2_nextVerdict_49 (fun H locs hP hD hS => ?_)
        have hP : va_P (dC, dI) vwCl [(h0, .inr (2, [v0, v1, v2, v3, v4, v5, v6, .int (zI mk), v8, .int x, .int (nI (f + 1))]))] H := hP
        have hD : va_D A [(h0, .inr (2, [v0, v1, v2, v3, v4, v5, v6, .int (zI mk), v8, .int x, .int (nI (f + 1))]))] := hD
        refine lv_iload_n hx hb dX2_nextVerdict_52 rfl (lv_at hl 0 rfl) ?_
        have hn9 : jv_n mk false f = f + 1 := by unfold jv_n; rw [if_pos (show jv_V mk false f = 0 from c_36)]
        have hP : va_P (dC, dI) vwCl [(h0, .inr (2, [v0, v1, v2, v3, v4, v5, v6, .int (zI mk), v8, .int x, .int (nI (jv_n mk false f))]))] H := by rw [hn9]; exact hP
        have hD : va_D A [(h0, .inr (2, [v0, v1, v2, v3, v4, v5, v6, .int (zI mk), v8, .int x, .int (nI (jv_n mk false f))]))] := by rw [hn9]; exact hD
        have hP9 := hP.sub (ws' := [(h0, .inr (2, [v0, v1, v2, v3, v4, v5, v6, .int (zI mk), v8, .int x, .int (nI (jv_n mk false f))]))]) [0] rfl
        have hD9 := hD.sub (ws' := [(h0, .inr (2, [v0, v1, v2, v3, v4, v5, v6, .int (zI mk), v8, .int x, .int (nI (jv_n mk false f))]))]) [0] (by decide) rfl
        have hK9 := hK.sub (tys' := []) [] rfl
        exact W.iret (v := (jv_F mk f)) hx hb hr (fun zt zht hW => ⟨⟨(jv_F mk f), ⟨⟩, rfl, rfl, by rw [zht]; exact hP9, va_K.moved hW.alike hK9, hD9⟩, hS.F zht⟩) hS.2.2 dX2_nextVerdict_53 hlocks
    · -- else 19
      have hq := zI_ne0.mp c_19
      subst hq
      refine lv_aload_n hx hb dX2_nextVerdict_22 rfl (lv_at hl 0 rfl) ?_
      have hPc := hP.sub (ws' := [(h0, .inr (2, [v0, v1, v2, v3, v4, v5, v6, .int (zI mk), v8, .int x, .int (nI f)]))]) [0] rfl
      have hKc := hK.sub (tys' := []) [] rfl
      refine vp_callSi (va_runV (As := []) (rest := []) ⟨hx, hb, hml, hown, hts⟩ (c_his_vpass l dC dI h0 v0 v1 v2 v3 v4 v5 v6 v8 (.int x) mk f hf2) (cwV 0 hts gX2_nextVerdict_X2_verdictOfPass rfl rfl rfl (by decide +kernel) ⟨Nat.le_of_ble_eq_true rfl, Nat.le_of_ble_eq_true rfl⟩) (fw_preVR hN hKc hPc (ci := 2) (q0 := 0) rfl rfl) rfl rfl hl.1 rfl (lv_room (Nat.le_of_ble_eq_true rfl)) dX2_nextVerdict_23 ⟨Nat.le_of_ble_eq_true rfl, Nat.le_of_ble_eq_true rfl⟩).run (fun r_23 hr_23 => ?_)
      obtain rfl : r_23 = jv_P f := hr_23
      refine lv_goto (tgt := 33) hx hb dX2_nextVerdict_26 (by decide) ?_
      refine lv_istore_n (lv' := [(3, .int (jv_P f)), (0, .ref h0), (1, .int x), (2, .int (zI true))]) hx hb dX2_nextVerdict_33 rfl hl (by decide) rfl (fun ls hl => ?_)
      refine lv_aload_n hx hb dX2_nextVerdict_34 rfl (lv_at hl 1 rfl) ?_
      refine lv_iload_n hx hb dX2_nextVerdict_35 rfl (lv_at hl 0 rfl) ?_
      refine lv_if_ne (tgt := 48) hx hb dX2_nextVerdict_36 (by decide) (fun c_36 => ?_) (fun c_36 => ?_)
      · -- then 36
        refine lv_iconst (v := 0) hx hb dX2_nextVerdict_48 (by decide) ?_
        refine va_put (D := (dC, dI)) (ci := 2) (v := .int 0) (ty := .int) (C := RX2) (T := TX2) (N := 11) hx hb hts (by decide +kernel) tyX2 tyX2_ok nmX2 hown hK hP hD hS 0 rfl rfl 10 (by decide) (hts (.fieldLink RX2 36 "FlakyBounds$History" "judgedFails" "I") (by decide +kernel)) (fun _ h9 => h9) rfl (by decide +kernel) rfl rfl (Nat.le_of_ble_eq_true rfl) dX2_nextVerdict_49 (fun H locs hP hD hS => ?_)
        have hP : va_P (dC, dI) vwCl [(h0, .inr (2, [v0, v1, v2, v3, v4, v5, v6, .int (zI mk), v8, .int x, .int 0]))] H := hP
        have hD : va_D A [(h0, .inr (2, [v0, v1, v2, v3, v4, v5, v6, .int (zI mk), v8, .int x, .int 0]))] := hD
        refine lv_iload_n hx hb dX2_nextVerdict_52 rfl (lv_at hl 0 rfl) ?_
        have hn9 : jv_n mk true f = 0 := by unfold jv_n; rw [if_neg (show ¬ jv_V mk true f = 0 from c_36)]
        have hP : va_P (dC, dI) vwCl [(h0, .inr (2, [v0, v1, v2, v3, v4, v5, v6, .int (zI mk), v8, .int x, .int (nI (jv_n mk true f))]))] H := by rw [hn9]; exact hP
        have hD : va_D A [(h0, .inr (2, [v0, v1, v2, v3, v4, v5, v6, .int (zI mk), v8, .int x, .int (nI (jv_n mk true f))]))] := by rw [hn9]; exact hD
        have hP9 := hP.sub (ws' := [(h0, .inr (2, [v0, v1, v2, v3, v4, v5, v6, .int (zI mk), v8, .int x, .int (nI (jv_n mk true f))]))]) [0] rfl
        have hD9 := hD.sub (ws' := [(h0, .inr (2, [v0, v1, v2, v3, v4, v5, v6, .int (zI mk), v8, .int x, .int (nI (jv_n mk true f))]))]) [0] (by decide) rfl
        have hK9 := hK.sub (tys' := []) [] rfl
        exact W.iret (v := (jv_P f)) hx hb hr (fun zt zht hW => ⟨⟨(jv_P f), ⟨⟩, rfl, rfl, by rw [zht]; exact hP9, va_K.moved hW.alike hK9, hD9⟩, hS.F zht⟩) hS.2.2 dX2_nextVerdict_53 hlocks
      · -- else 36
        refine lv_aload_n hx hb dX2_nextVerdict_39 rfl (lv_at hl 1 rfl) ?_
        refine va_get (D := (dC, dI)) (ci := 2) (v := .int (nI f)) (C := RX2) (T := TX2) (N := 11) hx hb hts (by decide +kernel) hown hK hP 0 rfl rfl 10 (by decide) (hts (.fieldLink RX2 36 "FlakyBounds$History" "judgedFails" "I") (by decide +kernel)) (fun _ h9 => h9) rfl dX2_nextVerdict_40 ?_
        refine lv_iconst (v := 1) hx hb dX2_nextVerdict_43 (by decide) ?_
        refine lv_iadd hx hb dX2_nextVerdict_44 ?_
        refine fw_i (x' := nI (f + 1)) (nI_1 f) ?_
        refine lv_goto (tgt := 49) hx hb dX2_nextVerdict_45 (by decide) ?_
        refine va_put (D := (dC, dI)) (ci := 2) (v := .int (nI (f + 1))) (ty := .int) (C := RX2) (T := TX2) (N := 11) hx hb hts (by decide +kernel) tyX2 tyX2_ok nmX2 hown hK hP hD hS 0 rfl rfl 10 (by decide) (hts (.fieldLink RX2 36 "FlakyBounds$History" "judgedFails" "I") (by decide +kernel)) (fun _ h9 => h9) rfl (by decide +kernel) rfl rfl (Nat.le_of_ble_eq_true rfl) dX2_nextVerdict_49 (fun H locs hP hD hS => ?_)
        have hP : va_P (dC, dI) vwCl [(h0, .inr (2, [v0, v1, v2, v3, v4, v5, v6, .int (zI mk), v8, .int x, .int (nI (f + 1))]))] H := hP
        have hD : va_D A [(h0, .inr (2, [v0, v1, v2, v3, v4, v5, v6, .int (zI mk), v8, .int x, .int (nI (f + 1))]))] := hD
        refine lv_iload_n hx hb dX2_nextVerdict_52 rfl (lv_at hl 0 rfl) ?_
        have hn9 : jv_n mk true f = f + 1 := by unfold jv_n; rw [if_pos (show jv_V mk true f = 0 from c_36)]
        have hP : va_P (dC, dI) vwCl [(h0, .inr (2, [v0, v1, v2, v3, v4, v5, v6, .int (zI mk), v8, .int x, .int (nI (jv_n mk true f))]))] H := by rw [hn9]; exact hP
        have hD : va_D A [(h0, .inr (2, [v0, v1, v2, v3, v4, v5, v6, .int (zI mk), v8, .int x, .int (nI (jv_n mk true f))]))] := by rw [hn9]; exact hD
        have hP9 := hP.sub (ws' := [(h0, .inr (2, [v0, v1, v2, v3, v4, v5, v6, .int (zI mk), v8, .int x, .int (nI (jv_n mk true f))]))]) [0] rfl
        have hD9 := hD.sub (ws' := [(h0, .inr (2, [v0, v1, v2, v3, v4, v5, v6, .int (zI mk), v8, .int x, .int (nI (jv_n mk true f))]))]) [0] (by decide) rfl
        have hK9 := hK.sub (tys' := []) [] rfl
        exact W.iret (v := (jv_P f)) hx hb hr (fun zt zht hW => ⟨⟨(jv_P f), ⟨⟩, rfl, rfl, by rw [zht]; exact hP9, va_K.moved hW.alike hK9, hD9⟩, hS.F zht⟩) hS.2.2 dX2_nextVerdict_53 hlocks
  · -- else 5
    refine lv_aload_n hx hb dX2_nextVerdict_8 rfl (lv_at hl 0 rfl) ?_
    refine lv_iload_n hx hb dX2_nextVerdict_9 rfl (lv_at hl 1 rfl) ?_
    refine va_put (D := (dC, dI)) (ci := 2) (v := .int x) (ty := .int) (C := RX2) (T := TX2) (N := 11) hx hb hts (by decide +kernel) tyX2 tyX2_ok nmX2 hown hK hP hD hS 0 rfl rfl 9 (by decide) (hts (.fieldLink RX2 19 "FlakyBounds$History" "judgedEdition" "I") (by decide +kernel)) (fun _ h9 => h9) rfl (by decide +kernel) rfl rfl (Nat.le_of_ble_eq_true rfl) dX2_nextVerdict_10 (fun H locs hP hD hS => ?_)
    have hP : va_P (dC, dI) vwCl [(h0, .inr (2, [v0, v1, v2, v3, v4, v5, v6, .int (zI mk), v8, .int x, .int (nI jf)]))] H := hP
    have hD : va_D A [(h0, .inr (2, [v0, v1, v2, v3, v4, v5, v6, .int (zI mk), v8, .int x, .int (nI jf)]))] := hD
    refine lv_aload_n hx hb dX2_nextVerdict_13 rfl (lv_at hl 0 rfl) ?_
    refine lv_iconst (v := 0) hx hb dX2_nextVerdict_14 (by decide) ?_
    refine va_put (D := (dC, dI)) (ci := 2) (v := .int 0) (ty := .int) (C := RX2) (T := TX2) (N := 11) hx hb hts (by decide +kernel) tyX2 tyX2_ok nmX2 hown hK hP hD hS 0 rfl rfl 10 (by decide) (hts (.fieldLink RX2 36 "FlakyBounds$History" "judgedFails" "I") (by decide +kernel)) (fun _ h9 => h9) rfl (by decide +kernel) rfl rfl (Nat.le_of_ble_eq_true rfl) dX2_nextVerdict_15 (fun H locs hP hD hS => ?_)
    have hP : va_P (dC, dI) vwCl [(h0, .inr (2, [v0, v1, v2, v3, v4, v5, v6, .int (zI mk), v8, .int x, .int 0]))] H := hP
    have hD : va_D A [(h0, .inr (2, [v0, v1, v2, v3, v4, v5, v6, .int (zI mk), v8, .int x, .int 0]))] := hD
    have hf : 0 = jv_f je x jf := by unfold jv_f; rw [if_neg c_5]
    have hf2 : jv_f je x jf ≤ 2 := by unfold jv_f; split <;> omega
    have hP : va_P (dC, dI) vwCl [(h0, .inr (2, [v0, v1, v2, v3, v4, v5, v6, .int (zI mk), v8, .int x, .int (nI (jv_f je x jf))]))] H := by rw [← hf]; exact hP
    have hD : va_D A [(h0, .inr (2, [v0, v1, v2, v3, v4, v5, v6, .int (zI mk), v8, .int x, .int (nI (jv_f je x jf))]))] := by rw [← hf]; exact hD
    generalize jv_f je x jf = f at hP hD hf2 ⊢
    refine lv_iload_n hx hb dX2_nextVerdict_18 rfl (lv_at hl 2 rfl) ?_
    refine lv_if_eq (tgt := 29) hx hb dX2_nextVerdict_19 (by decide) (fun c_19 => ?_) (fun c_19 => ?_)
    · -- then 19
      have hq := zI_eq0.mp c_19
      subst hq
      refine lv_aload_n hx hb dX2_nextVerdict_29 rfl (lv_at hl 0 rfl) ?_
      have hPc := hP.sub (ws' := [(h0, .inr (2, [v0, v1, v2, v3, v4, v5, v6, .int (zI mk), v8, .int x, .int (nI f)]))]) [0] rfl
      have hKc := hK.sub (tys' := []) [] rfl
      refine vp_callSi (va_runV (As := []) (rest := []) ⟨hx, hb, hml, hown, hts⟩ (c_his_vfail l dC dI h0 v0 v1 v2 v3 v4 v5 v6 v8 (.int x) mk f hf2) (cwV 0 hts gX2_nextVerdict_X2_verdictOfFail rfl rfl rfl (by decide +kernel) ⟨Nat.le_of_ble_eq_true rfl, Nat.le_of_ble_eq_true rfl⟩) (fw_preVR hN hKc hPc (ci := 2) (q0 := 0) rfl rfl) rfl rfl hl.1 rfl (lv_room (Nat.le_of_ble_eq_true rfl)) dX2_nextVerdict_30 ⟨Nat.le_of_ble_eq_true rfl, Nat.le_of_ble_eq_true rfl⟩).run (fun r_30 hr_30 => ?_)
      obtain rfl : r_30 = jv_F mk f := hr_30
      refine lv_istore_n (lv' := [(3, .int (jv_F mk f)), (0, .ref h0), (1, .int x), (2, .int (zI false))]) hx hb dX2_nextVerdict_33 rfl hl (by decide) rfl (fun ls hl => ?_)
      refine lv_aload_n hx hb dX2_nextVerdict_34 rfl (lv_at hl 1 rfl) ?_
      refine lv_iload_n hx hb dX2_nextVerdict_35 rfl (lv_at hl 0 rfl) ?_
      refine lv_if_ne (tgt := 48) hx hb dX2_nextVerdict_36 (by decide) (fun c_36 => ?_) (fun c_36 => ?_)
      · -- then 36
        refine lv_iconst (v := 0) hx hb dX2_nextVerdict_48 (by decide) ?_
        refine va_put (D := (dC, dI)) (ci := 2) (v := .int 0) (ty := .int) (C := RX2) (T := TX2) (N := 11) hx hb hts (by decide +kernel) tyX2 tyX2_ok nmX2 hown hK hP hD hS 0 rfl rfl 10 (by decide) (hts (.fieldLink RX2 36 "FlakyBounds$History" "judgedFails" "I") (by decide +kernel)) (fun _ h9 => h9) rfl (by decide +kernel) rfl rfl (Nat.le_of_ble_eq_true rfl) dX2_nextVerdict_49 (fun H locs hP hD hS => ?_)
        have hP : va_P (dC, dI) vwCl [(h0, .inr (2, [v0, v1, v2, v3, v4, v5, v6, .int (zI mk), v8, .int x, .int 0]))] H := hP
        have hD : va_D A [(h0, .inr (2, [v0, v1, v2, v3, v4, v5, v6, .int (zI mk), v8, .int x, .int 0]))] := hD
        refine lv_iload_n hx hb dX2_nextVerdict_52 rfl (lv_at hl 0 rfl) ?_
        have hn9 : jv_n mk false f = 0 := by unfold jv_n; rw [if_neg (show ¬ jv_V mk false f = 0 from c_36)]
        have hP : va_P (dC, dI) vwCl [(h0, .inr (2, [v0, v1, v2, v3, v4, v5, v6, .int (zI mk), v8, .int x, .int (nI (jv_n mk false f))]))] H := by rw [hn9]; exact hP
        have hD : va_D A [(h0, .inr (2, [v0, v1, v2, v3, v4, v5, v6, .int (zI mk), v8, .int x, .int (nI (jv_n mk false f))]))] := by rw [hn9]; exact hD
        have hP9 := hP.sub (ws' := [(h0, .inr (2, [v0, v1, v2, v3, v4, v5, v6, .int (zI mk), v8, .int x, .int (nI (jv_n mk false f))]))]) [0] rfl
        have hD9 := hD.sub (ws' := [(h0, .inr (2, [v0, v1, v2, v3, v4, v5, v6, .int (zI mk), v8, .int x, .int (nI (jv_n mk false f))]))]) [0] (by decide) rfl
        have hK9 := hK.sub (tys' := []) [] rfl
        exact W.iret (v := (jv_F mk f)) hx hb hr (fun zt zht hW => ⟨⟨(jv_F mk f), ⟨⟩, rfl, rfl, by rw [zht]; exact hP9, va_K.moved hW.alike hK9, hD9⟩, hS.F zht⟩) hS.2.2 dX2_nextVerdict_53 hlocks
      · -- else 36
        refine lv_aload_n hx hb dX2_nextVerdict_39 rfl (lv_at hl 1 rfl) ?_
        refine va_get (D := (dC, dI)) (ci := 2) (v := .int (nI f)) (C := RX2) (T := TX2) (N := 11) hx hb hts (by decide +kernel) hown hK hP 0 rfl rfl 10 (by decide) (hts (.fieldLink RX2 36 "FlakyBounds$History" "judgedFails" "I") (by decide +kernel)) (fun _ h9 => h9) rfl dX2_nextVerdict_40 ?_
        refine lv_iconst (v := 1) hx hb dX2_nextVerdict_43 (by decide) ?_
        refine lv_iadd hx hb dX2_nextVerdict_44 ?_
        refine fw_i (x' := nI (f + 1)) (nI_1 f) ?_
        refine lv_goto (tgt := 49) hx hb dX2_nextVerdict_45 (by decide) ?_
        refine va_put (D := (dC, dI)) (ci := 2) (v := .int (nI (f + 1))) (ty := .int) (C := RX2) (T := TX2) (N := 11) hx hb hts (by decide +kernel) tyX2 tyX2_ok nmX2 hown hK hP hD hS 0 rfl rfl 10 (by decide) (hts (.fieldLink RX2 36 "FlakyBounds$History" "judgedFails" "I") (by decide +kernel)) (fun _ h9 => h9) rfl (by decide +kernel) rfl rfl (Nat.le_of_ble_eq_true rfl) dX2_nextVerdict_49 (fun H locs hP hD hS => ?_)
        have hP : va_P (dC, dI) vwCl [(h0, .inr (2, [v0, v1, v2, v3, v4, v5, v6, .int (zI mk), v8, .int x, .int (nI (f + 1))]))] H := hP
        have hD : va_D A [(h0, .inr (2, [v0, v1, v2, v3, v4, v5, v6, .int (zI mk), v8, .int x, .int (nI (f + 1))]))] := hD
        refine lv_iload_n hx hb dX2_nextVerdict_52 rfl (lv_at hl 0 rfl) ?_
        have hn9 : jv_n mk false f = f + 1 := by unfold jv_n; rw [if_pos (show jv_V mk false f = 0 from c_36)]
        have hP : va_P (dC, dI) vwCl [(h0, .inr (2, [v0, v1, v2, v3, v4, v5, v6, .int (zI mk), v8, .int x, .int (nI (jv_n mk false f))]))] H := by rw [hn9]; exact hP
        have hD : va_D A [(h0, .inr (2, [v0, v1, v2, v3, v4, v5, v6, .int (zI mk), v8, .int x, .int (nI (jv_n mk false f))]))] := by rw [hn9]; exact hD
        have hP9 := hP.sub (ws' := [(h0, .inr (2, [v0, v1, v2, v3, v4, v5, v6, .int (zI mk), v8, .int x, .int (nI (jv_n mk false f))]))]) [0] rfl
        have hD9 := hD.sub (ws' := [(h0, .inr (2, [v0, v1, v2, v3, v4, v5, v6, .int (zI mk), v8, .int x, .int (nI (jv_n mk false f))]))]) [0] (by decide) rfl
        have hK9 := hK.sub (tys' := []) [] rfl
        exact W.iret (v := (jv_F mk f)) hx hb hr (fun zt zht hW => ⟨⟨(jv_F mk f), ⟨⟩, rfl, rfl, by rw [zht]; exact hP9, va_K.moved hW.alike hK9, hD9⟩, hS.F zht⟩) hS.2.2 dX2_nextVerdict_53 hlocks
    · -- else 19
      have hq := zI_ne0.mp c_19
      subst hq
      refine lv_aload_n hx hb dX2_nextVerdict_22 rfl (lv_at hl 0 rfl) ?_
      have hPc := hP.sub (ws' := [(h0, .inr (2, [v0, v1, v2, v3, v4, v5, v6, .int (zI mk), v8, .int x, .int (nI f)]))]) [0] rfl
      have hKc := hK.sub (tys' := []) [] rfl
      refine vp_callSi (va_runV (As := []) (rest := []) ⟨hx, hb, hml, hown, hts⟩ (c_his_vpass l dC dI h0 v0 v1 v2 v3 v4 v5 v6 v8 (.int x) mk f hf2) (cwV 0 hts gX2_nextVerdict_X2_verdictOfPass rfl rfl rfl (by decide +kernel) ⟨Nat.le_of_ble_eq_true rfl, Nat.le_of_ble_eq_true rfl⟩) (fw_preVR hN hKc hPc (ci := 2) (q0 := 0) rfl rfl) rfl rfl hl.1 rfl (lv_room (Nat.le_of_ble_eq_true rfl)) dX2_nextVerdict_23 ⟨Nat.le_of_ble_eq_true rfl, Nat.le_of_ble_eq_true rfl⟩).run (fun r_23 hr_23 => ?_)
      obtain rfl : r_23 = jv_P f := hr_23
      refine lv_goto (tgt := 33) hx hb dX2_nextVerdict_26 (by decide) ?_
      refine lv_istore_n (lv' := [(3, .int (jv_P f)), (0, .ref h0), (1, .int x), (2, .int (zI true))]) hx hb dX2_nextVerdict_33 rfl hl (by decide) rfl (fun ls hl => ?_)
      refine lv_aload_n hx hb dX2_nextVerdict_34 rfl (lv_at hl 1 rfl) ?_
      refine lv_iload_n hx hb dX2_nextVerdict_35 rfl (lv_at hl 0 rfl) ?_
      refine lv_if_ne (tgt := 48) hx hb dX2_nextVerdict_36 (by decide) (fun c_36 => ?_) (fun c_36 => ?_)
      · -- then 36
        refine lv_iconst (v := 0) hx hb dX2_nextVerdict_48 (by decide) ?_
        refine va_put (D := (dC, dI)) (ci := 2) (v := .int 0) (ty := .int) (C := RX2) (T := TX2) (N := 11) hx hb hts (by decide +kernel) tyX2 tyX2_ok nmX2 hown hK hP hD hS 0 rfl rfl 10 (by decide) (hts (.fieldLink RX2 36 "FlakyBounds$History" "judgedFails" "I") (by decide +kernel)) (fun _ h9 => h9) rfl (by decide +kernel) rfl rfl (Nat.le_of_ble_eq_true rfl) dX2_nextVerdict_49 (fun H locs hP hD hS => ?_)
        have hP : va_P (dC, dI) vwCl [(h0, .inr (2, [v0, v1, v2, v3, v4, v5, v6, .int (zI mk), v8, .int x, .int 0]))] H := hP
        have hD : va_D A [(h0, .inr (2, [v0, v1, v2, v3, v4, v5, v6, .int (zI mk), v8, .int x, .int 0]))] := hD
        refine lv_iload_n hx hb dX2_nextVerdict_52 rfl (lv_at hl 0 rfl) ?_
        have hn9 : jv_n mk true f = 0 := by unfold jv_n; rw [if_neg (show ¬ jv_V mk true f = 0 from c_36)]
        have hP : va_P (dC, dI) vwCl [(h0, .inr (2, [v0, v1, v2, v3, v4, v5, v6, .int (zI mk), v8, .int x, .int (nI (jv_n mk true f))]))] H := by rw [hn9]; exact hP
        have hD : va_D A [(h0, .inr (2, [v0, v1, v2, v3, v4, v5, v6, .int (zI mk), v8, .int x, .int (nI (jv_n mk true f))]))] := by rw [hn9]; exact hD
        have hP9 := hP.sub (ws' := [(h0, .inr (2, [v0, v1, v2, v3, v4, v5, v6, .int (zI mk), v8, .int x, .int (nI (jv_n mk true f))]))]) [0] rfl
        have hD9 := hD.sub (ws' := [(h0, .inr (2, [v0, v1, v2, v3, v4, v5, v6, .int (zI mk), v8, .int x, .int (nI (jv_n mk true f))]))]) [0] (by decide) rfl
        have hK9 := hK.sub (tys' := []) [] rfl
        exact W.iret (v := (jv_P f)) hx hb hr (fun zt zht hW => ⟨⟨(jv_P f), ⟨⟩, rfl, rfl, by rw [zht]; exact hP9, va_K.moved hW.alike hK9, hD9⟩, hS.F zht⟩) hS.2.2 dX2_nextVerdict_53 hlocks
      · -- else 36
        refine lv_aload_n hx hb dX2_nextVerdict_39 rfl (lv_at hl 1 rfl) ?_
        refine va_get (D := (dC, dI)) (ci := 2) (v := .int (nI f)) (C := RX2) (T := TX2) (N := 11) hx hb hts (by decide +kernel) hown hK hP 0 rfl rfl 10 (by decide) (hts (.fieldLink RX2 36 "FlakyBounds$History" "judgedFails" "I") (by decide +kernel)) (fun _ h9 => h9) rfl dX2_nextVerdict_40 ?_
        refine lv_iconst (v := 1) hx hb dX2_nextVerdict_43 (by decide) ?_
        refine lv_iadd hx hb dX2_nextVerdict_44 ?_
        refine fw_i (x' := nI (f + 1)) (nI_1 f) ?_
        refine lv_goto (tgt := 49) hx hb dX2_nextVerdict_45 (by decide) ?_
        refine va_put (D := (dC, dI)) (ci := 2) (v := .int (nI (f + 1))) (ty := .int) (C := RX2) (T := TX2) (N := 11) hx hb hts (by decide +kernel) tyX2 tyX2_ok nmX2 hown hK hP hD hS 0 rfl rfl 10 (by decide) (hts (.fieldLink RX2 36 "FlakyBounds$History" "judgedFails" "I") (by decide +kernel)) (fun _ h9 => h9) rfl (by decide +kernel) rfl rfl (Nat.le_of_ble_eq_true rfl) dX2_nextVerdict_49 (fun H locs hP hD hS => ?_)
        have hP : va_P (dC, dI) vwCl [(h0, .inr (2, [v0, v1, v2, v3, v4, v5, v6, .int (zI mk), v8, .int x, .int (nI (f + 1))]))] H := hP
        have hD : va_D A [(h0, .inr (2, [v0, v1, v2, v3, v4, v5, v6, .int (zI mk), v8, .int x, .int (nI (f + 1))]))] := hD
        refine lv_iload_n hx hb dX2_nextVerdict_52 rfl (lv_at hl 0 rfl) ?_
        have hn9 : jv_n mk true f = f + 1 := by unfold jv_n; rw [if_pos (show jv_V mk true f = 0 from c_36)]
        have hP : va_P (dC, dI) vwCl [(h0, .inr (2, [v0, v1, v2, v3, v4, v5, v6, .int (zI mk), v8, .int x, .int (nI (jv_n mk true f))]))] H := by rw [hn9]; exact hP
        have hD : va_D A [(h0, .inr (2, [v0, v1, v2, v3, v4, v5, v6, .int (zI mk), v8, .int x, .int (nI (jv_n mk true f))]))] := by rw [hn9]; exact hD
        have hP9 := hP.sub (ws' := [(h0, .inr (2, [v0, v1, v2, v3, v4, v5, v6, .int (zI mk), v8, .int x, .int (nI (jv_n mk true f))]))]) [0] rfl
        have hD9 := hD.sub (ws' := [(h0, .inr (2, [v0, v1, v2, v3, v4, v5, v6, .int (zI mk), v8, .int x, .int (nI (jv_n mk true f))]))]) [0] (by decide) rfl
        have hK9 := hK.sub (tys' := []) [] rfl
        exact W.iret (v := (jv_P f)) hx hb hr (fun zt zht hW => ⟨⟨(jv_P f), ⟨⟩, rfl, rfl, by rw [zht]; exact hP9, va_K.moved hW.alike hK9, hD9⟩, hS.F zht⟩) hS.2.2 dX2_nextVerdict_53 hlocks
set_option maxHeartbeats 4000000 in
set_option maxRecDepth 100000 in
theorem c_his_recount (l : Launch) (dC : Nat → ClassId) (dI : Nat → Nat → Nat) (h0 ea pa : Nat) (cI cZ : ClassId) (s : Nat) (v3 : Value) (x4 x5 x6 : Int32) (v7 v8 v9 v10 : Value) (e : Nat → Int32) (b : Nat → Bool) (sz : Nat) (hs : s ≤ 48) : Met l yX2_recount wsX2_recount ({ frames := 1, cells := 0, slots := 0, locals := 23 } : Room) (va_Pc [.ref h0] (fw_pW (dC, dI) vwCl [(cI, .int), (cZ, .boolean)] [(h0, .inr (2, [.ref ea, .ref pa, .int (nI s), v3, .int x4, .int x5, .int x6, v7, v8, v9, v10])), (ea, .inl (cI, 48, .inl (e))), (pa, .inl (cZ, 48, .inl (fun j => zI (b j))))] sz)) (va_Qv (S := Unit) (fun _ => True) (fun u t => fw_q (dC, dI) vwCl [(cI, .int), (cZ, .boolean)] (va_A [(h0, .inr (2, [.ref ea, .ref pa, .int (nI s), v3, .int x4, .int x5, .int x6, v7, v8, v9, v10])), (ea, .inl (cI, 48, .inl (e))), (pa, .inl (cZ, 48, .inl (fun j => zI (b j))))] sz) [(h0, .inr (2, [.ref ea, .ref pa, .int (nI s), v3, .int (nI (hv_D e b s s)), .int (nI (hv_N e b s s)), .int (nI (hv_X e b s s)), v7, v8, v9, v10])), (ea, .inl (cI, 48, .inl (e))), (pa, .inl (cZ, 48, .inl (fun j => zI (b j))))] t) (va_A [(h0, .inr (2, [.ref ea, .ref pa, .int (nI s), v3, .int x4, .int x5, .int x6, v7, v8, v9, v10])), (ea, .inl (cI, 48, .inl (e))), (pa, .inl (cZ, 48, .inl (fun j => zI (b j))))] sz)) 0 0 (va_A [(h0, .inr (2, [.ref ea, .ref pa, .int (nI s), v3, .int x4, .int x5, .int x6, v7, v8, v9, v10])), (ea, .inl (cI, 48, .inl (e))), (pa, .inl (cZ, 48, .inl (fun j => zI (b j))))] sz) := by
  refine fw_metW (cc := cX2_recount) (maxL := 3) (ret := none) (by decide) rfl (Nat.le_of_ble_eq_true rfl) ?_
  intro zp ze zs zm zbelow zmeth zc ls hx hb hr hts hown hlocks hml hin hN hsz hP hK hD hA hS hl
  generalize hAe : (va_A [(h0, .inr (2, [.ref ea, .ref pa, .int (nI s), v3, .int x4, .int x5, .int x6, v7, v8, v9, v10])), (ea, .inl (cI, 48, .inl (e))), (pa, .inl (cZ, 48, .inl (fun j => zI (b j))))] sz) = A at hD hA hS ⊢
  have hown : zs.vm.findClass RX2 = some zm.cls := hown
  have hl : lv_has ls 3 [(0, .ref h0)] := hl
  refine lv_aload_n hx hb dX2_recount_0 rfl (lv_at hl 0 rfl) ?_
  refine lv_iconst (v := 0) hx hb dX2_recount_1 (by decide) ?_
  refine va_put (D := (dC, dI)) (ci := 2) (v := .int 0) (ty := .int) (C := RX2) (T := TX2) (N := 11) hx hb hts (by decide +kernel) tyX2 tyX2_ok nmX2 hown hK hP hD hS 0 rfl rfl 4 (by decide) (hts (.fieldLink RX2 50 "FlakyBounds$History" "doubtful" "I") (by decide +kernel)) (fun _ h9 => h9) rfl (by decide +kernel) rfl rfl (Nat.le_of_ble_eq_true rfl) dX2_recount_2 (fun H locs hP hD hS => ?_)
  have hP : va_P (dC, dI) vwCl [(h0, .inr (2, [.ref ea, .ref pa, .int (nI s), v3, .int 0, .int x5, .int x6, v7, v8, v9, v10])), (ea, .inl (cI, 48, .inl (e))), (pa, .inl (cZ, 48, .inl (fun j => zI (b j))))] H := hP
  have hD : va_D A [(h0, .inr (2, [.ref ea, .ref pa, .int (nI s), v3, .int 0, .int x5, .int x6, v7, v8, v9, v10])), (ea, .inl (cI, 48, .inl (e))), (pa, .inl (cZ, 48, .inl (fun j => zI (b j))))] := hD
  refine lv_aload_n hx hb dX2_recount_5 rfl (lv_at hl 0 rfl) ?_
  refine lv_iconst (v := 0) hx hb dX2_recount_6 (by decide) ?_
  refine va_put (D := (dC, dI)) (ci := 2) (v := .int 0) (ty := .int) (C := RX2) (T := TX2) (N := 11) hx hb hts (by decide +kernel) tyX2 tyX2_ok nmX2 hown hK hP hD hS 0 rfl rfl 5 (by decide) (hts (.fieldLink RX2 53 "FlakyBounds$History" "throwsCounted" "I") (by decide +kernel)) (fun _ h9 => h9) rfl (by decide +kernel) rfl rfl (Nat.le_of_ble_eq_true rfl) dX2_recount_7 (fun H locs hP hD hS => ?_)
  have hP : va_P (dC, dI) vwCl [(h0, .inr (2, [.ref ea, .ref pa, .int (nI s), v3, .int 0, .int 0, .int x6, v7, v8, v9, v10])), (ea, .inl (cI, 48, .inl (e))), (pa, .inl (cZ, 48, .inl (fun j => zI (b j))))] H := hP
  have hD : va_D A [(h0, .inr (2, [.ref ea, .ref pa, .int (nI s), v3, .int 0, .int 0, .int x6, v7, v8, v9, v10])), (ea, .inl (cI, 48, .inl (e))), (pa, .inl (cZ, 48, .inl (fun j => zI (b j))))] := hD
  refine lv_aload_n hx hb dX2_recount_10 rfl (lv_at hl 0 rfl) ?_
  refine lv_iconst (v := 0) hx hb dX2_recount_11 (by decide) ?_
  refine va_put (D := (dC, dI)) (ci := 2) (v := .int 0) (ty := .int) (C := RX2) (T := TX2) (N := 11) hx hb hts (by decide +kernel) tyX2 tyX2_ok nmX2 hown hK hP hD hS 0 rfl rfl 6 (by decide) (hts (.fieldLink RX2 56 "FlakyBounds$History" "failsCounted" "I") (by decide +kernel)) (fun _ h9 => h9) rfl (by decide +kernel) rfl rfl (Nat.le_of_ble_eq_true rfl) dX2_recount_12 (fun H locs hP hD hS => ?_)
  have hP : va_P (dC, dI) vwCl [(h0, .inr (2, [.ref ea, .ref pa, .int (nI s), v3, .int 0, .int 0, .int 0, v7, v8, v9, v10])), (ea, .inl (cI, 48, .inl (e))), (pa, .inl (cZ, 48, .inl (fun j => zI (b j))))] H := hP
  have hD : va_D A [(h0, .inr (2, [.ref ea, .ref pa, .int (nI s), v3, .int 0, .int 0, .int 0, v7, v8, v9, v10])), (ea, .inl (cI, 48, .inl (e))), (pa, .inl (cZ, 48, .inl (fun j => zI (b j))))] := hD
  refine lv_iconst (v := 0) hx hb dX2_recount_15 (by decide) ?_
  refine lv_istore_n (lv' := [(1, .int 0), (0, .ref h0)]) hx hb dX2_recount_16 rfl hl (by decide) rfl (fun ls hl => ?_)
  refine fw_loop (σ := Nat) (I := fun zn u H locs ls => match u with | i => zn = s - i ∧ (i ≤ s) ∧ va_P (dC, dI) vwCl [(h0, .inr (2, [.ref ea, .ref pa, .int (nI s), v3, .int (nI (hv_D e b s i)), .int (nI (hv_N e b s i)), .int (nI (hv_X e b s i)), v7, v8, v9, v10])), (ea, .inl (cI, 48, .inl (e))), (pa, .inl (cZ, 48, .inl (fun j => zI (b j))))] H ∧ va_D A [(h0, .inr (2, [.ref ea, .ref pa, .int (nI s), v3, .int (nI (hv_D e b s i)), .int (nI (hv_N e b s i)), .int (nI (hv_X e b s i)), v7, v8, v9, v10])), (ea, .inl (cI, 48, .inl (e))), (pa, .inl (cZ, 48, .inl (fun j => zI (b j))))] ∧ va_S A zs.heap H locs ∧ lv_has ls 3 [(0, .ref h0), (1, .int (nI i))]) ?_ _ 0 _ _ _ ⟨rfl, by omega, hP.sub [0, 1, 2] rfl, hD.sub [0, 1, 2] (by decide) rfl, hS, lv_sub hl [1, 0] rfl⟩
  intro zn i H locs ls hI ih_17
  obtain ⟨hzn, hi, hP, hD, hS, hl⟩ := hI
  refine lv_iload_n hx hb dX2_recount_17 rfl (lv_at hl 1 rfl) ?_
  refine lv_aload_n hx hb dX2_recount_18 rfl (lv_at hl 0 rfl) ?_
  refine va_get (D := (dC, dI)) (ci := 2) (v := .int (nI s)) (C := RX2) (T := TX2) (N := 11) hx hb hts (by decide +kernel) hown hK hP 0 rfl rfl 2 (by decide) (hts (.fieldLink RX2 23 "FlakyBounds$History" "size" "I") (by decide +kernel)) (fun _ h9 => h9) rfl dX2_recount_19 ?_
  refine lv_icmp_ge (tgt := 122) hx hb dX2_recount_22 (by decide) (fun c_22 => ?_) (fun c_22 => ?_)
  · -- then 22
    have hend : i = s := by have := (nI_leI (a := s) (b := i) (by omega) (by omega)).mp c_22; omega
    rw [hend] at hP hD
    have hP9 := hP.sub (ws' := [(h0, .inr (2, [.ref ea, .ref pa, .int (nI s), v3, .int (nI (hv_D e b s s)), .int (nI (hv_N e b s s)), .int (nI (hv_X e b s s)), v7, v8, v9, v10])), (ea, .inl (cI, 48, .inl (e))), (pa, .inl (cZ, 48, .inl (fun j => zI (b j))))]) [0, 1, 2] rfl
    have hD9 := hD.sub (ws' := [(h0, .inr (2, [.ref ea, .ref pa, .int (nI s), v3, .int (nI (hv_D e b s s)), .int (nI (hv_N e b s s)), .int (nI (hv_X e b s s)), v7, v8, v9, v10])), (ea, .inl (cI, 48, .inl (e))), (pa, .inl (cZ, 48, .inl (fun j => zI (b j))))]) [0, 1, 2] (by decide) rfl
    have hK9 := hK.sub (tys' := [(cI, .int), (cZ, .boolean)]) [0, 1] rfl
    exact W.vret hx hb hr (fun zt zht hW => ⟨⟨⟨⟩, rfl, trivial, by rw [zht]; exact hP9, va_K.moved hW.alike hK9, hD9⟩, hS.F zht⟩) hS.2.2 dX2_recount_122 hlocks
  · -- else 22
    have hlt : i < s := by
      rcases Nat.lt_or_ge i s with q9 | q9
      · exact q9
      · exact absurd (nI_le (a := s) (b := i) q9 (by omega)) c_22
    refine lv_iload_n hx hb dX2_recount_25 rfl (lv_at hl 1 rfl) ?_
    refine lv_bipush (v := 48) hx hb dX2_recount_26 (by decide) ?_
    refine lv_icmp_ge (tgt := 122) hx hb dX2_recount_28 (by decide) (fun c_28 => absurd c_28 (nI_ge (a := i) (b := 48) (by omega) (by decide))) (fun _ => ?_)
    cases hbi : b i
    · -- f
      refine lv_aload_n hx hb dX2_recount_31 rfl (lv_at hl 0 rfl) ?_
      refine lv_aload_n hx hb dX2_recount_32 rfl (lv_at hl 0 rfl) ?_
      refine va_get (D := (dC, dI)) (ci := 2) (v := .ref ea) (C := RX2) (T := TX2) (N := 11) hx hb hts (by decide +kernel) hown hK hP 0 rfl rfl 0 (by decide) (hts (.fieldLink RX2 9 "FlakyBounds$History" "editions" "[I") (by decide +kernel)) (fun _ h9 => h9) rfl dX2_recount_33 ?_
      refine lv_iload_n hx hb dX2_recount_36 rfl (lv_at hl 1 rfl) ?_
      refine va_iald hx hb hK hP 1 0 rfl rfl (vp_in_nI (by omega) (by decide)) dX2_recount_37 ?_
      refine fw_i (x' := e i) (by rw [nI_clamp (by omega)]) ?_
      refine lv_aload_n hx hb dX2_recount_38 rfl (lv_at hl 0 rfl) ?_
      refine va_get (D := (dC, dI)) (ci := 2) (v := .ref pa) (C := RX2) (T := TX2) (N := 11) hx hb hts (by decide +kernel) hown hK hP 0 rfl rfl 1 (by decide) (hts (.fieldLink RX2 15 "FlakyBounds$History" "passes" "[Z") (by decide +kernel)) (fun _ h9 => h9) rfl dX2_recount_39 ?_
      refine lv_iload_n hx hb dX2_recount_42 rfl (lv_at hl 1 rfl) ?_
      refine va_zald hx hb hK hP 2 1 rfl rfl (vp_in_nI (by omega) (by decide)) dX2_recount_43 ?_
      refine fw_i (x' := 0) (by rw [nI_clamp (by omega)]; show zI (b i) = _; rw [hbi]; rfl) ?_
      refine lv_if_ne (tgt := 51) hx hb dX2_recount_44 (by decide) (fun c_44 => absurd (by decide) c_44) (fun _ => ?_)
      refine lv_iconst (v := 1) hx hb dX2_recount_47 (by decide) ?_
      refine lv_goto (tgt := 52) hx hb dX2_recount_48 (by decide) ?_
      have hPc := hP.sub (ws' := [(h0, .inr (2, [.ref ea, .ref pa, .int (nI s), v3, .int (nI (hv_D e b s i)), .int (nI (hv_N e b s i)), .int (nI (hv_X e b s i)), v7, v8, v9, v10])), (ea, .inl (cI, 48, .inl (e))), (pa, .inl (cZ, 48, .inl (fun j => zI (b j))))]) [0, 1, 2] rfl
      have hKc := hK.sub (tys' := [(cI, .int), (cZ, .boolean)]) [0, 1] rfl
      refine vp_callSi (va_runV (As := [.int (e i), .int 1]) (rest := []) ⟨hx, hb, hml, hown, hts⟩ (c_his_has l dC dI h0 ea pa cI cZ s v3 (.int (nI (hv_D e b s i))) (.int (nI (hv_N e b s i))) (.int (nI (hv_X e b s i))) v7 v8 v9 v10 e b (e i) true hs) (cwV 2 hts gX2_recount_X2_has rfl rfl rfl (by decide +kernel) ⟨Nat.le_of_ble_eq_true rfl, Nat.le_of_ble_eq_true rfl⟩) (fw_preVR hN hKc hPc (ci := 2) (q0 := 0) rfl rfl) rfl rfl hl.1 rfl (lv_room (Nat.le_of_ble_eq_true rfl)) dX2_recount_52 ⟨Nat.le_of_ble_eq_true rfl, Nat.le_of_ble_eq_true rfl⟩).run (fun r_52 hr_52 => ?_)
      obtain rfl : r_52 = zI (hv_con e b s i) := by rw [hr_52]; unfold hv_con; rw [hbi]; rfl
      refine lv_istore_n (lv' := [(2, .int (zI (hv_con e b s i))), (0, .ref h0), (1, .int (nI i))]) hx hb dX2_recount_55 rfl hl (by decide) rfl (fun ls hl => ?_)
      cases hcon : hv_con e b s i
      · -- cf
        refine lv_iload_n hx hb dX2_recount_56 rfl (lv_at hl 0 rfl) ?_
        refine lv_if_eq (tgt := 70) hx hb dX2_recount_57 (by decide) (fun _ => ?_) (fun c_57 => absurd (by rw [hcon]; rfl) c_57)
        refine lv_aload_n hx hb dX2_recount_70 rfl (lv_at hl 1 rfl) ?_
        refine va_get (D := (dC, dI)) (ci := 2) (v := .ref pa) (C := RX2) (T := TX2) (N := 11) hx hb hts (by decide +kernel) hown hK hP 0 rfl rfl 1 (by decide) (hts (.fieldLink RX2 15 "FlakyBounds$History" "passes" "[Z") (by decide +kernel)) (fun _ h9 => h9) rfl dX2_recount_71 ?_
        refine lv_iload_n hx hb dX2_recount_74 rfl (lv_at hl 2 rfl) ?_
        refine va_zald hx hb hK hP 2 1 rfl rfl (vp_in_nI (by omega) (by decide)) dX2_recount_75 ?_
        refine fw_i (x' := 0) (by rw [nI_clamp (by omega)]; show zI (b i) = _; rw [hbi]; rfl) ?_
        refine lv_if_ne (tgt := 83) hx hb dX2_recount_76 (by decide) (fun c_76 => absurd (by decide) c_76) (fun _ => ?_)
        refine lv_iload_n hx hb dX2_recount_79 rfl (lv_at hl 0 rfl) ?_
        refine lv_if_eq (tgt := 93) hx hb dX2_recount_80 (by decide) (fun _ => ?_) (fun c_80 => absurd (by rw [hcon]; rfl) c_80)
        refine lv_aload_n hx hb dX2_recount_93 rfl (lv_at hl 1 rfl) ?_
        refine va_get (D := (dC, dI)) (ci := 2) (v := .ref pa) (C := RX2) (T := TX2) (N := 11) hx hb hts (by decide +kernel) hown hK hP 0 rfl rfl 1 (by decide) (hts (.fieldLink RX2 15 "FlakyBounds$History" "passes" "[Z") (by decide +kernel)) (fun _ h9 => h9) rfl dX2_recount_94 ?_
        refine lv_iload_n hx hb dX2_recount_97 rfl (lv_at hl 2 rfl) ?_
        refine va_zald hx hb hK hP 2 1 rfl rfl (vp_in_nI (by omega) (by decide)) dX2_recount_98 ?_
        refine fw_i (x' := 0) (by rw [nI_clamp (by omega)]; show zI (b i) = _; rw [hbi]; rfl) ?_
        refine lv_if_ne (tgt := 116) hx hb dX2_recount_99 (by decide) (fun c_99 => absurd (by decide) c_99) (fun _ => ?_)
        refine lv_iload_n hx hb dX2_recount_102 rfl (lv_at hl 0 rfl) ?_
        refine lv_if_eq (tgt := 116) hx hb dX2_recount_103 (by decide) (fun _ => ?_) (fun c_103 => absurd (by rw [hcon]; rfl) c_103)
        refine lv_iinc (v := nI (i + 1)) (lv' := [(1, .int (nI (i + 1))), (2, .int (zI (hv_con e b s i))), (0, .ref h0)]) hx hb dX2_recount_116 hl (k := 2) rfl (nI_1 i) (by decide) rfl (fun ls hl => ?_)
        refine lv_goto (tgt := 17) hx hb dX2_recount_119 (by decide) ?_
        have e1 : hv_D e b s (i + 1) = hv_D e b s i := by rw [hv_DS, hcon]; rfl
        have e2 : hv_N e b s (i + 1) = hv_N e b s i := by rw [hv_NS, hcon, hbi]; rfl
        have e3 : hv_X e b s (i + 1) = hv_X e b s i := by rw [hv_XS, hcon, hbi]; rfl
        have hP : va_P (dC, dI) vwCl [(h0, .inr (2, [.ref ea, .ref pa, .int (nI s), v3, .int (nI (hv_D e b s (i + 1))), .int (nI (hv_N e b s (i + 1))), .int (nI (hv_X e b s (i + 1))), v7, v8, v9, v10])), (ea, .inl (cI, 48, .inl (e))), (pa, .inl (cZ, 48, .inl (fun j => zI (b j))))] H := by rw [e1, e2, e3]; exact hP
        have hD : va_D A [(h0, .inr (2, [.ref ea, .ref pa, .int (nI s), v3, .int (nI (hv_D e b s (i + 1))), .int (nI (hv_N e b s (i + 1))), .int (nI (hv_X e b s (i + 1))), v7, v8, v9, v10])), (ea, .inl (cI, 48, .inl (e))), (pa, .inl (cZ, 48, .inl (fun j => zI (b j))))] := by rw [e1, e2, e3]; exact hD
        exact ih_17 _ (i + 1) _ _ _ (by omega) ⟨rfl, by omega, hP.sub [0, 1, 2] rfl, hD.sub [0, 1, 2] (by decide) rfl, hS, lv_sub hl [2, 0] rfl⟩
      · -- ct
        refine lv_iload_n hx hb dX2_recount_56 rfl (lv_at hl 0 rfl) ?_
        refine lv_if_eq (tgt := 70) hx hb dX2_recount_57 (by decide) (fun c_57 => absurd c_57 (by rw [hcon]; decide)) (fun _ => ?_)
        refine lv_aload_n hx hb dX2_recount_60 rfl (lv_at hl 1 rfl) ?_
        refine lv_dup hx hb dX2_recount_61 rfl ?_
        refine va_get (D := (dC, dI)) (ci := 2) (v := .int (nI (hv_D e b s i))) (C := RX2) (T := TX2) (N := 11) hx hb hts (by decide +kernel) hown hK hP 0 rfl rfl 4 (by decide) (hts (.fieldLink RX2 50 "FlakyBounds$History" "doubtful" "I") (by decide +kernel)) (fun _ h9 => h9) rfl dX2_recount_62 ?_
        refine lv_iconst (v := 1) hx hb dX2_recount_65 (by decide) ?_
        refine lv_iadd hx hb dX2_recount_66 ?_
        refine fw_i (x' := nI (hv_D e b s i + 1)) (nI_1 _) ?_
        refine va_put (D := (dC, dI)) (ci := 2) (v := .int (nI (hv_D e b s i + 1))) (ty := .int) (C := RX2) (T := TX2) (N := 11) hx hb hts (by decide +kernel) tyX2 tyX2_ok nmX2 hown hK hP hD hS 0 rfl rfl 4 (by decide) (hts (.fieldLink RX2 50 "FlakyBounds$History" "doubtful" "I") (by decide +kernel)) (fun _ h9 => h9) rfl (by decide +kernel) rfl rfl (Nat.le_of_ble_eq_true rfl) dX2_recount_67 (fun H locs hP hD hS => ?_)
        have hP : va_P (dC, dI) vwCl [(h0, .inr (2, [.ref ea, .ref pa, .int (nI s), v3, .int (nI (hv_D e b s i + 1)), .int (nI (hv_N e b s i)), .int (nI (hv_X e b s i)), v7, v8, v9, v10])), (ea, .inl (cI, 48, .inl (e))), (pa, .inl (cZ, 48, .inl (fun j => zI (b j))))] H := hP
        have hD : va_D A [(h0, .inr (2, [.ref ea, .ref pa, .int (nI s), v3, .int (nI (hv_D e b s i + 1)), .int (nI (hv_N e b s i)), .int (nI (hv_X e b s i)), v7, v8, v9, v10])), (ea, .inl (cI, 48, .inl (e))), (pa, .inl (cZ, 48, .inl (fun j => zI (b j))))] := hD
        refine lv_aload_n hx hb dX2_recount_70 rfl (lv_at hl 1 rfl) ?_
        refine va_get (D := (dC, dI)) (ci := 2) (v := .ref pa) (C := RX2) (T := TX2) (N := 11) hx hb hts (by decide +kernel) hown hK hP 0 rfl rfl 1 (by decide) (hts (.fieldLink RX2 15 "FlakyBounds$History" "passes" "[Z") (by decide +kernel)) (fun _ h9 => h9) rfl dX2_recount_71 ?_
        refine lv_iload_n hx hb dX2_recount_74 rfl (lv_at hl 2 rfl) ?_
        refine va_zald hx hb hK hP 2 1 rfl rfl (vp_in_nI (by omega) (by decide)) dX2_recount_75 ?_
        refine fw_i (x' := 0) (by rw [nI_clamp (by omega)]; show zI (b i) = _; rw [hbi]; rfl) ?_
        refine lv_if_ne (tgt := 83) hx hb dX2_recount_76 (by decide) (fun c_76 => absurd (by decide) c_76) (fun _ => ?_)
        refine lv_iload_n hx hb dX2_recount_79 rfl (lv_at hl 0 rfl) ?_
        refine lv_if_eq (tgt := 93) hx hb dX2_recount_80 (by decide) (fun c_80 => absurd c_80 (by rw [hcon]; decide)) (fun _ => ?_)
        refine lv_aload_n hx hb dX2_recount_83 rfl (lv_at hl 1 rfl) ?_
        refine lv_dup hx hb dX2_recount_84 rfl ?_
        refine va_get (D := (dC, dI)) (ci := 2) (v := .int (nI (hv_N e b s i))) (C := RX2) (T := TX2) (N := 11) hx hb hts (by decide +kernel) hown hK hP 0 rfl rfl 5 (by decide) (hts (.fieldLink RX2 53 "FlakyBounds$History" "throwsCounted" "I") (by decide +kernel)) (fun _ h9 => h9) rfl dX2_recount_85 ?_
        refine lv_iconst (v := 1) hx hb dX2_recount_88 (by decide) ?_
        refine lv_iadd hx hb dX2_recount_89 ?_
        refine fw_i (x' := nI (hv_N e b s i + 1)) (nI_1 _) ?_
        refine va_put (D := (dC, dI)) (ci := 2) (v := .int (nI (hv_N e b s i + 1))) (ty := .int) (C := RX2) (T := TX2) (N := 11) hx hb hts (by decide +kernel) tyX2 tyX2_ok nmX2 hown hK hP hD hS 0 rfl rfl 5 (by decide) (hts (.fieldLink RX2 53 "FlakyBounds$History" "throwsCounted" "I") (by decide +kernel)) (fun _ h9 => h9) rfl (by decide +kernel) rfl rfl (Nat.le_of_ble_eq_true rfl) dX2_recount_90 (fun H locs hP hD hS => ?_)
        have hP : va_P (dC, dI) vwCl [(h0, .inr (2, [.ref ea, .ref pa, .int (nI s), v3, .int (nI (hv_D e b s i + 1)), .int (nI (hv_N e b s i + 1)), .int (nI (hv_X e b s i)), v7, v8, v9, v10])), (ea, .inl (cI, 48, .inl (e))), (pa, .inl (cZ, 48, .inl (fun j => zI (b j))))] H := hP
        have hD : va_D A [(h0, .inr (2, [.ref ea, .ref pa, .int (nI s), v3, .int (nI (hv_D e b s i + 1)), .int (nI (hv_N e b s i + 1)), .int (nI (hv_X e b s i)), v7, v8, v9, v10])), (ea, .inl (cI, 48, .inl (e))), (pa, .inl (cZ, 48, .inl (fun j => zI (b j))))] := hD
        refine lv_aload_n hx hb dX2_recount_93 rfl (lv_at hl 1 rfl) ?_
        refine va_get (D := (dC, dI)) (ci := 2) (v := .ref pa) (C := RX2) (T := TX2) (N := 11) hx hb hts (by decide +kernel) hown hK hP 0 rfl rfl 1 (by decide) (hts (.fieldLink RX2 15 "FlakyBounds$History" "passes" "[Z") (by decide +kernel)) (fun _ h9 => h9) rfl dX2_recount_94 ?_
        refine lv_iload_n hx hb dX2_recount_97 rfl (lv_at hl 2 rfl) ?_
        refine va_zald hx hb hK hP 2 1 rfl rfl (vp_in_nI (by omega) (by decide)) dX2_recount_98 ?_
        refine fw_i (x' := 0) (by rw [nI_clamp (by omega)]; show zI (b i) = _; rw [hbi]; rfl) ?_
        refine lv_if_ne (tgt := 116) hx hb dX2_recount_99 (by decide) (fun c_99 => absurd (by decide) c_99) (fun _ => ?_)
        refine lv_iload_n hx hb dX2_recount_102 rfl (lv_at hl 0 rfl) ?_
        refine lv_if_eq (tgt := 116) hx hb dX2_recount_103 (by decide) (fun c_103 => absurd c_103 (by rw [hcon]; decide)) (fun _ => ?_)
        refine lv_aload_n hx hb dX2_recount_106 rfl (lv_at hl 1 rfl) ?_
        refine lv_dup hx hb dX2_recount_107 rfl ?_
        refine va_get (D := (dC, dI)) (ci := 2) (v := .int (nI (hv_X e b s i))) (C := RX2) (T := TX2) (N := 11) hx hb hts (by decide +kernel) hown hK hP 0 rfl rfl 6 (by decide) (hts (.fieldLink RX2 56 "FlakyBounds$History" "failsCounted" "I") (by decide +kernel)) (fun _ h9 => h9) rfl dX2_recount_108 ?_
        refine lv_iconst (v := 1) hx hb dX2_recount_111 (by decide) ?_
        refine lv_iadd hx hb dX2_recount_112 ?_
        refine fw_i (x' := nI (hv_X e b s i + 1)) (nI_1 _) ?_
        refine va_put (D := (dC, dI)) (ci := 2) (v := .int (nI (hv_X e b s i + 1))) (ty := .int) (C := RX2) (T := TX2) (N := 11) hx hb hts (by decide +kernel) tyX2 tyX2_ok nmX2 hown hK hP hD hS 0 rfl rfl 6 (by decide) (hts (.fieldLink RX2 56 "FlakyBounds$History" "failsCounted" "I") (by decide +kernel)) (fun _ h9 => h9) rfl (by decide +kernel) rfl rfl (Nat.le_of_ble_eq_true rfl) dX2_recount_113 (fun H locs hP hD hS => ?_)
        have hP : va_P (dC, dI) vwCl [(h0, .inr (2, [.ref ea, .ref pa, .int (nI s), v3, .int (nI (hv_D e b s i + 1)), .int (nI (hv_N e b s i + 1)), .int (nI (hv_X e b s i + 1)), v7, v8, v9, v10])), (ea, .inl (cI, 48, .inl (e))), (pa, .inl (cZ, 48, .inl (fun j => zI (b j))))] H := hP
        have hD : va_D A [(h0, .inr (2, [.ref ea, .ref pa, .int (nI s), v3, .int (nI (hv_D e b s i + 1)), .int (nI (hv_N e b s i + 1)), .int (nI (hv_X e b s i + 1)), v7, v8, v9, v10])), (ea, .inl (cI, 48, .inl (e))), (pa, .inl (cZ, 48, .inl (fun j => zI (b j))))] := hD
        refine lv_iinc (v := nI (i + 1)) (lv' := [(1, .int (nI (i + 1))), (2, .int (zI (hv_con e b s i))), (0, .ref h0)]) hx hb dX2_recount_116 hl (k := 2) rfl (nI_1 i) (by decide) rfl (fun ls hl => ?_)
        refine lv_goto (tgt := 17) hx hb dX2_recount_119 (by decide) ?_
        have e1 : hv_D e b s (i + 1) = hv_D e b s i + 1 := by rw [hv_DS, hcon]; rfl
        have e2 : hv_N e b s (i + 1) = hv_N e b s i + 1 := by rw [hv_NS, hcon, hbi]; rfl
        have e3 : hv_X e b s (i + 1) = hv_X e b s i + 1 := by rw [hv_XS, hcon, hbi]; rfl
        have hP : va_P (dC, dI) vwCl [(h0, .inr (2, [.ref ea, .ref pa, .int (nI s), v3, .int (nI (hv_D e b s (i + 1))), .int (nI (hv_N e b s (i + 1))), .int (nI (hv_X e b s (i + 1))), v7, v8, v9, v10])), (ea, .inl (cI, 48, .inl (e))), (pa, .inl (cZ, 48, .inl (fun j => zI (b j))))] H := by rw [e1, e2, e3]; exact hP
        have hD : va_D A [(h0, .inr (2, [.ref ea, .ref pa, .int (nI s), v3, .int (nI (hv_D e b s (i + 1))), .int (nI (hv_N e b s (i + 1))), .int (nI (hv_X e b s (i + 1))), v7, v8, v9, v10])), (ea, .inl (cI, 48, .inl (e))), (pa, .inl (cZ, 48, .inl (fun j => zI (b j))))] := by rw [e1, e2, e3]; exact hD
        exact ih_17 _ (i + 1) _ _ _ (by omega) ⟨rfl, by omega, hP.sub [0, 1, 2] rfl, hD.sub [0, 1, 2] (by decide) rfl, hS, lv_sub hl [2, 0] rfl⟩
    · -- t
      refine lv_aload_n hx hb dX2_recount_31 rfl (lv_at hl 0 rfl) ?_
      refine lv_aload_n hx hb dX2_recount_32 rfl (lv_at hl 0 rfl) ?_
      refine va_get (D := (dC, dI)) (ci := 2) (v := .ref ea) (C := RX2) (T := TX2) (N := 11) hx hb hts (by decide +kernel) hown hK hP 0 rfl rfl 0 (by decide) (hts (.fieldLink RX2 9 "FlakyBounds$History" "editions" "[I") (by decide +kernel)) (fun _ h9 => h9) rfl dX2_recount_33 ?_
      refine lv_iload_n hx hb dX2_recount_36 rfl (lv_at hl 1 rfl) ?_
      refine va_iald hx hb hK hP 1 0 rfl rfl (vp_in_nI (by omega) (by decide)) dX2_recount_37 ?_
      refine fw_i (x' := e i) (by rw [nI_clamp (by omega)]) ?_
      refine lv_aload_n hx hb dX2_recount_38 rfl (lv_at hl 0 rfl) ?_
      refine va_get (D := (dC, dI)) (ci := 2) (v := .ref pa) (C := RX2) (T := TX2) (N := 11) hx hb hts (by decide +kernel) hown hK hP 0 rfl rfl 1 (by decide) (hts (.fieldLink RX2 15 "FlakyBounds$History" "passes" "[Z") (by decide +kernel)) (fun _ h9 => h9) rfl dX2_recount_39 ?_
      refine lv_iload_n hx hb dX2_recount_42 rfl (lv_at hl 1 rfl) ?_
      refine va_zald hx hb hK hP 2 1 rfl rfl (vp_in_nI (by omega) (by decide)) dX2_recount_43 ?_
      refine fw_i (x' := 1) (by rw [nI_clamp (by omega)]; show zI (b i) = _; rw [hbi]; rfl) ?_
      refine lv_if_ne (tgt := 51) hx hb dX2_recount_44 (by decide) (fun _ => ?_) (fun c_44 => absurd c_44 (by decide))
      refine lv_iconst (v := 0) hx hb dX2_recount_51 (by decide) ?_
      have hPc := hP.sub (ws' := [(h0, .inr (2, [.ref ea, .ref pa, .int (nI s), v3, .int (nI (hv_D e b s i)), .int (nI (hv_N e b s i)), .int (nI (hv_X e b s i)), v7, v8, v9, v10])), (ea, .inl (cI, 48, .inl (e))), (pa, .inl (cZ, 48, .inl (fun j => zI (b j))))]) [0, 1, 2] rfl
      have hKc := hK.sub (tys' := [(cI, .int), (cZ, .boolean)]) [0, 1] rfl
      refine vp_callSi (va_runV (As := [.int (e i), .int 0]) (rest := []) ⟨hx, hb, hml, hown, hts⟩ (c_his_has l dC dI h0 ea pa cI cZ s v3 (.int (nI (hv_D e b s i))) (.int (nI (hv_N e b s i))) (.int (nI (hv_X e b s i))) v7 v8 v9 v10 e b (e i) false hs) (cwV 2 hts gX2_recount_X2_has rfl rfl rfl (by decide +kernel) ⟨Nat.le_of_ble_eq_true rfl, Nat.le_of_ble_eq_true rfl⟩) (fw_preVR hN hKc hPc (ci := 2) (q0 := 0) rfl rfl) rfl rfl hl.1 rfl (lv_room (Nat.le_of_ble_eq_true rfl)) dX2_recount_52 ⟨Nat.le_of_ble_eq_true rfl, Nat.le_of_ble_eq_true rfl⟩).run (fun r_52 hr_52 => ?_)
      obtain rfl : r_52 = zI (hv_con e b s i) := by rw [hr_52]; unfold hv_con; rw [hbi]; rfl
      refine lv_istore_n (lv' := [(2, .int (zI (hv_con e b s i))), (0, .ref h0), (1, .int (nI i))]) hx hb dX2_recount_55 rfl hl (by decide) rfl (fun ls hl => ?_)
      cases hcon : hv_con e b s i
      · -- cf
        refine lv_iload_n hx hb dX2_recount_56 rfl (lv_at hl 0 rfl) ?_
        refine lv_if_eq (tgt := 70) hx hb dX2_recount_57 (by decide) (fun _ => ?_) (fun c_57 => absurd (by rw [hcon]; rfl) c_57)
        refine lv_aload_n hx hb dX2_recount_70 rfl (lv_at hl 1 rfl) ?_
        refine va_get (D := (dC, dI)) (ci := 2) (v := .ref pa) (C := RX2) (T := TX2) (N := 11) hx hb hts (by decide +kernel) hown hK hP 0 rfl rfl 1 (by decide) (hts (.fieldLink RX2 15 "FlakyBounds$History" "passes" "[Z") (by decide +kernel)) (fun _ h9 => h9) rfl dX2_recount_71 ?_
        refine lv_iload_n hx hb dX2_recount_74 rfl (lv_at hl 2 rfl) ?_
        refine va_zald hx hb hK hP 2 1 rfl rfl (vp_in_nI (by omega) (by decide)) dX2_recount_75 ?_
        refine fw_i (x' := 1) (by rw [nI_clamp (by omega)]; show zI (b i) = _; rw [hbi]; rfl) ?_
        refine lv_if_ne (tgt := 83) hx hb dX2_recount_76 (by decide) (fun _ => ?_) (fun c_76 => absurd c_76 (by decide))
        refine lv_aload_n hx hb dX2_recount_83 rfl (lv_at hl 1 rfl) ?_
        refine lv_dup hx hb dX2_recount_84 rfl ?_
        refine va_get (D := (dC, dI)) (ci := 2) (v := .int (nI (hv_N e b s i))) (C := RX2) (T := TX2) (N := 11) hx hb hts (by decide +kernel) hown hK hP 0 rfl rfl 5 (by decide) (hts (.fieldLink RX2 53 "FlakyBounds$History" "throwsCounted" "I") (by decide +kernel)) (fun _ h9 => h9) rfl dX2_recount_85 ?_
        refine lv_iconst (v := 1) hx hb dX2_recount_88 (by decide) ?_
        refine lv_iadd hx hb dX2_recount_89 ?_
        refine fw_i (x' := nI (hv_N e b s i + 1)) (nI_1 _) ?_
        refine va_put (D := (dC, dI)) (ci := 2) (v := .int (nI (hv_N e b s i + 1))) (ty := .int) (C := RX2) (T := TX2) (N := 11) hx hb hts (by decide +kernel) tyX2 tyX2_ok nmX2 hown hK hP hD hS 0 rfl rfl 5 (by decide) (hts (.fieldLink RX2 53 "FlakyBounds$History" "throwsCounted" "I") (by decide +kernel)) (fun _ h9 => h9) rfl (by decide +kernel) rfl rfl (Nat.le_of_ble_eq_true rfl) dX2_recount_90 (fun H locs hP hD hS => ?_)
        have hP : va_P (dC, dI) vwCl [(h0, .inr (2, [.ref ea, .ref pa, .int (nI s), v3, .int (nI (hv_D e b s i)), .int (nI (hv_N e b s i + 1)), .int (nI (hv_X e b s i)), v7, v8, v9, v10])), (ea, .inl (cI, 48, .inl (e))), (pa, .inl (cZ, 48, .inl (fun j => zI (b j))))] H := hP
        have hD : va_D A [(h0, .inr (2, [.ref ea, .ref pa, .int (nI s), v3, .int (nI (hv_D e b s i)), .int (nI (hv_N e b s i + 1)), .int (nI (hv_X e b s i)), v7, v8, v9, v10])), (ea, .inl (cI, 48, .inl (e))), (pa, .inl (cZ, 48, .inl (fun j => zI (b j))))] := hD
        refine lv_aload_n hx hb dX2_recount_93 rfl (lv_at hl 1 rfl) ?_
        refine va_get (D := (dC, dI)) (ci := 2) (v := .ref pa) (C := RX2) (T := TX2) (N := 11) hx hb hts (by decide +kernel) hown hK hP 0 rfl rfl 1 (by decide) (hts (.fieldLink RX2 15 "FlakyBounds$History" "passes" "[Z") (by decide +kernel)) (fun _ h9 => h9) rfl dX2_recount_94 ?_
        refine lv_iload_n hx hb dX2_recount_97 rfl (lv_at hl 2 rfl) ?_
        refine va_zald hx hb hK hP 2 1 rfl rfl (vp_in_nI (by omega) (by decide)) dX2_recount_98 ?_
        refine fw_i (x' := 1) (by rw [nI_clamp (by omega)]; show zI (b i) = _; rw [hbi]; rfl) ?_
        refine lv_if_ne (tgt := 116) hx hb dX2_recount_99 (by decide) (fun _ => ?_) (fun c_99 => absurd c_99 (by decide))
        refine lv_iinc (v := nI (i + 1)) (lv' := [(1, .int (nI (i + 1))), (2, .int (zI (hv_con e b s i))), (0, .ref h0)]) hx hb dX2_recount_116 hl (k := 2) rfl (nI_1 i) (by decide) rfl (fun ls hl => ?_)
        refine lv_goto (tgt := 17) hx hb dX2_recount_119 (by decide) ?_
        have e1 : hv_D e b s (i + 1) = hv_D e b s i := by rw [hv_DS, hcon]; rfl
        have e2 : hv_N e b s (i + 1) = hv_N e b s i + 1 := by rw [hv_NS, hcon, hbi]; rfl
        have e3 : hv_X e b s (i + 1) = hv_X e b s i := by rw [hv_XS, hcon, hbi]; rfl
        have hP : va_P (dC, dI) vwCl [(h0, .inr (2, [.ref ea, .ref pa, .int (nI s), v3, .int (nI (hv_D e b s (i + 1))), .int (nI (hv_N e b s (i + 1))), .int (nI (hv_X e b s (i + 1))), v7, v8, v9, v10])), (ea, .inl (cI, 48, .inl (e))), (pa, .inl (cZ, 48, .inl (fun j => zI (b j))))] H := by rw [e1, e2, e3]; exact hP
        have hD : va_D A [(h0, .inr (2, [.ref ea, .ref pa, .int (nI s), v3, .int (nI (hv_D e b s (i + 1))), .int (nI (hv_N e b s (i + 1))), .int (nI (hv_X e b s (i + 1))), v7, v8, v9, v10])), (ea, .inl (cI, 48, .inl (e))), (pa, .inl (cZ, 48, .inl (fun j => zI (b j))))] := by rw [e1, e2, e3]; exact hD
        exact ih_17 _ (i + 1) _ _ _ (by omega) ⟨rfl, by omega, hP.sub [0, 1, 2] rfl, hD.sub [0, 1, 2] (by decide) rfl, hS, lv_sub hl [2, 0] rfl⟩
      · -- ct
        refine lv_iload_n hx hb dX2_recount_56 rfl (lv_at hl 0 rfl) ?_
        refine lv_if_eq (tgt := 70) hx hb dX2_recount_57 (by decide) (fun c_57 => absurd c_57 (by rw [hcon]; decide)) (fun _ => ?_)
        refine lv_aload_n hx hb dX2_recount_60 rfl (lv_at hl 1 rfl) ?_
        refine lv_dup hx hb dX2_recount_61 rfl ?_
        refine va_get (D := (dC, dI)) (ci := 2) (v := .int (nI (hv_D e b s i))) (C := RX2) (T := TX2) (N := 11) hx hb hts (by decide +kernel) hown hK hP 0 rfl rfl 4 (by decide) (hts (.fieldLink RX2 50 "FlakyBounds$History" "doubtful" "I") (by decide +kernel)) (fun _ h9 => h9) rfl dX2_recount_62 ?_
        refine lv_iconst (v := 1) hx hb dX2_recount_65 (by decide) ?_
        refine lv_iadd hx hb dX2_recount_66 ?_
        refine fw_i (x' := nI (hv_D e b s i + 1)) (nI_1 _) ?_
        refine va_put (D := (dC, dI)) (ci := 2) (v := .int (nI (hv_D e b s i + 1))) (ty := .int) (C := RX2) (T := TX2) (N := 11) hx hb hts (by decide +kernel) tyX2 tyX2_ok nmX2 hown hK hP hD hS 0 rfl rfl 4 (by decide) (hts (.fieldLink RX2 50 "FlakyBounds$History" "doubtful" "I") (by decide +kernel)) (fun _ h9 => h9) rfl (by decide +kernel) rfl rfl (Nat.le_of_ble_eq_true rfl) dX2_recount_67 (fun H locs hP hD hS => ?_)
        have hP : va_P (dC, dI) vwCl [(h0, .inr (2, [.ref ea, .ref pa, .int (nI s), v3, .int (nI (hv_D e b s i + 1)), .int (nI (hv_N e b s i)), .int (nI (hv_X e b s i)), v7, v8, v9, v10])), (ea, .inl (cI, 48, .inl (e))), (pa, .inl (cZ, 48, .inl (fun j => zI (b j))))] H := hP
        have hD : va_D A [(h0, .inr (2, [.ref ea, .ref pa, .int (nI s), v3, .int (nI (hv_D e b s i + 1)), .int (nI (hv_N e b s i)), .int (nI (hv_X e b s i)), v7, v8, v9, v10])), (ea, .inl (cI, 48, .inl (e))), (pa, .inl (cZ, 48, .inl (fun j => zI (b j))))] := hD
        refine lv_aload_n hx hb dX2_recount_70 rfl (lv_at hl 1 rfl) ?_
        refine va_get (D := (dC, dI)) (ci := 2) (v := .ref pa) (C := RX2) (T := TX2) (N := 11) hx hb hts (by decide +kernel) hown hK hP 0 rfl rfl 1 (by decide) (hts (.fieldLink RX2 15 "FlakyBounds$History" "passes" "[Z") (by decide +kernel)) (fun _ h9 => h9) rfl dX2_recount_71 ?_
        refine lv_iload_n hx hb dX2_recount_74 rfl (lv_at hl 2 rfl) ?_
        refine va_zald hx hb hK hP 2 1 rfl rfl (vp_in_nI (by omega) (by decide)) dX2_recount_75 ?_
        refine fw_i (x' := 1) (by rw [nI_clamp (by omega)]; show zI (b i) = _; rw [hbi]; rfl) ?_
        refine lv_if_ne (tgt := 83) hx hb dX2_recount_76 (by decide) (fun _ => ?_) (fun c_76 => absurd c_76 (by decide))
        refine lv_aload_n hx hb dX2_recount_83 rfl (lv_at hl 1 rfl) ?_
        refine lv_dup hx hb dX2_recount_84 rfl ?_
        refine va_get (D := (dC, dI)) (ci := 2) (v := .int (nI (hv_N e b s i))) (C := RX2) (T := TX2) (N := 11) hx hb hts (by decide +kernel) hown hK hP 0 rfl rfl 5 (by decide) (hts (.fieldLink RX2 53 "FlakyBounds$History" "throwsCounted" "I") (by decide +kernel)) (fun _ h9 => h9) rfl dX2_recount_85 ?_
        refine lv_iconst (v := 1) hx hb dX2_recount_88 (by decide) ?_
        refine lv_iadd hx hb dX2_recount_89 ?_
        refine fw_i (x' := nI (hv_N e b s i + 1)) (nI_1 _) ?_
        refine va_put (D := (dC, dI)) (ci := 2) (v := .int (nI (hv_N e b s i + 1))) (ty := .int) (C := RX2) (T := TX2) (N := 11) hx hb hts (by decide +kernel) tyX2 tyX2_ok nmX2 hown hK hP hD hS 0 rfl rfl 5 (by decide) (hts (.fieldLink RX2 53 "FlakyBounds$History" "throwsCounted" "I") (by decide +kernel)) (fun _ h9 => h9) rfl (by decide +kernel) rfl rfl (Nat.le_of_ble_eq_true rfl) dX2_recount_90 (fun H locs hP hD hS => ?_)
        have hP : va_P (dC, dI) vwCl [(h0, .inr (2, [.ref ea, .ref pa, .int (nI s), v3, .int (nI (hv_D e b s i + 1)), .int (nI (hv_N e b s i + 1)), .int (nI (hv_X e b s i)), v7, v8, v9, v10])), (ea, .inl (cI, 48, .inl (e))), (pa, .inl (cZ, 48, .inl (fun j => zI (b j))))] H := hP
        have hD : va_D A [(h0, .inr (2, [.ref ea, .ref pa, .int (nI s), v3, .int (nI (hv_D e b s i + 1)), .int (nI (hv_N e b s i + 1)), .int (nI (hv_X e b s i)), v7, v8, v9, v10])), (ea, .inl (cI, 48, .inl (e))), (pa, .inl (cZ, 48, .inl (fun j => zI (b j))))] := hD
        refine lv_aload_n hx hb dX2_recount_93 rfl (lv_at hl 1 rfl) ?_
        refine va_get (D := (dC, dI)) (ci := 2) (v := .ref pa) (C := RX2) (T := TX2) (N := 11) hx hb hts (by decide +kernel) hown hK hP 0 rfl rfl 1 (by decide) (hts (.fieldLink RX2 15 "FlakyBounds$History" "passes" "[Z") (by decide +kernel)) (fun _ h9 => h9) rfl dX2_recount_94 ?_
        refine lv_iload_n hx hb dX2_recount_97 rfl (lv_at hl 2 rfl) ?_
        refine va_zald hx hb hK hP 2 1 rfl rfl (vp_in_nI (by omega) (by decide)) dX2_recount_98 ?_
        refine fw_i (x' := 1) (by rw [nI_clamp (by omega)]; show zI (b i) = _; rw [hbi]; rfl) ?_
        refine lv_if_ne (tgt := 116) hx hb dX2_recount_99 (by decide) (fun _ => ?_) (fun c_99 => absurd c_99 (by decide))
        refine lv_iinc (v := nI (i + 1)) (lv' := [(1, .int (nI (i + 1))), (2, .int (zI (hv_con e b s i))), (0, .ref h0)]) hx hb dX2_recount_116 hl (k := 2) rfl (nI_1 i) (by decide) rfl (fun ls hl => ?_)
        refine lv_goto (tgt := 17) hx hb dX2_recount_119 (by decide) ?_
        have e1 : hv_D e b s (i + 1) = hv_D e b s i + 1 := by rw [hv_DS, hcon]; rfl
        have e2 : hv_N e b s (i + 1) = hv_N e b s i + 1 := by rw [hv_NS, hcon, hbi]; rfl
        have e3 : hv_X e b s (i + 1) = hv_X e b s i := by rw [hv_XS, hcon, hbi]; rfl
        have hP : va_P (dC, dI) vwCl [(h0, .inr (2, [.ref ea, .ref pa, .int (nI s), v3, .int (nI (hv_D e b s (i + 1))), .int (nI (hv_N e b s (i + 1))), .int (nI (hv_X e b s (i + 1))), v7, v8, v9, v10])), (ea, .inl (cI, 48, .inl (e))), (pa, .inl (cZ, 48, .inl (fun j => zI (b j))))] H := by rw [e1, e2, e3]; exact hP
        have hD : va_D A [(h0, .inr (2, [.ref ea, .ref pa, .int (nI s), v3, .int (nI (hv_D e b s (i + 1))), .int (nI (hv_N e b s (i + 1))), .int (nI (hv_X e b s (i + 1))), v7, v8, v9, v10])), (ea, .inl (cI, 48, .inl (e))), (pa, .inl (cZ, 48, .inl (fun j => zI (b j))))] := by rw [e1, e2, e3]; exact hD
        exact ih_17 _ (i + 1) _ _ _ (by omega) ⟨rfl, by omega, hP.sub [0, 1, 2] rfl, hD.sub [0, 1, 2] (by decide) rfl, hS, lv_sub hl [2, 0] rfl⟩
set_option maxHeartbeats 4000000 in
set_option maxRecDepth 100000 in
theorem c_his_add (l : Launch) (dC : Nat → ClassId) (dI : Nat → Nat → Nat) (h0 ea pa : Nat) (cI cZ : ClassId) (s o : Nat) (x4 x5 x6 : Int32) (v7 v8 v9 v10 : Value) (e : Nat → Int32) (b : Nat → Bool) (x : Int32) (q : Bool) (sz : Nat) (hs : s ≤ 48) (ho : o < 48) : Met l yX2_add wsX2_add ({ frames := 2, cells := 0, slots := 0, locals := 45 } : Room) (va_Pc [.ref h0, .int x, .int (zI q)] (fw_pW (dC, dI) vwCl [(cI, .int), (cZ, .boolean)] [(h0, .inr (2, [.ref ea, .ref pa, .int (nI s), .int (nI o), .int x4, .int x5, .int x6, v7, v8, v9, v10])), (ea, .inl (cI, 48, .inl (e))), (pa, .inl (cZ, 48, .inl (fun j => zI (b j))))] sz)) (va_Qv (S := Unit) (fun _ => True) (fun u t => fw_q (dC, dI) vwCl [(cI, .int), (cZ, .boolean)] (va_A [(h0, .inr (2, [.ref ea, .ref pa, .int (nI s), .int (nI o), .int x4, .int x5, .int x6, v7, v8, v9, v10])), (ea, .inl (cI, 48, .inl (e))), (pa, .inl (cZ, 48, .inl (fun j => zI (b j))))] sz) [(h0, .inr (2, [.ref ea, .ref pa, .int (nI (hv_s s)), .int (nI (hv_o s o)), .int (nI (hv_D (upd e (hv_slot s o) x) (va_up b (hv_slot s o) q) (hv_s s) (hv_s s))), .int (nI (hv_N (upd e (hv_slot s o) x) (va_up b (hv_slot s o) q) (hv_s s) (hv_s s))), .int (nI (hv_X (upd e (hv_slot s o) x) (va_up b (hv_slot s o) q) (hv_s s) (hv_s s))), v7, v8, v9, v10])), (ea, .inl (cI, 48, .inl ((upd e (hv_slot s o) x)))), (pa, .inl (cZ, 48, .inl (fun j => zI ((va_up b (hv_slot s o) q) j))))] t) (va_A [(h0, .inr (2, [.ref ea, .ref pa, .int (nI s), .int (nI o), .int x4, .int x5, .int x6, v7, v8, v9, v10])), (ea, .inl (cI, 48, .inl (e))), (pa, .inl (cZ, 48, .inl (fun j => zI (b j))))] sz)) 0 0 (va_A [(h0, .inr (2, [.ref ea, .ref pa, .int (nI s), .int (nI o), .int x4, .int x5, .int x6, v7, v8, v9, v10])), (ea, .inl (cI, 48, .inl (e))), (pa, .inl (cZ, 48, .inl (fun j => zI (b j))))] sz) := by
  refine fw_metW (cc := cX2_add) (maxL := 4) (ret := none) (by decide) rfl (Nat.le_of_ble_eq_true rfl) ?_
  intro zp ze zs zm zbelow zmeth zc ls hx hb hr hts hown hlocks hml hin hN hsz hP hK hD hA hS hl
  generalize hAe : (va_A [(h0, .inr (2, [.ref ea, .ref pa, .int (nI s), .int (nI o), .int x4, .int x5, .int x6, v7, v8, v9, v10])), (ea, .inl (cI, 48, .inl (e))), (pa, .inl (cZ, 48, .inl (fun j => zI (b j))))] sz) = A at hD hA hS ⊢
  have hown : zs.vm.findClass RX2 = some zm.cls := hown
  have hl : lv_has ls 4 [(0, .ref h0), (1, .int x), (2, .int (zI q))] := hl
  refine lv_aload_n hx hb dX2_add_0 rfl (lv_at hl 0 rfl) ?_
  refine va_get (D := (dC, dI)) (ci := 2) (v := .int (nI s)) (C := RX2) (T := TX2) (N := 11) hx hb hts (by decide +kernel) hown hK hP 0 rfl rfl 2 (by decide) (hts (.fieldLink RX2 23 "FlakyBounds$History" "size" "I") (by decide +kernel)) (fun _ h9 => h9) rfl dX2_add_1 ?_
  refine lv_istore_n (lv' := [(3, .int (nI s)), (0, .ref h0), (1, .int x), (2, .int (zI q))]) hx hb dX2_add_4 rfl hl (by decide) rfl (fun ls hl => ?_)
  refine lv_aload_n hx hb dX2_add_5 rfl (lv_at hl 1 rfl) ?_
  refine va_get (D := (dC, dI)) (ci := 2) (v := .int (nI s)) (C := RX2) (T := TX2) (N := 11) hx hb hts (by decide +kernel) hown hK hP 0 rfl rfl 2 (by decide) (hts (.fieldLink RX2 23 "FlakyBounds$History" "size" "I") (by decide +kernel)) (fun _ h9 => h9) rfl dX2_add_6 ?_
  refine lv_bipush (v := 48) hx hb dX2_add_9 (by decide) ?_
  refine lv_icmp_ge (tgt := 27) hx hb dX2_add_11 (by decide) (fun c_11 => ?_) (fun c_11 => ?_)
  · -- then 11
    have c11 : ¬ s < 48 := by have := (nI_leI (a := 48) (b := s) (by decide) (by omega)).mp c_11; omega
    refine lv_aload_n hx hb dX2_add_27 rfl (lv_at hl 1 rfl) ?_
    refine va_get (D := (dC, dI)) (ci := 2) (v := .int (nI o)) (C := RX2) (T := TX2) (N := 11) hx hb hts (by decide +kernel) hown hK hP 0 rfl rfl 3 (by decide) (hts (.fieldLink RX2 26 "FlakyBounds$History" "oldest" "I") (by decide +kernel)) (fun _ h9 => h9) rfl dX2_add_28 ?_
    refine lv_istore_n (lv' := [(3, .int (nI o)), (0, .ref h0), (1, .int x), (2, .int (zI q))]) hx hb dX2_add_31 rfl hl (by decide) rfl (fun ls hl => ?_)
    refine lv_aload_n hx hb dX2_add_32 rfl (lv_at hl 1 rfl) ?_
    refine lv_aload_n hx hb dX2_add_33 rfl (lv_at hl 1 rfl) ?_
    refine va_get (D := (dC, dI)) (ci := 2) (v := .int (nI o)) (C := RX2) (T := TX2) (N := 11) hx hb hts (by decide +kernel) hown hK hP 0 rfl rfl 3 (by decide) (hts (.fieldLink RX2 26 "FlakyBounds$History" "oldest" "I") (by decide +kernel)) (fun _ h9 => h9) rfl dX2_add_34 ?_
    refine lv_iconst (v := 1) hx hb dX2_add_37 (by decide) ?_
    refine lv_iadd hx hb dX2_add_38 ?_
    refine fw_i (x' := nI (o + 1)) (nI_1 o) ?_
    refine lv_bipush (v := 48) hx hb dX2_add_39 (by decide) ?_
    refine lv_icmp_ge (tgt := 53) hx hb dX2_add_41 (by decide) (fun c_41 => ?_) (fun c_41 => ?_)
    · -- then 41
      have c41 : ¬ o + 1 < 48 := by have := (nI_leI (a := 48) (b := o + 1) (by decide) (by omega)).mp c_41; omega
      refine lv_iconst (v := 0) hx hb dX2_add_53 (by decide) ?_
      refine fw_i (x' := nI 0) (rfl) ?_
      refine va_put (D := (dC, dI)) (ci := 2) (v := .int (nI 0)) (ty := .int) (C := RX2) (T := TX2) (N := 11) hx hb hts (by decide +kernel) tyX2 tyX2_ok nmX2 hown hK hP hD hS 0 rfl rfl 3 (by decide) (hts (.fieldLink RX2 26 "FlakyBounds$History" "oldest" "I") (by decide +kernel)) (fun _ h9 => h9) rfl (by decide +kernel) rfl rfl (Nat.le_of_ble_eq_true rfl) dX2_add_54 (fun H locs hP hD hS => ?_)
      have hP : va_P (dC, dI) vwCl [(h0, .inr (2, [.ref ea, .ref pa, .int (nI s), .int (nI 0), .int x4, .int x5, .int x6, v7, v8, v9, v10])), (ea, .inl (cI, 48, .inl (e))), (pa, .inl (cZ, 48, .inl (fun j => zI (b j))))] H := hP
      have hD : va_D A [(h0, .inr (2, [.ref ea, .ref pa, .int (nI s), .int (nI 0), .int x4, .int x5, .int x6, v7, v8, v9, v10])), (ea, .inl (cI, 48, .inl (e))), (pa, .inl (cZ, 48, .inl (fun j => zI (b j))))] := hD
      refine lv_iload_n hx hb dX2_add_57 rfl (lv_at hl 0 rfl) ?_
      refine lv_if_lt (tgt := 81) hx hb dX2_add_58 (by decide) (fun c_58 => absurd c_58 (nI_pos (by omega))) (fun _ => ?_)
      refine lv_iload_n hx hb dX2_add_61 rfl (lv_at hl 0 rfl) ?_
      refine lv_bipush (v := 48) hx hb dX2_add_62 (by decide) ?_
      refine lv_icmp_ge (tgt := 81) hx hb dX2_add_64 (by decide) (fun c_64 => absurd c_64 (nI_ge (a := o) (b := 48) (by omega) (by decide))) (fun _ => ?_)
      refine lv_aload_n hx hb dX2_add_67 rfl (lv_at hl 1 rfl) ?_
      refine va_get (D := (dC, dI)) (ci := 2) (v := .ref ea) (C := RX2) (T := TX2) (N := 11) hx hb hts (by decide +kernel) hown hK hP 0 rfl rfl 0 (by decide) (hts (.fieldLink RX2 9 "FlakyBounds$History" "editions" "[I") (by decide +kernel)) (fun _ h9 => h9) rfl dX2_add_68 ?_
      refine lv_iload_n hx hb dX2_add_71 rfl (lv_at hl 0 rfl) ?_
      refine lv_iload_n hx hb dX2_add_72 rfl (lv_at hl 2 rfl) ?_
      refine va_iast hx hb hK hP hD hS 1 0 rfl rfl (vp_in_nI (by omega) (by decide)) dX2_add_73 (fun H locs hP hD hS => ?_)
      have e_st : upd (e) (nI o).toNatClampNeg x = upd e o x := by rw [nI_clamp (by omega)]
      rw [e_st] at hP hD
      have hP : va_P (dC, dI) vwCl [(h0, .inr (2, [.ref ea, .ref pa, .int (nI s), .int (nI 0), .int x4, .int x5, .int x6, v7, v8, v9, v10])), (ea, .inl (cI, 48, .inl (upd e o x))), (pa, .inl (cZ, 48, .inl (fun j => zI (b j))))] H := hP
      have hD : va_D A [(h0, .inr (2, [.ref ea, .ref pa, .int (nI s), .int (nI 0), .int x4, .int x5, .int x6, v7, v8, v9, v10])), (ea, .inl (cI, 48, .inl (upd e o x))), (pa, .inl (cZ, 48, .inl (fun j => zI (b j))))] := hD
      refine lv_aload_n hx hb dX2_add_74 rfl (lv_at hl 1 rfl) ?_
      refine va_get (D := (dC, dI)) (ci := 2) (v := .ref pa) (C := RX2) (T := TX2) (N := 11) hx hb hts (by decide +kernel) hown hK hP 0 rfl rfl 1 (by decide) (hts (.fieldLink RX2 15 "FlakyBounds$History" "passes" "[Z") (by decide +kernel)) (fun _ h9 => h9) rfl dX2_add_75 ?_
      refine lv_iload_n hx hb dX2_add_78 rfl (lv_at hl 0 rfl) ?_
      refine lv_iload_n hx hb dX2_add_79 rfl (lv_at hl 3 rfl) ?_
      refine va_zast hx hb hK hP hD hS 2 1 rfl rfl (vp_in_nI (by omega) (by decide)) dX2_add_80 (fun H locs hP hD hS => ?_)
      have e_st : upd (fun j => zI (b j)) (nI o).toNatClampNeg (vp_nar .boolean (zI q)) = fun j => zI (va_up b o q j) := by rw [nI_clamp (by omega)]; exact zI_st b _ q
      rw [e_st] at hP hD
      have hP : va_P (dC, dI) vwCl [(h0, .inr (2, [.ref ea, .ref pa, .int (nI s), .int (nI 0), .int x4, .int x5, .int x6, v7, v8, v9, v10])), (ea, .inl (cI, 48, .inl (upd e o x))), (pa, .inl (cZ, 48, .inl (fun j => zI (va_up b o q j))))] H := hP
      have hD : va_D A [(h0, .inr (2, [.ref ea, .ref pa, .int (nI s), .int (nI 0), .int x4, .int x5, .int x6, v7, v8, v9, v10])), (ea, .inl (cI, 48, .inl (upd e o x))), (pa, .inl (cZ, 48, .inl (fun j => zI (va_up b o q j))))] := hD
      refine lv_aload_n hx hb dX2_add_81 rfl (lv_at hl 1 rfl) ?_
      have hPc := hP.sub (ws' := [(h0, .inr (2, [.ref ea, .ref pa, .int (nI s), .int (nI 0), .int x4, .int x5, .int x6, v7, v8, v9, v10])), (ea, .inl (cI, 48, .inl (upd e o x))), (pa, .inl (cZ, 48, .inl (fun j => zI (va_up b o q j))))]) [0, 1, 2] rfl
      have hKc := hK.sub (tys' := [(cI, .int), (cZ, .boolean)]) [0, 1] rfl
      have hDc := hD.sub (ws' := [(h0, .inr (2, [.ref ea, .ref pa, .int (nI s), .int (nI 0), .int x4, .int x5, .int x6, v7, v8, v9, v10])), (ea, .inl (cI, 48, .inl (upd e o x))), (pa, .inl (cZ, 48, .inl (fun j => zI (va_up b o q j))))]) [0, 1, 2] (by decide) rfl
      have hFc := va_free (wc := [(h0, .inr (2, [.ref ea, .ref pa, .int (nI s), .int (nI 0), .int x4, .int x5, .int x6, v7, v8, v9, v10])), (ea, .inl (cI, 48, .inl (upd e o x))), (pa, .inl (cZ, 48, .inl (fun j => zI (va_up b o q j))))]) hD hS hA [0, 1, 2] rfl
      refine va_callv (va_runV (As := []) (rest := []) ⟨hx, hb, hml, hown, hts⟩ (c_his_recount l dC dI h0 ea pa cI cZ s (.int (nI 0)) x4 x5 x6 v7 v8 v9 v10 (upd e o x) (va_up b o q) H.size (by omega)) (cwV 0 hts gX2_add_X2_recount rfl rfl rfl (by decide +kernel) ⟨Nat.le_of_ble_eq_true rfl, Nat.le_of_ble_eq_true rfl⟩) (fw_preVW hN hKc hPc hDc (ci := 2) (q0 := 0) rfl rfl) rfl rfl hl.1 rfl (lv_room (Nat.le_of_ble_eq_true rfl)) dX2_add_82 ⟨Nat.le_of_ble_eq_true rfl, Nat.le_of_ble_eq_true rfl⟩) hS (fun q _ h => hFc q h) hFc (fun u zt H1 locs zht hvm hw hB hz1 hk1 hS => ?_)
      obtain ⟨⟩ := u
      obtain ⟨hP1, hK1, hD1⟩ := hB
      rw [zht] at hP1
      obtain ⟨hP, hD⟩ := va_join (wr := []) (w1 := [(h0, .inr (2, [.ref ea, .ref pa, .int (nI s), .int (nI 0), .int (nI (hv_D (upd e o x) (va_up b o q) s s)), .int (nI (hv_N (upd e o x) (va_up b o q) s s)), .int (nI (hv_X (upd e o x) (va_up b o q) s s)), v7, v8, v9, v10])), (ea, .inl (cI, 48, .inl ((upd e o x)))), (pa, .inl (cZ, 48, .inl (fun j => zI ((va_up b o q) j))))]) hP hD [0, 1, 2] [] rfl rfl (by decide) (by decide) hk1 hFc hP1 hD1
      generalize H1 = H at hP hS ⊢
      have hP : va_P (dC, dI) vwCl [(h0, .inr (2, [.ref ea, .ref pa, .int (nI s), .int (nI 0), .int (nI (hv_D (upd e o x) (va_up b o q) s s)), .int (nI (hv_N (upd e o x) (va_up b o q) s s)), .int (nI (hv_X (upd e o x) (va_up b o q) s s)), v7, v8, v9, v10])), (ea, .inl (cI, 48, .inl ((upd e o x)))), (pa, .inl (cZ, 48, .inl (fun j => zI ((va_up b o q) j))))] H := hP
      have hD : va_D A [(h0, .inr (2, [.ref ea, .ref pa, .int (nI s), .int (nI 0), .int (nI (hv_D (upd e o x) (va_up b o q) s s)), .int (nI (hv_N (upd e o x) (va_up b o q) s s)), .int (nI (hv_X (upd e o x) (va_up b o q) s s)), v7, v8, v9, v10])), (ea, .inl (cI, 48, .inl ((upd e o x)))), (pa, .inl (cZ, 48, .inl (fun j => zI ((va_up b o q) j))))] := hD
      have z1 : hv_slot s o = o := by unfold hv_slot; rw [if_neg c11]
      have z2 : hv_s s = s := by unfold hv_s; rw [if_neg c11]
      have z3 : hv_o s o = 0 := by unfold hv_o; rw [if_neg c11, if_neg c41]
      have hP : va_P (dC, dI) vwCl [(h0, .inr (2, [.ref ea, .ref pa, .int (nI (hv_s s)), .int (nI (hv_o s o)), .int (nI (hv_D (upd e (hv_slot s o) x) (va_up b (hv_slot s o) q) (hv_s s) (hv_s s))), .int (nI (hv_N (upd e (hv_slot s o) x) (va_up b (hv_slot s o) q) (hv_s s) (hv_s s))), .int (nI (hv_X (upd e (hv_slot s o) x) (va_up b (hv_slot s o) q) (hv_s s) (hv_s s))), v7, v8, v9, v10])), (ea, .inl (cI, 48, .inl ((upd e (hv_slot s o) x)))), (pa, .inl (cZ, 48, .inl (fun j => zI ((va_up b (hv_slot s o) q) j))))] H := by rw [z1, z2, z3]; exact hP
      have hD : va_D A [(h0, .inr (2, [.ref ea, .ref pa, .int (nI (hv_s s)), .int (nI (hv_o s o)), .int (nI (hv_D (upd e (hv_slot s o) x) (va_up b (hv_slot s o) q) (hv_s s) (hv_s s))), .int (nI (hv_N (upd e (hv_slot s o) x) (va_up b (hv_slot s o) q) (hv_s s) (hv_s s))), .int (nI (hv_X (upd e (hv_slot s o) x) (va_up b (hv_slot s o) q) (hv_s s) (hv_s s))), v7, v8, v9, v10])), (ea, .inl (cI, 48, .inl ((upd e (hv_slot s o) x)))), (pa, .inl (cZ, 48, .inl (fun j => zI ((va_up b (hv_slot s o) q) j))))] := by rw [z1, z2, z3]; exact hD
      have hP9 := hP.sub (ws' := [(h0, .inr (2, [.ref ea, .ref pa, .int (nI (hv_s s)), .int (nI (hv_o s o)), .int (nI (hv_D (upd e (hv_slot s o) x) (va_up b (hv_slot s o) q) (hv_s s) (hv_s s))), .int (nI (hv_N (upd e (hv_slot s o) x) (va_up b (hv_slot s o) q) (hv_s s) (hv_s s))), .int (nI (hv_X (upd e (hv_slot s o) x) (va_up b (hv_slot s o) q) (hv_s s) (hv_s s))), v7, v8, v9, v10])), (ea, .inl (cI, 48, .inl ((upd e (hv_slot s o) x)))), (pa, .inl (cZ, 48, .inl (fun j => zI ((va_up b (hv_slot s o) q) j))))]) [0, 1, 2] rfl
      have hD9 := hD.sub (ws' := [(h0, .inr (2, [.ref ea, .ref pa, .int (nI (hv_s s)), .int (nI (hv_o s o)), .int (nI (hv_D (upd e (hv_slot s o) x) (va_up b (hv_slot s o) q) (hv_s s) (hv_s s))), .int (nI (hv_N (upd e (hv_slot s o) x) (va_up b (hv_slot s o) q) (hv_s s) (hv_s s))), .int (nI (hv_X (upd e (hv_slot s o) x) (va_up b (hv_slot s o) q) (hv_s s) (hv_s s))), v7, v8, v9, v10])), (ea, .inl (cI, 48, .inl ((upd e (hv_slot s o) x)))), (pa, .inl (cZ, 48, .inl (fun j => zI ((va_up b (hv_slot s o) q) j))))]) [0, 1, 2] (by decide) rfl
      have hK9 := hK.sub (tys' := [(cI, .int), (cZ, .boolean)]) [0, 1] rfl
      exact W.vret hx hb hr (fun zt zht hW => ⟨⟨⟨⟩, rfl, trivial, by rw [zht]; exact hP9, va_K.moved hW.alike hK9, hD9⟩, hS.F zht⟩) hS.2.2 dX2_add_85 hlocks
    · -- else 41
      have c41 : o + 1 < 48 := by
        rcases Nat.lt_or_ge (o + 1) 48 with q9 | q9
        · exact q9
        · exact absurd (nI_le (a := 48) (b := o + 1) q9 (by omega)) c_41
      refine lv_aload_n hx hb dX2_add_44 rfl (lv_at hl 1 rfl) ?_
      refine va_get (D := (dC, dI)) (ci := 2) (v := .int (nI o)) (C := RX2) (T := TX2) (N := 11) hx hb hts (by decide +kernel) hown hK hP 0 rfl rfl 3 (by decide) (hts (.fieldLink RX2 26 "FlakyBounds$History" "oldest" "I") (by decide +kernel)) (fun _ h9 => h9) rfl dX2_add_45 ?_
      refine lv_iconst (v := 1) hx hb dX2_add_48 (by decide) ?_
      refine lv_iadd hx hb dX2_add_49 ?_
      refine fw_i (x' := nI (o + 1)) (nI_1 o) ?_
      refine lv_goto (tgt := 54) hx hb dX2_add_50 (by decide) ?_
      refine va_put (D := (dC, dI)) (ci := 2) (v := .int (nI (o + 1))) (ty := .int) (C := RX2) (T := TX2) (N := 11) hx hb hts (by decide +kernel) tyX2 tyX2_ok nmX2 hown hK hP hD hS 0 rfl rfl 3 (by decide) (hts (.fieldLink RX2 26 "FlakyBounds$History" "oldest" "I") (by decide +kernel)) (fun _ h9 => h9) rfl (by decide +kernel) rfl rfl (Nat.le_of_ble_eq_true rfl) dX2_add_54 (fun H locs hP hD hS => ?_)
      have hP : va_P (dC, dI) vwCl [(h0, .inr (2, [.ref ea, .ref pa, .int (nI s), .int (nI (o + 1)), .int x4, .int x5, .int x6, v7, v8, v9, v10])), (ea, .inl (cI, 48, .inl (e))), (pa, .inl (cZ, 48, .inl (fun j => zI (b j))))] H := hP
      have hD : va_D A [(h0, .inr (2, [.ref ea, .ref pa, .int (nI s), .int (nI (o + 1)), .int x4, .int x5, .int x6, v7, v8, v9, v10])), (ea, .inl (cI, 48, .inl (e))), (pa, .inl (cZ, 48, .inl (fun j => zI (b j))))] := hD
      refine lv_iload_n hx hb dX2_add_57 rfl (lv_at hl 0 rfl) ?_
      refine lv_if_lt (tgt := 81) hx hb dX2_add_58 (by decide) (fun c_58 => absurd c_58 (nI_pos (by omega))) (fun _ => ?_)
      refine lv_iload_n hx hb dX2_add_61 rfl (lv_at hl 0 rfl) ?_
      refine lv_bipush (v := 48) hx hb dX2_add_62 (by decide) ?_
      refine lv_icmp_ge (tgt := 81) hx hb dX2_add_64 (by decide) (fun c_64 => absurd c_64 (nI_ge (a := o) (b := 48) (by omega) (by decide))) (fun _ => ?_)
      refine lv_aload_n hx hb dX2_add_67 rfl (lv_at hl 1 rfl) ?_
      refine va_get (D := (dC, dI)) (ci := 2) (v := .ref ea) (C := RX2) (T := TX2) (N := 11) hx hb hts (by decide +kernel) hown hK hP 0 rfl rfl 0 (by decide) (hts (.fieldLink RX2 9 "FlakyBounds$History" "editions" "[I") (by decide +kernel)) (fun _ h9 => h9) rfl dX2_add_68 ?_
      refine lv_iload_n hx hb dX2_add_71 rfl (lv_at hl 0 rfl) ?_
      refine lv_iload_n hx hb dX2_add_72 rfl (lv_at hl 2 rfl) ?_
      refine va_iast hx hb hK hP hD hS 1 0 rfl rfl (vp_in_nI (by omega) (by decide)) dX2_add_73 (fun H locs hP hD hS => ?_)
      have e_st : upd (e) (nI o).toNatClampNeg x = upd e o x := by rw [nI_clamp (by omega)]
      rw [e_st] at hP hD
      have hP : va_P (dC, dI) vwCl [(h0, .inr (2, [.ref ea, .ref pa, .int (nI s), .int (nI (o + 1)), .int x4, .int x5, .int x6, v7, v8, v9, v10])), (ea, .inl (cI, 48, .inl (upd e o x))), (pa, .inl (cZ, 48, .inl (fun j => zI (b j))))] H := hP
      have hD : va_D A [(h0, .inr (2, [.ref ea, .ref pa, .int (nI s), .int (nI (o + 1)), .int x4, .int x5, .int x6, v7, v8, v9, v10])), (ea, .inl (cI, 48, .inl (upd e o x))), (pa, .inl (cZ, 48, .inl (fun j => zI (b j))))] := hD
      refine lv_aload_n hx hb dX2_add_74 rfl (lv_at hl 1 rfl) ?_
      refine va_get (D := (dC, dI)) (ci := 2) (v := .ref pa) (C := RX2) (T := TX2) (N := 11) hx hb hts (by decide +kernel) hown hK hP 0 rfl rfl 1 (by decide) (hts (.fieldLink RX2 15 "FlakyBounds$History" "passes" "[Z") (by decide +kernel)) (fun _ h9 => h9) rfl dX2_add_75 ?_
      refine lv_iload_n hx hb dX2_add_78 rfl (lv_at hl 0 rfl) ?_
      refine lv_iload_n hx hb dX2_add_79 rfl (lv_at hl 3 rfl) ?_
      refine va_zast hx hb hK hP hD hS 2 1 rfl rfl (vp_in_nI (by omega) (by decide)) dX2_add_80 (fun H locs hP hD hS => ?_)
      have e_st : upd (fun j => zI (b j)) (nI o).toNatClampNeg (vp_nar .boolean (zI q)) = fun j => zI (va_up b o q j) := by rw [nI_clamp (by omega)]; exact zI_st b _ q
      rw [e_st] at hP hD
      have hP : va_P (dC, dI) vwCl [(h0, .inr (2, [.ref ea, .ref pa, .int (nI s), .int (nI (o + 1)), .int x4, .int x5, .int x6, v7, v8, v9, v10])), (ea, .inl (cI, 48, .inl (upd e o x))), (pa, .inl (cZ, 48, .inl (fun j => zI (va_up b o q j))))] H := hP
      have hD : va_D A [(h0, .inr (2, [.ref ea, .ref pa, .int (nI s), .int (nI (o + 1)), .int x4, .int x5, .int x6, v7, v8, v9, v10])), (ea, .inl (cI, 48, .inl (upd e o x))), (pa, .inl (cZ, 48, .inl (fun j => zI (va_up b o q j))))] := hD
      refine lv_aload_n hx hb dX2_add_81 rfl (lv_at hl 1 rfl) ?_
      have hPc := hP.sub (ws' := [(h0, .inr (2, [.ref ea, .ref pa, .int (nI s), .int (nI (o + 1)), .int x4, .int x5, .int x6, v7, v8, v9, v10])), (ea, .inl (cI, 48, .inl (upd e o x))), (pa, .inl (cZ, 48, .inl (fun j => zI (va_up b o q j))))]) [0, 1, 2] rfl
      have hKc := hK.sub (tys' := [(cI, .int), (cZ, .boolean)]) [0, 1] rfl
      have hDc := hD.sub (ws' := [(h0, .inr (2, [.ref ea, .ref pa, .int (nI s), .int (nI (o + 1)), .int x4, .int x5, .int x6, v7, v8, v9, v10])), (ea, .inl (cI, 48, .inl (upd e o x))), (pa, .inl (cZ, 48, .inl (fun j => zI (va_up b o q j))))]) [0, 1, 2] (by decide) rfl
      have hFc := va_free (wc := [(h0, .inr (2, [.ref ea, .ref pa, .int (nI s), .int (nI (o + 1)), .int x4, .int x5, .int x6, v7, v8, v9, v10])), (ea, .inl (cI, 48, .inl (upd e o x))), (pa, .inl (cZ, 48, .inl (fun j => zI (va_up b o q j))))]) hD hS hA [0, 1, 2] rfl
      refine va_callv (va_runV (As := []) (rest := []) ⟨hx, hb, hml, hown, hts⟩ (c_his_recount l dC dI h0 ea pa cI cZ s (.int (nI (o + 1))) x4 x5 x6 v7 v8 v9 v10 (upd e o x) (va_up b o q) H.size (by omega)) (cwV 0 hts gX2_add_X2_recount rfl rfl rfl (by decide +kernel) ⟨Nat.le_of_ble_eq_true rfl, Nat.le_of_ble_eq_true rfl⟩) (fw_preVW hN hKc hPc hDc (ci := 2) (q0 := 0) rfl rfl) rfl rfl hl.1 rfl (lv_room (Nat.le_of_ble_eq_true rfl)) dX2_add_82 ⟨Nat.le_of_ble_eq_true rfl, Nat.le_of_ble_eq_true rfl⟩) hS (fun q _ h => hFc q h) hFc (fun u zt H1 locs zht hvm hw hB hz1 hk1 hS => ?_)
      obtain ⟨⟩ := u
      obtain ⟨hP1, hK1, hD1⟩ := hB
      rw [zht] at hP1
      obtain ⟨hP, hD⟩ := va_join (wr := []) (w1 := [(h0, .inr (2, [.ref ea, .ref pa, .int (nI s), .int (nI (o + 1)), .int (nI (hv_D (upd e o x) (va_up b o q) s s)), .int (nI (hv_N (upd e o x) (va_up b o q) s s)), .int (nI (hv_X (upd e o x) (va_up b o q) s s)), v7, v8, v9, v10])), (ea, .inl (cI, 48, .inl ((upd e o x)))), (pa, .inl (cZ, 48, .inl (fun j => zI ((va_up b o q) j))))]) hP hD [0, 1, 2] [] rfl rfl (by decide) (by decide) hk1 hFc hP1 hD1
      generalize H1 = H at hP hS ⊢
      have hP : va_P (dC, dI) vwCl [(h0, .inr (2, [.ref ea, .ref pa, .int (nI s), .int (nI (o + 1)), .int (nI (hv_D (upd e o x) (va_up b o q) s s)), .int (nI (hv_N (upd e o x) (va_up b o q) s s)), .int (nI (hv_X (upd e o x) (va_up b o q) s s)), v7, v8, v9, v10])), (ea, .inl (cI, 48, .inl ((upd e o x)))), (pa, .inl (cZ, 48, .inl (fun j => zI ((va_up b o q) j))))] H := hP
      have hD : va_D A [(h0, .inr (2, [.ref ea, .ref pa, .int (nI s), .int (nI (o + 1)), .int (nI (hv_D (upd e o x) (va_up b o q) s s)), .int (nI (hv_N (upd e o x) (va_up b o q) s s)), .int (nI (hv_X (upd e o x) (va_up b o q) s s)), v7, v8, v9, v10])), (ea, .inl (cI, 48, .inl ((upd e o x)))), (pa, .inl (cZ, 48, .inl (fun j => zI ((va_up b o q) j))))] := hD
      have z1 : hv_slot s o = o := by unfold hv_slot; rw [if_neg c11]
      have z2 : hv_s s = s := by unfold hv_s; rw [if_neg c11]
      have z3 : hv_o s o = (o + 1) := by unfold hv_o; rw [if_neg c11, if_pos c41]
      have hP : va_P (dC, dI) vwCl [(h0, .inr (2, [.ref ea, .ref pa, .int (nI (hv_s s)), .int (nI (hv_o s o)), .int (nI (hv_D (upd e (hv_slot s o) x) (va_up b (hv_slot s o) q) (hv_s s) (hv_s s))), .int (nI (hv_N (upd e (hv_slot s o) x) (va_up b (hv_slot s o) q) (hv_s s) (hv_s s))), .int (nI (hv_X (upd e (hv_slot s o) x) (va_up b (hv_slot s o) q) (hv_s s) (hv_s s))), v7, v8, v9, v10])), (ea, .inl (cI, 48, .inl ((upd e (hv_slot s o) x)))), (pa, .inl (cZ, 48, .inl (fun j => zI ((va_up b (hv_slot s o) q) j))))] H := by rw [z1, z2, z3]; exact hP
      have hD : va_D A [(h0, .inr (2, [.ref ea, .ref pa, .int (nI (hv_s s)), .int (nI (hv_o s o)), .int (nI (hv_D (upd e (hv_slot s o) x) (va_up b (hv_slot s o) q) (hv_s s) (hv_s s))), .int (nI (hv_N (upd e (hv_slot s o) x) (va_up b (hv_slot s o) q) (hv_s s) (hv_s s))), .int (nI (hv_X (upd e (hv_slot s o) x) (va_up b (hv_slot s o) q) (hv_s s) (hv_s s))), v7, v8, v9, v10])), (ea, .inl (cI, 48, .inl ((upd e (hv_slot s o) x)))), (pa, .inl (cZ, 48, .inl (fun j => zI ((va_up b (hv_slot s o) q) j))))] := by rw [z1, z2, z3]; exact hD
      have hP9 := hP.sub (ws' := [(h0, .inr (2, [.ref ea, .ref pa, .int (nI (hv_s s)), .int (nI (hv_o s o)), .int (nI (hv_D (upd e (hv_slot s o) x) (va_up b (hv_slot s o) q) (hv_s s) (hv_s s))), .int (nI (hv_N (upd e (hv_slot s o) x) (va_up b (hv_slot s o) q) (hv_s s) (hv_s s))), .int (nI (hv_X (upd e (hv_slot s o) x) (va_up b (hv_slot s o) q) (hv_s s) (hv_s s))), v7, v8, v9, v10])), (ea, .inl (cI, 48, .inl ((upd e (hv_slot s o) x)))), (pa, .inl (cZ, 48, .inl (fun j => zI ((va_up b (hv_slot s o) q) j))))]) [0, 1, 2] rfl
      have hD9 := hD.sub (ws' := [(h0, .inr (2, [.ref ea, .ref pa, .int (nI (hv_s s)), .int (nI (hv_o s o)), .int (nI (hv_D (upd e (hv_slot s o) x) (va_up b (hv_slot s o) q) (hv_s s) (hv_s s))), .int (nI (hv_N (upd e (hv_slot s o) x) (va_up b (hv_slot s o) q) (hv_s s) (hv_s s))), .int (nI (hv_X (upd e (hv_slot s o) x) (va_up b (hv_slot s o) q) (hv_s s) (hv_s s))), v7, v8, v9, v10])), (ea, .inl (cI, 48, .inl ((upd e (hv_slot s o) x)))), (pa, .inl (cZ, 48, .inl (fun j => zI ((va_up b (hv_slot s o) q) j))))]) [0, 1, 2] (by decide) rfl
      have hK9 := hK.sub (tys' := [(cI, .int), (cZ, .boolean)]) [0, 1] rfl
      exact W.vret hx hb hr (fun zt zht hW => ⟨⟨⟨⟩, rfl, trivial, by rw [zht]; exact hP9, va_K.moved hW.alike hK9, hD9⟩, hS.F zht⟩) hS.2.2 dX2_add_85 hlocks
  · -- else 11
    have c11 : s < 48 := by
      rcases Nat.lt_or_ge s 48 with q9 | q9
      · exact q9
      · exact absurd (nI_le (a := 48) (b := s) q9 (by omega)) c_11
    refine lv_aload_n hx hb dX2_add_14 rfl (lv_at hl 1 rfl) ?_
    refine lv_dup hx hb dX2_add_15 rfl ?_
    refine va_get (D := (dC, dI)) (ci := 2) (v := .int (nI s)) (C := RX2) (T := TX2) (N := 11) hx hb hts (by decide +kernel) hown hK hP 0 rfl rfl 2 (by decide) (hts (.fieldLink RX2 23 "FlakyBounds$History" "size" "I") (by decide +kernel)) (fun _ h9 => h9) rfl dX2_add_16 ?_
    refine lv_iconst (v := 1) hx hb dX2_add_19 (by decide) ?_
    refine lv_iadd hx hb dX2_add_20 ?_
    refine fw_i (x' := nI (s + 1)) (nI_1 s) ?_
    refine va_put (D := (dC, dI)) (ci := 2) (v := .int (nI (s + 1))) (ty := .int) (C := RX2) (T := TX2) (N := 11) hx hb hts (by decide +kernel) tyX2 tyX2_ok nmX2 hown hK hP hD hS 0 rfl rfl 2 (by decide) (hts (.fieldLink RX2 23 "FlakyBounds$History" "size" "I") (by decide +kernel)) (fun _ h9 => h9) rfl (by decide +kernel) rfl rfl (Nat.le_of_ble_eq_true rfl) dX2_add_21 (fun H locs hP hD hS => ?_)
    have hP : va_P (dC, dI) vwCl [(h0, .inr (2, [.ref ea, .ref pa, .int (nI (s + 1)), .int (nI o), .int x4, .int x5, .int x6, v7, v8, v9, v10])), (ea, .inl (cI, 48, .inl (e))), (pa, .inl (cZ, 48, .inl (fun j => zI (b j))))] H := hP
    have hD : va_D A [(h0, .inr (2, [.ref ea, .ref pa, .int (nI (s + 1)), .int (nI o), .int x4, .int x5, .int x6, v7, v8, v9, v10])), (ea, .inl (cI, 48, .inl (e))), (pa, .inl (cZ, 48, .inl (fun j => zI (b j))))] := hD
    refine lv_goto (tgt := 57) hx hb dX2_add_24 (by decide) ?_
    refine lv_iload_n hx hb dX2_add_57 rfl (lv_at hl 0 rfl) ?_
    refine lv_if_lt (tgt := 81) hx hb dX2_add_58 (by decide) (fun c_58 => absurd c_58 (nI_pos (by omega))) (fun _ => ?_)
    refine lv_iload_n hx hb dX2_add_61 rfl (lv_at hl 0 rfl) ?_
    refine lv_bipush (v := 48) hx hb dX2_add_62 (by decide) ?_
    refine lv_icmp_ge (tgt := 81) hx hb dX2_add_64 (by decide) (fun c_64 => absurd c_64 (nI_ge (a := s) (b := 48) (by omega) (by decide))) (fun _ => ?_)
    refine lv_aload_n hx hb dX2_add_67 rfl (lv_at hl 1 rfl) ?_
    refine va_get (D := (dC, dI)) (ci := 2) (v := .ref ea) (C := RX2) (T := TX2) (N := 11) hx hb hts (by decide +kernel) hown hK hP 0 rfl rfl 0 (by decide) (hts (.fieldLink RX2 9 "FlakyBounds$History" "editions" "[I") (by decide +kernel)) (fun _ h9 => h9) rfl dX2_add_68 ?_
    refine lv_iload_n hx hb dX2_add_71 rfl (lv_at hl 0 rfl) ?_
    refine lv_iload_n hx hb dX2_add_72 rfl (lv_at hl 2 rfl) ?_
    refine va_iast hx hb hK hP hD hS 1 0 rfl rfl (vp_in_nI (by omega) (by decide)) dX2_add_73 (fun H locs hP hD hS => ?_)
    have e_st : upd (e) (nI s).toNatClampNeg x = upd e s x := by rw [nI_clamp (by omega)]
    rw [e_st] at hP hD
    have hP : va_P (dC, dI) vwCl [(h0, .inr (2, [.ref ea, .ref pa, .int (nI (s + 1)), .int (nI o), .int x4, .int x5, .int x6, v7, v8, v9, v10])), (ea, .inl (cI, 48, .inl (upd e s x))), (pa, .inl (cZ, 48, .inl (fun j => zI (b j))))] H := hP
    have hD : va_D A [(h0, .inr (2, [.ref ea, .ref pa, .int (nI (s + 1)), .int (nI o), .int x4, .int x5, .int x6, v7, v8, v9, v10])), (ea, .inl (cI, 48, .inl (upd e s x))), (pa, .inl (cZ, 48, .inl (fun j => zI (b j))))] := hD
    refine lv_aload_n hx hb dX2_add_74 rfl (lv_at hl 1 rfl) ?_
    refine va_get (D := (dC, dI)) (ci := 2) (v := .ref pa) (C := RX2) (T := TX2) (N := 11) hx hb hts (by decide +kernel) hown hK hP 0 rfl rfl 1 (by decide) (hts (.fieldLink RX2 15 "FlakyBounds$History" "passes" "[Z") (by decide +kernel)) (fun _ h9 => h9) rfl dX2_add_75 ?_
    refine lv_iload_n hx hb dX2_add_78 rfl (lv_at hl 0 rfl) ?_
    refine lv_iload_n hx hb dX2_add_79 rfl (lv_at hl 3 rfl) ?_
    refine va_zast hx hb hK hP hD hS 2 1 rfl rfl (vp_in_nI (by omega) (by decide)) dX2_add_80 (fun H locs hP hD hS => ?_)
    have e_st : upd (fun j => zI (b j)) (nI s).toNatClampNeg (vp_nar .boolean (zI q)) = fun j => zI (va_up b s q j) := by rw [nI_clamp (by omega)]; exact zI_st b _ q
    rw [e_st] at hP hD
    have hP : va_P (dC, dI) vwCl [(h0, .inr (2, [.ref ea, .ref pa, .int (nI (s + 1)), .int (nI o), .int x4, .int x5, .int x6, v7, v8, v9, v10])), (ea, .inl (cI, 48, .inl (upd e s x))), (pa, .inl (cZ, 48, .inl (fun j => zI (va_up b s q j))))] H := hP
    have hD : va_D A [(h0, .inr (2, [.ref ea, .ref pa, .int (nI (s + 1)), .int (nI o), .int x4, .int x5, .int x6, v7, v8, v9, v10])), (ea, .inl (cI, 48, .inl (upd e s x))), (pa, .inl (cZ, 48, .inl (fun j => zI (va_up b s q j))))] := hD
    refine lv_aload_n hx hb dX2_add_81 rfl (lv_at hl 1 rfl) ?_
    have hPc := hP.sub (ws' := [(h0, .inr (2, [.ref ea, .ref pa, .int (nI (s + 1)), .int (nI o), .int x4, .int x5, .int x6, v7, v8, v9, v10])), (ea, .inl (cI, 48, .inl (upd e s x))), (pa, .inl (cZ, 48, .inl (fun j => zI (va_up b s q j))))]) [0, 1, 2] rfl
    have hKc := hK.sub (tys' := [(cI, .int), (cZ, .boolean)]) [0, 1] rfl
    have hDc := hD.sub (ws' := [(h0, .inr (2, [.ref ea, .ref pa, .int (nI (s + 1)), .int (nI o), .int x4, .int x5, .int x6, v7, v8, v9, v10])), (ea, .inl (cI, 48, .inl (upd e s x))), (pa, .inl (cZ, 48, .inl (fun j => zI (va_up b s q j))))]) [0, 1, 2] (by decide) rfl
    have hFc := va_free (wc := [(h0, .inr (2, [.ref ea, .ref pa, .int (nI (s + 1)), .int (nI o), .int x4, .int x5, .int x6, v7, v8, v9, v10])), (ea, .inl (cI, 48, .inl (upd e s x))), (pa, .inl (cZ, 48, .inl (fun j => zI (va_up b s q j))))]) hD hS hA [0, 1, 2] rfl
    refine va_callv (va_runV (As := []) (rest := []) ⟨hx, hb, hml, hown, hts⟩ (c_his_recount l dC dI h0 ea pa cI cZ (s + 1) (.int (nI o)) x4 x5 x6 v7 v8 v9 v10 (upd e s x) (va_up b s q) H.size (by omega)) (cwV 0 hts gX2_add_X2_recount rfl rfl rfl (by decide +kernel) ⟨Nat.le_of_ble_eq_true rfl, Nat.le_of_ble_eq_true rfl⟩) (fw_preVW hN hKc hPc hDc (ci := 2) (q0 := 0) rfl rfl) rfl rfl hl.1 rfl (lv_room (Nat.le_of_ble_eq_true rfl)) dX2_add_82 ⟨Nat.le_of_ble_eq_true rfl, Nat.le_of_ble_eq_true rfl⟩) hS (fun q _ h => hFc q h) hFc (fun u zt H1 locs zht hvm hw hB hz1 hk1 hS => ?_)
    obtain ⟨⟩ := u
    obtain ⟨hP1, hK1, hD1⟩ := hB
    rw [zht] at hP1
    obtain ⟨hP, hD⟩ := va_join (wr := []) (w1 := [(h0, .inr (2, [.ref ea, .ref pa, .int (nI (s + 1)), .int (nI o), .int (nI (hv_D (upd e s x) (va_up b s q) (s + 1) (s + 1))), .int (nI (hv_N (upd e s x) (va_up b s q) (s + 1) (s + 1))), .int (nI (hv_X (upd e s x) (va_up b s q) (s + 1) (s + 1))), v7, v8, v9, v10])), (ea, .inl (cI, 48, .inl ((upd e s x)))), (pa, .inl (cZ, 48, .inl (fun j => zI ((va_up b s q) j))))]) hP hD [0, 1, 2] [] rfl rfl (by decide) (by decide) hk1 hFc hP1 hD1
    generalize H1 = H at hP hS ⊢
    have hP : va_P (dC, dI) vwCl [(h0, .inr (2, [.ref ea, .ref pa, .int (nI (s + 1)), .int (nI o), .int (nI (hv_D (upd e s x) (va_up b s q) (s + 1) (s + 1))), .int (nI (hv_N (upd e s x) (va_up b s q) (s + 1) (s + 1))), .int (nI (hv_X (upd e s x) (va_up b s q) (s + 1) (s + 1))), v7, v8, v9, v10])), (ea, .inl (cI, 48, .inl ((upd e s x)))), (pa, .inl (cZ, 48, .inl (fun j => zI ((va_up b s q) j))))] H := hP
    have hD : va_D A [(h0, .inr (2, [.ref ea, .ref pa, .int (nI (s + 1)), .int (nI o), .int (nI (hv_D (upd e s x) (va_up b s q) (s + 1) (s + 1))), .int (nI (hv_N (upd e s x) (va_up b s q) (s + 1) (s + 1))), .int (nI (hv_X (upd e s x) (va_up b s q) (s + 1) (s + 1))), v7, v8, v9, v10])), (ea, .inl (cI, 48, .inl ((upd e s x)))), (pa, .inl (cZ, 48, .inl (fun j => zI ((va_up b s q) j))))] := hD
    have z1 : hv_slot s o = s := by unfold hv_slot; rw [if_pos c11]
    have z2 : hv_s s = (s + 1) := by unfold hv_s; rw [if_pos c11]
    have z3 : hv_o s o = o := by unfold hv_o; rw [if_pos c11]
    have hP : va_P (dC, dI) vwCl [(h0, .inr (2, [.ref ea, .ref pa, .int (nI (hv_s s)), .int (nI (hv_o s o)), .int (nI (hv_D (upd e (hv_slot s o) x) (va_up b (hv_slot s o) q) (hv_s s) (hv_s s))), .int (nI (hv_N (upd e (hv_slot s o) x) (va_up b (hv_slot s o) q) (hv_s s) (hv_s s))), .int (nI (hv_X (upd e (hv_slot s o) x) (va_up b (hv_slot s o) q) (hv_s s) (hv_s s))), v7, v8, v9, v10])), (ea, .inl (cI, 48, .inl ((upd e (hv_slot s o) x)))), (pa, .inl (cZ, 48, .inl (fun j => zI ((va_up b (hv_slot s o) q) j))))] H := by rw [z1, z2, z3]; exact hP
    have hD : va_D A [(h0, .inr (2, [.ref ea, .ref pa, .int (nI (hv_s s)), .int (nI (hv_o s o)), .int (nI (hv_D (upd e (hv_slot s o) x) (va_up b (hv_slot s o) q) (hv_s s) (hv_s s))), .int (nI (hv_N (upd e (hv_slot s o) x) (va_up b (hv_slot s o) q) (hv_s s) (hv_s s))), .int (nI (hv_X (upd e (hv_slot s o) x) (va_up b (hv_slot s o) q) (hv_s s) (hv_s s))), v7, v8, v9, v10])), (ea, .inl (cI, 48, .inl ((upd e (hv_slot s o) x)))), (pa, .inl (cZ, 48, .inl (fun j => zI ((va_up b (hv_slot s o) q) j))))] := by rw [z1, z2, z3]; exact hD
    have hP9 := hP.sub (ws' := [(h0, .inr (2, [.ref ea, .ref pa, .int (nI (hv_s s)), .int (nI (hv_o s o)), .int (nI (hv_D (upd e (hv_slot s o) x) (va_up b (hv_slot s o) q) (hv_s s) (hv_s s))), .int (nI (hv_N (upd e (hv_slot s o) x) (va_up b (hv_slot s o) q) (hv_s s) (hv_s s))), .int (nI (hv_X (upd e (hv_slot s o) x) (va_up b (hv_slot s o) q) (hv_s s) (hv_s s))), v7, v8, v9, v10])), (ea, .inl (cI, 48, .inl ((upd e (hv_slot s o) x)))), (pa, .inl (cZ, 48, .inl (fun j => zI ((va_up b (hv_slot s o) q) j))))]) [0, 1, 2] rfl
    have hD9 := hD.sub (ws' := [(h0, .inr (2, [.ref ea, .ref pa, .int (nI (hv_s s)), .int (nI (hv_o s o)), .int (nI (hv_D (upd e (hv_slot s o) x) (va_up b (hv_slot s o) q) (hv_s s) (hv_s s))), .int (nI (hv_N (upd e (hv_slot s o) x) (va_up b (hv_slot s o) q) (hv_s s) (hv_s s))), .int (nI (hv_X (upd e (hv_slot s o) x) (va_up b (hv_slot s o) q) (hv_s s) (hv_s s))), v7, v8, v9, v10])), (ea, .inl (cI, 48, .inl ((upd e (hv_slot s o) x)))), (pa, .inl (cZ, 48, .inl (fun j => zI ((va_up b (hv_slot s o) q) j))))]) [0, 1, 2] (by decide) rfl
    have hK9 := hK.sub (tys' := [(cI, .int), (cZ, .boolean)]) [0, 1] rfl
    exact W.vret hx hb hr (fun zt zht hW => ⟨⟨⟨⟩, rfl, trivial, by rw [zht]; exact hP9, va_K.moved hW.alike hK9, hD9⟩, hS.F zht⟩) hS.2.2 dX2_add_85 hlocks
end
section
/-! FLAKYBOUNDS: what its methods answer, without the machine -/
def fv_ed (x : Int32) : Bool := !decide (x < 0) && !decide (1000 ≤ x)
def fv_lv (x : Int32) : Bool := !decide (x < 1) && !decide (1000 ≤ x)
def fv_sh (x : Int32) : Bool := !decide (x < 0) && !decide (1000 < x)
theorem fv_ed_iff {x : Int32} (h : fv_ed x = true) : ∃ j : Nat, j < 1000 ∧ x = nI j := by
  unfold fv_ed at h
  simp only [Bool.and_eq_true, Bool.not_eq_true', decide_eq_false_iff_not] at h
  rcases pk_ix x (n := 1000) (by decide) with q | q | q
  · exact absurd q h.1
  · exact absurd q h.2
  · exact q
theorem fv_lv_iff {x : Int32} (h : fv_lv x = true) : ∃ j : Nat, 1 ≤ j ∧ j ≤ 999 ∧ x = nI j := by
  unfold fv_lv at h
  simp only [Bool.and_eq_true, Bool.not_eq_true', decide_eq_false_iff_not] at h
  rcases pk_ix x (n := 1000) (by decide) with q | q | ⟨j, hj, rfl⟩
  · have h0 := h.1
    have : x < 1 := by
      rw [Int32.lt_iff_toInt_lt] at *
      have e0 : (0 : Int32).toInt = 0 := by decide
      have e1 : (1 : Int32).toInt = 1 := by decide
      omega
    exact absurd this h0
  · exact absurd q h.2
  · refine ⟨j, ?_, by omega, rfl⟩
    rcases Nat.eq_zero_or_pos j with z | z
    · subst z
      exact absurd (by decide) h.1
    · exact z
theorem fv_sh_iff {x : Int32} (h : fv_sh x = true) : ∃ j : Nat, j ≤ 1000 ∧ x = nI j := by
  unfold fv_sh at h
  simp only [Bool.and_eq_true, Bool.not_eq_true', decide_eq_false_iff_not] at h
  rcases pk_ix x (n := 1001) (by decide) with q | q | ⟨j, hj, rfl⟩
  · exact absurd q h.1
  · have : 1000 < x := by
      rw [Int32.le_iff_toInt_le] at q
      rw [Int32.lt_iff_toInt_lt]
      have e0 : (nI 1001).toInt = 1001 := by decide
      have e1 : (1000 : Int32).toInt = 1000 := by decide
      omega
    exact absurd this h.2
  · exact ⟨j, by omega, rfl⟩
/-- no such test -/
def fv_no (n : Nat) (x : Int32) : Prop := x < 0 ∨ nI n ≤ x
theorem fv_no_or (n : Nat) (hn : n < 2 ^ 31) (x : Int32) : fv_no n x ∨ ∃ i : Nat, i < n ∧ x = nI i := by
  rcases pk_ix x hn with q | q | q
  · exact Or.inl (Or.inl q)
  · exact Or.inl (Or.inr q)
  · exact Or.inr q
def ab_v (s d n x : Nat) (mk : Bool) (tm : Nat) (w : Int32) : Int32 :=
  if w = 0 then nI s else if w = 1 then nI d else if w = 2 then nI n else if w = 3 then nI x else if w = 4 then zI mk else if w = 5 then nI tm else -1
theorem ab_cases (w : Int32) : w = 0 ∨ w = 1 ∨ w = 2 ∨ w = 3 ∨ w = 4 ∨ w = 5 ∨ ((w.toInt < 0 ∨ 5 < w.toInt) ∧ ∀ a b c d e f : Int32, (if w = 0 then a else if w = 1 then b else if w = 2 then c else if w = 3 then d else if w = 4 then e else if w = 5 then f else -1) = -1) := by
  rcases pk_ix w (n := 6) (by decide) with q | q | ⟨j, hj, rfl⟩
  · refine Or.inr (Or.inr (Or.inr (Or.inr (Or.inr (Or.inr ⟨Or.inl ?_, ?_⟩)))))
    · rw [Int32.lt_iff_toInt_lt] at q
      exact q
    · intro a b c d e f
      have : ∀ k : Nat, k < 6 → ¬ w = nI k := fun k hk h => by
        rw [h] at q
        exact nI_pos (by omega) q
      rw [if_neg (show ¬ w = 0 from this 0 (by decide)), if_neg (show ¬ w = 1 from this 1 (by decide)), if_neg (show ¬ w = 2 from this 2 (by decide)), if_neg (show ¬ w = 3 from this 3 (by decide)), if_neg (show ¬ w = 4 from this 4 (by decide)), if_neg (show ¬ w = 5 from this 5 (by decide))]
  · refine Or.inr (Or.inr (Or.inr (Or.inr (Or.inr (Or.inr ⟨Or.inr ?_, ?_⟩)))))
    · rw [Int32.le_iff_toInt_le] at q
      have e0 : (nI 6).toInt = 6 := by decide
      omega
    · intro a b c d e f
      have : ∀ k : Nat, k < 6 → ¬ w = nI k := fun k hk h => by
        rw [h] at q
        exact nI_ge hk (by decide) q
      rw [if_neg (show ¬ w = 0 from this 0 (by decide)), if_neg (show ¬ w = 1 from this 1 (by decide)), if_neg (show ¬ w = 2 from this 2 (by decide)), if_neg (show ¬ w = 3 from this 3 (by decide)), if_neg (show ¬ w = 4 from this 4 (by decide)), if_neg (show ¬ w = 5 from this 5 (by decide))]
  · have : j = 0 ∨ j = 1 ∨ j = 2 ∨ j = 3 ∨ j = 4 ∨ j = 5 := by omega
    rcases this with rfl | rfl | rfl | rfl | rfl | rfl
    · exact Or.inl rfl
    · exact Or.inr (Or.inl rfl)
    · exact Or.inr (Or.inr (Or.inl rfl))
    · exact Or.inr (Or.inr (Or.inr (Or.inl rfl)))
    · exact Or.inr (Or.inr (Or.inr (Or.inr (Or.inl rfl))))
    · exact Or.inr (Or.inr (Or.inr (Or.inr (Or.inr (Or.inl rfl)))))
/-- marks behind a run: n, x are those of the runs that count now -/
def tk_m (mk : Bool) (n x lv mr cr : Nat) : Bool := if mk = true then pv_above n x cr lv else !pv_above n (n - x) (1000 - mr) lv
def tk_t (mk : Bool) (tm n x lv mr : Nat) : Nat := if mk = true then tm else if pv_above n (n - x) (1000 - mr) lv = true then tm else tm + 1
/-- the greatest j so that the sum is above the level -/
def gv_is (n m lv J : Nat) : Prop := J ≤ 1000 ∧ ∀ j, j ≤ 1000 → (pv_above n m j lv = true ↔ j ≤ J)
theorem gv_uniq {n m lv J K : Nat} (h : gv_is n m lv J) (g : gv_is n m lv K) : J = K := by
  have h1 := (g.2 J h.1).mp ((h.2 J h.1).mpr (Nat.le_refl J))
  have h2 := (h.2 K g.1).mp ((g.2 K g.1).mpr (Nat.le_refl K))
  omega
theorem gv_end {n m lv j : Nat} (hj : j ≤ 1000) (ha : pv_above n m j lv = true) (hb : ∀ i, j + 1 ≤ i → i ≤ 1000 → pv_above n m i lv = false) : gv_is n m lv j := by
  refine ⟨hj, fun i hi => ⟨fun h => ?_, fun h => pv_above_anti h hj ha⟩⟩
  rcases Nat.lt_or_ge j i with q | q
  · rw [hb i q hi] at h
    cases h
  · exact q
theorem gv_half (p : Nat) : 2 ^ (p + 1) / 2 = 2 ^ p := by
  rw [Nat.pow_succ]
  omega
theorem gv_no {n m lv j k : Nat} (hk : k ≤ 1000) (h : pv_above n m k lv = false) (hj : k ≤ j) (hj2 : j ≤ 1000) : pv_above n m j lv = false := by
  cases hc : pv_above n m j lv with
  | false => rfl
  | true =>
    rw [pv_above_anti hj hj2 hc] at h
    cases h
theorem fv_lv_nI {j : Nat} (h1 : 1 ≤ j) (h9 : j ≤ 999) : fv_lv (nI j) = true := by
  unfold fv_lv
  rw [decide_eq_false (show ¬ nI j < 1 from nI_nlt (a := j) (b := 1) h1 (by omega)), decide_eq_false (show ¬ 1000 ≤ nI j from nI_ge (a := j) (b := 1000) (by omega) (by decide))]
  rfl
theorem fv_sh_nI {j : Nat} (h : j ≤ 1000) : fv_sh (nI j) = true := by
  unfold fv_sh
  rw [decide_eq_false (nI_pos (by omega)), decide_eq_false (show ¬ 1000 < nI j from nI_nlt (a := 1000) (b := j) h (by decide))]
  rfl
theorem fv_ed_nI {j : Nat} (h : j < 1000) : fv_ed (nI j) = true := by
  unfold fv_ed
  rw [decide_eq_false (nI_pos (by omega)), decide_eq_false (show ¬ 1000 ≤ nI j from nI_ge (a := j) (b := 1000) h (by decide))]
  rfl
theorem pm_le16 {n m h : Nat} (hn : n ≤ 48) (hh : h ≤ 1000) : pm_G n h n m * 1000 ^ (48 - n) ≤ 1000000000 ^ 16 := by
  have h1 := Nat.mul_le_mul_right (1000 ^ (48 - n)) (pm_P_le n m h hh)
  rw [← Nat.pow_add, show n + (48 - n) = 48 by omega] at h1
  exact Nat.le_trans h1 (by decide +kernel)
end
section
set_option maxHeartbeats 4000000 in
set_option maxRecDepth 100000 in
theorem c_fla_find_no (l : Launch) (dC : Nat → ClassId) (dI : Nat → Nat → Nat) (f0 hs : Nat) (cH : ClassId) (v1 v3 v4 v5 : Value) (n : Nat) (hf : Nat → Option Nat) (x : Int32) (hn12 : n ≤ 12) (hno : fv_no n x) : Met l yX3_find wsX3_find ({ frames := 0, cells := 0, slots := 0, locals := 0 } : Room) (va_Pc [.ref f0, .int x] (fw_pR (dC, dI) vwCl [(cH, .object RX2)] [(f0, .inr (3, [.ref hs, v1, .int (nI n), v3, v4, v5])), (hs, .inl (cH, 12, .inr (.inr (.inr (.inr (hf))))))])) (va_Sq (fun r => r = none)) 0 0 (fun _ => False) := by
  refine fw_metR (cc := cX3_find) (maxL := 2) (ret := (some (.object "FlakyBounds$History"))) (by decide) rfl (Nat.le_of_ble_eq_true rfl) ?_
  intro zp ze zs zm zbelow zmeth zc ls hx hb hr hts hown hlocks hml hin hN hP hK hl
  have hown : zs.vm.findClass RX3 = some zm.cls := hown
  have hl : lv_has ls 2 [(0, .ref f0), (1, .int x)] := hl
  refine lv_iload_n hx hb dX3_find_0 rfl (lv_at hl 1 rfl) ?_
  refine lv_if_lt (tgt := 21) hx hb dX3_find_1 (by decide) (fun c_1 => ?_) (fun c_1 => ?_)
  · -- then 1
    refine lv_null hx hb dX3_find_21 ?_
    exact W.aret (v := .null) hx hb hr (Or.inl ⟨_, rfl⟩) (Or.inl rfl) (fun zt zht _ => ⟨none, rfl, rfl, zht⟩) (fun q h => by cases h) dX3_find_22 hlocks
  · -- else 1
    refine lv_iload_n hx hb dX3_find_4 rfl (lv_at hl 1 rfl) ?_
    refine lv_aload_n hx hb dX3_find_5 rfl (lv_at hl 0 rfl) ?_
    refine va_get (D := (dC, dI)) (ci := 3) (v := .int (nI n)) (C := RX3) (T := TX3) (N := 6) hx hb hts (by decide +kernel) hown hK hP 0 rfl rfl 2 (by decide) (hts (.fieldLink RX3 22 "FlakyBounds" "tests" "I") (by decide +kernel)) (fun _ h9 => h9) rfl dX3_find_6 ?_
    refine lv_icmp_ge (tgt := 21) hx hb dX3_find_9 (by decide) (fun c_9 => ?_) (fun c_9 => ?_)
    · -- then 9
      refine lv_null hx hb dX3_find_21 ?_
      exact W.aret (v := .null) hx hb hr (Or.inl ⟨_, rfl⟩) (Or.inl rfl) (fun zt zht _ => ⟨none, rfl, rfl, zht⟩) (fun q h => by cases h) dX3_find_22 hlocks
    · -- else 9
      rcases hno with q9 | q9
      · exact absurd q9 c_1
      · exact absurd q9 c_9
set_option maxHeartbeats 4000000 in
set_option maxRecDepth 100000 in
theorem c_fla_find (l : Launch) (dC : Nat → ClassId) (dI : Nat → Nat → Nat) (f0 hs : Nat) (cH : ClassId) (v1 v3 v4 v5 : Value) (n : Nat) (hf : Nat → Option Nat) (i h0 : Nat) (hn12 : n ≤ 12) (hin_ : i < n) (hfi : hf i = some h0) : Met l yX3_find wsX3_find ({ frames := 0, cells := 0, slots := 0, locals := 0 } : Room) (va_Pc [.ref f0, .int (nI i)] (fw_pR (dC, dI) vwCl [(cH, .object RX2)] [(f0, .inr (3, [.ref hs, v1, .int (nI n), v3, v4, v5])), (hs, .inl (cH, 12, .inr (.inr (.inr (.inr (hf))))))])) (va_Sq (fun r => r = some h0)) 0 0 (fun _ => False) := by
  refine fw_metR (cc := cX3_find) (maxL := 2) (ret := (some (.object "FlakyBounds$History"))) (by decide) rfl (Nat.le_of_ble_eq_true rfl) ?_
  intro zp ze zs zm zbelow zmeth zc ls hx hb hr hts hown hlocks hml hin hN hP hK hl
  have hown : zs.vm.findClass RX3 = some zm.cls := hown
  have hl : lv_has ls 2 [(0, .ref f0), (1, .int (nI i))] := hl
  refine lv_iload_n hx hb dX3_find_0 rfl (lv_at hl 1 rfl) ?_
  refine lv_if_lt (tgt := 21) hx hb dX3_find_1 (by decide) (fun c_1 => absurd c_1 (nI_pos (by omega))) (fun _ => ?_)
  refine lv_iload_n hx hb dX3_find_4 rfl (lv_at hl 1 rfl) ?_
  refine lv_aload_n hx hb dX3_find_5 rfl (lv_at hl 0 rfl) ?_
  refine va_get (D := (dC, dI)) (ci := 3) (v := .int (nI n)) (C := RX3) (T := TX3) (N := 6) hx hb hts (by decide +kernel) hown hK hP 0 rfl rfl 2 (by decide) (hts (.fieldLink RX3 22 "FlakyBounds" "tests" "I") (by decide +kernel)) (fun _ h9 => h9) rfl dX3_find_6 ?_
  refine lv_icmp_ge (tgt := 21) hx hb dX3_find_9 (by decide) (fun c_9 => absurd c_9 (nI_ge (a := i) (b := n) (by omega) (by omega))) (fun _ => ?_)
  refine lv_iload_n hx hb dX3_find_12 rfl (lv_at hl 1 rfl) ?_
  refine lv_aload_n hx hb dX3_find_13 rfl (lv_at hl 0 rfl) ?_
  refine va_get (D := (dC, dI)) (ci := 3) (v := .ref hs) (C := RX3) (T := TX3) (N := 6) hx hb hts (by decide +kernel) hown hK hP 0 rfl rfl 0 (by decide) (hts (.fieldLink RX3 11 "FlakyBounds" "histories" "[LFlakyBounds$History;") (by decide +kernel)) (fun _ h9 => h9) rfl dX3_find_14 ?_
  refine va_alen (v := 12) hx hb hK hP 1 0 rfl rfl rfl dX3_find_17 ?_
  refine lv_icmp_lt (tgt := 23) hx hb dX3_find_18 (by decide) (fun _ => ?_) (fun c_18 => absurd (nI_lt (a := i) (b := 12) (by omega) (by decide)) c_18)
  refine lv_aload_n hx hb dX3_find_23 rfl (lv_at hl 0 rfl) ?_
  refine va_get (D := (dC, dI)) (ci := 3) (v := .ref hs) (C := RX3) (T := TX3) (N := 6) hx hb hts (by decide +kernel) hown hK hP 0 rfl rfl 0 (by decide) (hts (.fieldLink RX3 11 "FlakyBounds" "histories" "[LFlakyBounds$History;") (by decide +kernel)) (fun _ h9 => h9) rfl dX3_find_24 ?_
  refine lv_iload_n hx hb dX3_find_27 rfl (lv_at hl 1 rfl) ?_
  refine va_aldq hx hb hK hP 1 0 rfl rfl (vp_in_nI (by omega) (by decide)) dX3_find_28 ?_
  refine fw_v (x' := .ref h0) (by rw [nI_clamp (by omega), hfi]; rfl) ?_
  exact W.aret (v := .ref h0) hx hb hr (Or.inl ⟨_, rfl⟩) (Or.inr ⟨_, rfl⟩) (fun zt zht _ => ⟨some h0, rfl, rfl, zht⟩) (fun q h => by cases h) dX3_find_29 hlocks
set_option maxHeartbeats 4000000 in
set_option maxRecDepth 100000 in
theorem c_fla_isEdition (l : Launch) (dC : Nat → ClassId) (dI : Nat → Nat → Nat) (x : Int32)  : Met l yX3_isEdition wsX3_isEdition ({ frames := 0, cells := 0, slots := 0, locals := 0 } : Room) (va_Pc [.int x] (fw_pR (dC, dI) vwCl [] [])) (vp_Si (fun r => r = zI (fv_ed x))) 0 0 (fun _ => False) := by
  refine fw_metR (cc := cX3_isEdition) (maxL := 1) (ret := (some .boolean)) (by decide) rfl (Nat.le_of_ble_eq_true rfl) ?_
  intro zp ze zs zm zbelow zmeth zc ls hx hb hr hts hown hlocks hml hin hN hP hK hl
  have hown : zs.vm.findClass RX3 = some zm.cls := hown
  have hl : lv_has ls 1 [(0, .int x)] := hl
  refine lv_iload_n hx hb dX3_isEdition_0 rfl (lv_at hl 0 rfl) ?_
  refine lv_if_lt (tgt := 15) hx hb dX3_isEdition_1 (by decide) (fun c_1 => ?_) (fun c_1 => ?_)
  · -- then 1
    refine lv_iconst (v := 0) hx hb dX3_isEdition_15 (by decide) ?_
    exact W.zret (v := 0) (ty := .boolean) hx hb hr rfl (fun zt zht _ => ⟨0, rfl, by unfold fv_ed; rw [decide_eq_true c_1]; rfl, zht⟩) (fun q h => by cases h) dX3_isEdition_16 hlocks
  · -- else 1
    refine lv_iload_n hx hb dX3_isEdition_4 rfl (lv_at hl 0 rfl) ?_
    refine lv_sipush (v := 1000) hx hb dX3_isEdition_5 (by decide) ?_
    refine lv_icmp_ge (tgt := 15) hx hb dX3_isEdition_8 (by decide) (fun c_8 => ?_) (fun c_8 => ?_)
    · -- then 8
      refine lv_iconst (v := 0) hx hb dX3_isEdition_15 (by decide) ?_
      exact W.zret (v := 0) (ty := .boolean) hx hb hr rfl (fun zt zht _ => ⟨0, rfl, by unfold fv_ed; rw [decide_eq_false c_1, decide_eq_true c_8]; rfl, zht⟩) (fun q h => by cases h) dX3_isEdition_16 hlocks
    · -- else 8
      refine lv_iconst (v := 1) hx hb dX3_isEdition_11 (by decide) ?_
      refine lv_goto (tgt := 16) hx hb dX3_isEdition_12 (by decide) ?_
      exact W.zret (v := 1) (ty := .boolean) hx hb hr rfl (fun zt zht _ => ⟨1, rfl, by unfold fv_ed; rw [decide_eq_false c_1, decide_eq_false c_8]; rfl, zht⟩) (fun q h => by cases h) dX3_isEdition_16 hlocks
set_option maxHeartbeats 4000000 in
set_option maxRecDepth 100000 in
theorem c_fla_isLevel (l : Launch) (dC : Nat → ClassId) (dI : Nat → Nat → Nat) (x : Int32)  : Met l yX3_isLevel wsX3_isLevel ({ frames := 0, cells := 0, slots := 0, locals := 0 } : Room) (va_Pc [.int x] (fw_pR (dC, dI) vwCl [] [])) (vp_Si (fun r => r = zI (fv_lv x))) 0 0 (fun _ => False) := by
  refine fw_metR (cc := cX3_isLevel) (maxL := 1) (ret := (some .boolean)) (by decide) rfl (Nat.le_of_ble_eq_true rfl) ?_
  intro zp ze zs zm zbelow zmeth zc ls hx hb hr hts hown hlocks hml hin hN hP hK hl
  have hown : zs.vm.findClass RX3 = some zm.cls := hown
  have hl : lv_has ls 1 [(0, .int x)] := hl
  refine lv_iload_n hx hb dX3_isLevel_0 rfl (lv_at hl 0 rfl) ?_
  refine lv_iconst (v := 1) hx hb dX3_isLevel_1 (by decide) ?_
  refine lv_icmp_lt (tgt := 16) hx hb dX3_isLevel_2 (by decide) (fun c_2 => ?_) (fun c_2 => ?_)
  · -- then 2
    refine lv_iconst (v := 0) hx hb dX3_isLevel_16 (by decide) ?_
    exact W.zret (v := 0) (ty := .boolean) hx hb hr rfl (fun zt zht _ => ⟨0, rfl, by unfold fv_lv; rw [decide_eq_true c_2]; rfl, zht⟩) (fun q h => by cases h) dX3_isLevel_17 hlocks
  · -- else 2
    refine lv_iload_n hx hb dX3_isLevel_5 rfl (lv_at hl 0 rfl) ?_
    refine lv_sipush (v := 1000) hx hb dX3_isLevel_6 (by decide) ?_
    refine lv_icmp_ge (tgt := 16) hx hb dX3_isLevel_9 (by decide) (fun c_9 => ?_) (fun c_9 => ?_)
    · -- then 9
      refine lv_iconst (v := 0) hx hb dX3_isLevel_16 (by decide) ?_
      exact W.zret (v := 0) (ty := .boolean) hx hb hr rfl (fun zt zht _ => ⟨0, rfl, by unfold fv_lv; rw [decide_eq_false c_2, decide_eq_true c_9]; rfl, zht⟩) (fun q h => by cases h) dX3_isLevel_17 hlocks
    · -- else 9
      refine lv_iconst (v := 1) hx hb dX3_isLevel_12 (by decide) ?_
      refine lv_goto (tgt := 17) hx hb dX3_isLevel_13 (by decide) ?_
      exact W.zret (v := 1) (ty := .boolean) hx hb hr rfl (fun zt zht _ => ⟨1, rfl, by unfold fv_lv; rw [decide_eq_false c_2, decide_eq_false c_9]; rfl, zht⟩) (fun q h => by cases h) dX3_isLevel_17 hlocks
set_option maxHeartbeats 4000000 in
set_option maxRecDepth 100000 in
theorem c_fla_isShare (l : Launch) (dC : Nat → ClassId) (dI : Nat → Nat → Nat) (x : Int32)  : Met l yX3_isShare wsX3_isShare ({ frames := 0, cells := 0, slots := 0, locals := 0 } : Room) (va_Pc [.int x] (fw_pR (dC, dI) vwCl [] [])) (vp_Si (fun r => r = zI (fv_sh x))) 0 0 (fun _ => False) := by
  refine fw_metR (cc := cX3_isShare) (maxL := 1) (ret := (some .boolean)) (by decide) rfl (Nat.le_of_ble_eq_true rfl) ?_
  intro zp ze zs zm zbelow zmeth zc ls hx hb hr hts hown hlocks hml hin hN hP hK hl
  have hown : zs.vm.findClass RX3 = some zm.cls := hown
  have hl : lv_has ls 1 [(0, .int x)] := hl
  refine lv_iload_n hx hb dX3_isShare_0 rfl (lv_at hl 0 rfl) ?_
  refine lv_if_lt (tgt := 15) hx hb dX3_isShare_1 (by decide) (fun c_1 => ?_) (fun c_1 => ?_)
  · -- then 1
    refine lv_iconst (v := 0) hx hb dX3_isShare_15 (by decide) ?_
    exact W.zret (v := 0) (ty := .boolean) hx hb hr rfl (fun zt zht _ => ⟨0, rfl, by unfold fv_sh; rw [decide_eq_true c_1]; rfl, zht⟩) (fun q h => by cases h) dX3_isShare_16 hlocks
  · -- else 1
    refine lv_iload_n hx hb dX3_isShare_4 rfl (lv_at hl 0 rfl) ?_
    refine lv_sipush (v := 1000) hx hb dX3_isShare_5 (by decide) ?_
    refine lv_icmp_gt (tgt := 15) hx hb dX3_isShare_8 (by decide) (fun c_8 => ?_) (fun c_8 => ?_)
    · -- then 8
      refine lv_iconst (v := 0) hx hb dX3_isShare_15 (by decide) ?_
      exact W.zret (v := 0) (ty := .boolean) hx hb hr rfl (fun zt zht _ => ⟨0, rfl, by unfold fv_sh; rw [decide_eq_false c_1, decide_eq_true c_8]; rfl, zht⟩) (fun q h => by cases h) dX3_isShare_16 hlocks
    · -- else 8
      refine lv_iconst (v := 1) hx hb dX3_isShare_11 (by decide) ?_
      refine lv_goto (tgt := 16) hx hb dX3_isShare_12 (by decide) ?_
      exact W.zret (v := 1) (ty := .boolean) hx hb hr rfl (fun zt zht _ => ⟨1, rfl, by unfold fv_sh; rw [decide_eq_false c_1, decide_eq_false c_8]; rfl, zht⟩) (fun q h => by cases h) dX3_isShare_16 hlocks
set_option maxHeartbeats 4000000 in
set_option maxRecDepth 100000 in
theorem c_fla_most (l : Launch) (dC : Nat → ClassId) (dI : Nat → Nat → Nat) (f0 c0 s0 sa t0 ta h0 : Nat) (cJ : ClassId) (v0 v2 v3 v4 v5 w0 w1 w2 w3 w4 w7 w8 w9 w10 : Value) (ds dt : Nat → Nat) (n x j : Nat) (sz : Nat) (hn48 : n ≤ 48) (hxn : x ≤ n) (hj : j ≤ 1000) : Met l yX3_atMost wsX3_atMost ({ frames := 2, cells := 0, slots := 0, locals := 51 } : Room) (va_Pc [.ref f0, .ref h0, .int (nI j)] (fw_pW (dC, dI) vwCl [(cJ, .long)] [(f0, .inr (3, [v0, .ref c0, v2, v3, v4, v5])), (c0, .inr (0, [.ref s0, .ref t0])), (s0, .inr (1, [.ref sa])), (sa, .inl (cJ, 17, .inr (.inl (fun j => lN (ds j))))), (t0, .inr (1, [.ref ta])), (ta, .inl (cJ, 17, .inr (.inl (fun j => lN (dt j))))), (h0, .inr (2, [w0, w1, w2, w3, w4, .int (nI n), .int (nI x), w7, w8, w9, w10]))] sz)) (va_Qr (S := (Nat → Nat) × (Nat → Nat)) (fun u => pd_ok u.1 ∧ pd_v u.1 17 = pm_G n j n x * 1000 ^ (48 - n)) (fun u a t => a = s0 ∧ fw_q (dC, dI) vwCl [(cJ, .long)] (va_A [(f0, .inr (3, [v0, .ref c0, v2, v3, v4, v5])), (c0, .inr (0, [.ref s0, .ref t0])), (s0, .inr (1, [.ref sa])), (sa, .inl (cJ, 17, .inr (.inl (fun j => lN (ds j))))), (t0, .inr (1, [.ref ta])), (ta, .inl (cJ, 17, .inr (.inl (fun j => lN (dt j))))), (h0, .inr (2, [w0, w1, w2, w3, w4, .int (nI n), .int (nI x), w7, w8, w9, w10]))] sz) [(f0, .inr (3, [v0, .ref c0, v2, v3, v4, v5])), (c0, .inr (0, [.ref s0, .ref t0])), (s0, .inr (1, [.ref sa])), (sa, .inl (cJ, 17, .inr (.inl (fun j => lN (u.1 j))))), (t0, .inr (1, [.ref ta])), (ta, .inl (cJ, 17, .inr (.inl (fun j => lN (u.2 j))))), (h0, .inr (2, [w0, w1, w2, w3, w4, .int (nI n), .int (nI x), w7, w8, w9, w10]))] t) (va_A [(f0, .inr (3, [v0, .ref c0, v2, v3, v4, v5])), (c0, .inr (0, [.ref s0, .ref t0])), (s0, .inr (1, [.ref sa])), (sa, .inl (cJ, 17, .inr (.inl (fun j => lN (ds j))))), (t0, .inr (1, [.ref ta])), (ta, .inl (cJ, 17, .inr (.inl (fun j => lN (dt j))))), (h0, .inr (2, [w0, w1, w2, w3, w4, .int (nI n), .int (nI x), w7, w8, w9, w10]))] sz)) 0 0 (va_A [(f0, .inr (3, [v0, .ref c0, v2, v3, v4, v5])), (c0, .inr (0, [.ref s0, .ref t0])), (s0, .inr (1, [.ref sa])), (sa, .inl (cJ, 17, .inr (.inl (fun j => lN (ds j))))), (t0, .inr (1, [.ref ta])), (ta, .inl (cJ, 17, .inr (.inl (fun j => lN (dt j))))), (h0, .inr (2, [w0, w1, w2, w3, w4, .int (nI n), .int (nI x), w7, w8, w9, w10]))] sz) := by
  refine fw_metW (cc := cX3_atMost) (maxL := 3) (ret := (some (.object "FlakyBounds$Decimal"))) (by decide) rfl (Nat.le_of_ble_eq_true rfl) ?_
  intro zp ze zs zm zbelow zmeth zc ls hx hb hr hts hown hlocks hml hin hN hsz hP hK hD hA hS hl
  generalize hAe : (va_A [(f0, .inr (3, [v0, .ref c0, v2, v3, v4, v5])), (c0, .inr (0, [.ref s0, .ref t0])), (s0, .inr (1, [.ref sa])), (sa, .inl (cJ, 17, .inr (.inl (fun j => lN (ds j))))), (t0, .inr (1, [.ref ta])), (ta, .inl (cJ, 17, .inr (.inl (fun j => lN (dt j))))), (h0, .inr (2, [w0, w1, w2, w3, w4, .int (nI n), .int (nI x), w7, w8, w9, w10]))] sz) = A at hD hA hS ⊢
  have hown : zs.vm.findClass RX3 = some zm.cls := hown
  have hl : lv_has ls 3 [(0, .ref f0), (1, .ref h0), (2, .int (nI j))] := hl
  refine lv_aload_n hx hb dX3_atMost_0 rfl (lv_at hl 0 rfl) ?_
  refine va_get (D := (dC, dI)) (ci := 3) (v := .ref c0) (C := RX3) (T := TX3) (N := 6) hx hb hts (by decide +kernel) hown hK hP 0 rfl rfl 1 (by decide) (hts (.fieldLink RX3 18 "FlakyBounds" "chance" "LFlakyBounds$Chance;") (by decide +kernel)) (fun _ h9 => h9) rfl dX3_atMost_1 ?_
  refine lv_aload_n hx hb dX3_atMost_4 rfl (lv_at hl 1 rfl) ?_
  refine va_getN (D := (dC, dI)) (ci := 2) (v := .int (nI n)) (C := RX2) (T := TX2) (N := 11) hx hb hts (by decide +kernel) hown hK hP 6 rfl rfl 5 (by decide) (va_Nw.use rfl (hN.2.2.2.1)) (fun _ h9 => h9) rfl dX3_atMost_5 ?_
  refine lv_aload_n hx hb dX3_atMost_8 rfl (lv_at hl 1 rfl) ?_
  refine va_getN (D := (dC, dI)) (ci := 2) (v := .int (nI x)) (C := RX2) (T := TX2) (N := 11) hx hb hts (by decide +kernel) hown hK hP 6 rfl rfl 6 (by decide) (va_Nw.use rfl (hN.2.2.2.2.1)) (fun _ h9 => h9) rfl dX3_atMost_9 ?_
  refine lv_iload_n hx hb dX3_atMost_12 rfl (lv_at hl 2 rfl) ?_
  have hPc := hP.sub (ws' := [(c0, .inr (0, [.ref s0, .ref t0])), (s0, .inr (1, [.ref sa])), (sa, .inl (cJ, 17, .inr (.inl (fun j => lN (ds j))))), (t0, .inr (1, [.ref ta])), (ta, .inl (cJ, 17, .inr (.inl (fun j => lN (dt j)))))]) [1, 2, 3, 4, 5] rfl
  have hKc := hK.sub (tys' := [(cJ, .long)]) [0] rfl
  have hDc := hD.sub (ws' := [(c0, .inr (0, [.ref s0, .ref t0])), (s0, .inr (1, [.ref sa])), (sa, .inl (cJ, 17, .inr (.inl (fun j => lN (ds j))))), (t0, .inr (1, [.ref ta])), (ta, .inl (cJ, 17, .inr (.inl (fun j => lN (dt j)))))]) [1, 2, 3, 4, 5] (by decide) rfl
  have hFc := va_free (wc := [(c0, .inr (0, [.ref s0, .ref t0])), (s0, .inr (1, [.ref sa])), (sa, .inl (cJ, 17, .inr (.inl (fun j => lN (ds j))))), (t0, .inr (1, [.ref ta])), (ta, .inl (cJ, 17, .inr (.inl (fun j => lN (dt j)))))]) hD hS hA [1, 2, 3, 4, 5] rfl
  refine va_callr (va_runV (As := [.int (nI n), .int (nI x), .int (nI j)]) (rest := []) ⟨hx, hb, hml, hown, hts⟩ (c_cha_upto l dC dI c0 s0 sa t0 ta cJ ds dt n x j zs.heap.size hn48 (by omega) (by omega)) (cwV 3 hts gX3_atMost_X0_upTo rfl rfl rfl (by decide +kernel) ⟨Nat.le_of_ble_eq_true rfl, Nat.le_of_ble_eq_true rfl⟩) (fw_preVW hN hKc hPc hDc (ci := 0) (q0 := 0) rfl rfl) rfl rfl hl.1 rfl (lv_room (Nat.le_of_ble_eq_true rfl)) dX3_atMost_13 ⟨Nat.le_of_ble_eq_true rfl, Nat.le_of_ble_eq_true rfl⟩) hS (fun q _ h => hFc q h) hFc (fun u ra_13 zt H1 locs zht hvm hw hB hz1 hk1 hS => ?_)
  obtain ⟨e1, e2⟩ := u
  obtain ⟨ok_e1, v_e1⟩ := hw
  obtain ⟨era, hP1, hK1, hD1⟩ := hB
  rw [zht] at hP1
  have ok_e1 : pd_ok e1 := ok_e1
  have v_e1 : pd_v e1 17 = pm_G n j n x * 1000 ^ (48 - n) := v_e1
  obtain ⟨hP, hD⟩ := va_join (wr := [(f0, .inr (3, [v0, .ref c0, v2, v3, v4, v5])), (h0, .inr (2, [w0, w1, w2, w3, w4, .int (nI n), .int (nI x), w7, w8, w9, w10]))]) (w1 := [(c0, .inr (0, [.ref s0, .ref t0])), (s0, .inr (1, [.ref sa])), (sa, .inl (cJ, 17, .inr (.inl (fun j => lN (e1 j))))), (t0, .inr (1, [.ref ta])), (ta, .inl (cJ, 17, .inr (.inl (fun j => lN (e2 j)))))]) hP hD [1, 2, 3, 4, 5] [0, 6] rfl rfl (by decide) (by decide) hk1 hFc hP1 hD1
  generalize H1 = H at hP hS ⊢
  have hP : va_P (dC, dI) vwCl [(f0, .inr (3, [v0, .ref c0, v2, v3, v4, v5])), (h0, .inr (2, [w0, w1, w2, w3, w4, .int (nI n), .int (nI x), w7, w8, w9, w10])), (c0, .inr (0, [.ref s0, .ref t0])), (s0, .inr (1, [.ref sa])), (sa, .inl (cJ, 17, .inr (.inl (fun j => lN (e1 j))))), (t0, .inr (1, [.ref ta])), (ta, .inl (cJ, 17, .inr (.inl (fun j => lN (e2 j)))))] H := hP
  have hD : va_D A [(f0, .inr (3, [v0, .ref c0, v2, v3, v4, v5])), (h0, .inr (2, [w0, w1, w2, w3, w4, .int (nI n), .int (nI x), w7, w8, w9, w10])), (c0, .inr (0, [.ref s0, .ref t0])), (s0, .inr (1, [.ref sa])), (sa, .inl (cJ, 17, .inr (.inl (fun j => lN (e1 j))))), (t0, .inr (1, [.ref ta])), (ta, .inl (cJ, 17, .inr (.inl (fun j => lN (e2 j)))))] := hD
  rw [era]
  have hP9 := hP.sub (ws' := [(f0, .inr (3, [v0, .ref c0, v2, v3, v4, v5])), (c0, .inr (0, [.ref s0, .ref t0])), (s0, .inr (1, [.ref sa])), (sa, .inl (cJ, 17, .inr (.inl (fun j => lN (e1 j))))), (t0, .inr (1, [.ref ta])), (ta, .inl (cJ, 17, .inr (.inl (fun j => lN (e2 j))))), (h0, .inr (2, [w0, w1, w2, w3, w4, .int (nI n), .int (nI x), w7, w8, w9, w10]))]) [0, 2, 3, 4, 5, 6, 1] rfl
  have hD9 := hD.sub (ws' := [(f0, .inr (3, [v0, .ref c0, v2, v3, v4, v5])), (c0, .inr (0, [.ref s0, .ref t0])), (s0, .inr (1, [.ref sa])), (sa, .inl (cJ, 17, .inr (.inl (fun j => lN (e1 j))))), (t0, .inr (1, [.ref ta])), (ta, .inl (cJ, 17, .inr (.inl (fun j => lN (e2 j))))), (h0, .inr (2, [w0, w1, w2, w3, w4, .int (nI n), .int (nI x), w7, w8, w9, w10]))]) [0, 2, 3, 4, 5, 6, 1] (by decide) rfl
  have hK9 := hK.sub (tys' := [(cJ, .long)]) [0] rfl
  exact W.aret (v := .ref s0) hx hb hr (Or.inl ⟨_, rfl⟩) (Or.inr ⟨_, rfl⟩) (fun zt zht hW => ⟨⟨(e1, e2), s0, rfl, ⟨ok_e1, v_e1⟩, rfl, by rw [zht]; exact hP9, va_K.moved hW.alike hK9, hD9⟩, hS.F zht⟩) hS.2.2 dX3_atMost_16 hlocks
set_option maxHeartbeats 4000000 in
set_option maxRecDepth 100000 in
theorem c_fla_least (l : Launch) (dC : Nat → ClassId) (dI : Nat → Nat → Nat) (f0 c0 s0 sa t0 ta h0 : Nat) (cJ : ClassId) (v0 v2 v3 v4 v5 w0 w1 w2 w3 w4 w7 w8 w9 w10 : Value) (ds dt : Nat → Nat) (n x j : Nat) (sz : Nat) (hn48 : n ≤ 48) (hxn : x ≤ n) (hj : j ≤ 1000) : Met l yX3_atLeast wsX3_atLeast ({ frames := 2, cells := 0, slots := 0, locals := 51 } : Room) (va_Pc [.ref f0, .ref h0, .int (nI j)] (fw_pW (dC, dI) vwCl [(cJ, .long)] [(f0, .inr (3, [v0, .ref c0, v2, v3, v4, v5])), (c0, .inr (0, [.ref s0, .ref t0])), (s0, .inr (1, [.ref sa])), (sa, .inl (cJ, 17, .inr (.inl (fun j => lN (ds j))))), (t0, .inr (1, [.ref ta])), (ta, .inl (cJ, 17, .inr (.inl (fun j => lN (dt j))))), (h0, .inr (2, [w0, w1, w2, w3, w4, .int (nI n), .int (nI x), w7, w8, w9, w10]))] sz)) (va_Qr (S := (Nat → Nat) × (Nat → Nat)) (fun u => pd_ok u.1 ∧ pd_v u.1 17 = pm_G n (1000 - j) n (n - x) * 1000 ^ (48 - n)) (fun u a t => a = s0 ∧ fw_q (dC, dI) vwCl [(cJ, .long)] (va_A [(f0, .inr (3, [v0, .ref c0, v2, v3, v4, v5])), (c0, .inr (0, [.ref s0, .ref t0])), (s0, .inr (1, [.ref sa])), (sa, .inl (cJ, 17, .inr (.inl (fun j => lN (ds j))))), (t0, .inr (1, [.ref ta])), (ta, .inl (cJ, 17, .inr (.inl (fun j => lN (dt j))))), (h0, .inr (2, [w0, w1, w2, w3, w4, .int (nI n), .int (nI x), w7, w8, w9, w10]))] sz) [(f0, .inr (3, [v0, .ref c0, v2, v3, v4, v5])), (c0, .inr (0, [.ref s0, .ref t0])), (s0, .inr (1, [.ref sa])), (sa, .inl (cJ, 17, .inr (.inl (fun j => lN (u.1 j))))), (t0, .inr (1, [.ref ta])), (ta, .inl (cJ, 17, .inr (.inl (fun j => lN (u.2 j))))), (h0, .inr (2, [w0, w1, w2, w3, w4, .int (nI n), .int (nI x), w7, w8, w9, w10]))] t) (va_A [(f0, .inr (3, [v0, .ref c0, v2, v3, v4, v5])), (c0, .inr (0, [.ref s0, .ref t0])), (s0, .inr (1, [.ref sa])), (sa, .inl (cJ, 17, .inr (.inl (fun j => lN (ds j))))), (t0, .inr (1, [.ref ta])), (ta, .inl (cJ, 17, .inr (.inl (fun j => lN (dt j))))), (h0, .inr (2, [w0, w1, w2, w3, w4, .int (nI n), .int (nI x), w7, w8, w9, w10]))] sz)) 0 0 (va_A [(f0, .inr (3, [v0, .ref c0, v2, v3, v4, v5])), (c0, .inr (0, [.ref s0, .ref t0])), (s0, .inr (1, [.ref sa])), (sa, .inl (cJ, 17, .inr (.inl (fun j => lN (ds j))))), (t0, .inr (1, [.ref ta])), (ta, .inl (cJ, 17, .inr (.inl (fun j => lN (dt j))))), (h0, .inr (2, [w0, w1, w2, w3, w4, .int (nI n), .int (nI x), w7, w8, w9, w10]))] sz) := by
  refine fw_metW (cc := cX3_atLeast) (maxL := 4) (ret := (some (.object "FlakyBounds$Decimal"))) (by decide) rfl (Nat.le_of_ble_eq_true rfl) ?_
  intro zp ze zs zm zbelow zmeth zc ls hx hb hr hts hown hlocks hml hin hN hsz hP hK hD hA hS hl
  generalize hAe : (va_A [(f0, .inr (3, [v0, .ref c0, v2, v3, v4, v5])), (c0, .inr (0, [.ref s0, .ref t0])), (s0, .inr (1, [.ref sa])), (sa, .inl (cJ, 17, .inr (.inl (fun j => lN (ds j))))), (t0, .inr (1, [.ref ta])), (ta, .inl (cJ, 17, .inr (.inl (fun j => lN (dt j))))), (h0, .inr (2, [w0, w1, w2, w3, w4, .int (nI n), .int (nI x), w7, w8, w9, w10]))] sz) = A at hD hA hS ⊢
  have hown : zs.vm.findClass RX3 = some zm.cls := hown
  have hl : lv_has ls 4 [(0, .ref f0), (1, .ref h0), (2, .int (nI j))] := hl
  refine lv_aload_n hx hb dX3_atLeast_0 rfl (lv_at hl 1 rfl) ?_
  refine va_getN (D := (dC, dI)) (ci := 2) (v := .int (nI n)) (C := RX2) (T := TX2) (N := 11) hx hb hts (by decide +kernel) hown hK hP 6 rfl rfl 5 (by decide) (va_Nw.use rfl (hN.2.2.2.1)) (fun _ h9 => h9) rfl dX3_atLeast_1 ?_
  refine lv_aload_n hx hb dX3_atLeast_4 rfl (lv_at hl 1 rfl) ?_
  refine va_getN (D := (dC, dI)) (ci := 2) (v := .int (nI x)) (C := RX2) (T := TX2) (N := 11) hx hb hts (by decide +kernel) hown hK hP 6 rfl rfl 6 (by decide) (va_Nw.use rfl (hN.2.2.2.2.1)) (fun _ h9 => h9) rfl dX3_atLeast_5 ?_
  refine lv_isub hx hb dX3_atLeast_8 ?_
  refine fw_i (x' := nI (n - x)) (pk_sub hxn) ?_
  refine lv_istore_n (lv' := [(3, .int (nI (n - x))), (0, .ref f0), (1, .ref h0), (2, .int (nI j))]) hx hb dX3_atLeast_9 rfl hl (by decide) rfl (fun ls hl => ?_)
  refine lv_aload_n hx hb dX3_atLeast_10 rfl (lv_at hl 1 rfl) ?_
  refine va_get (D := (dC, dI)) (ci := 3) (v := .ref c0) (C := RX3) (T := TX3) (N := 6) hx hb hts (by decide +kernel) hown hK hP 0 rfl rfl 1 (by decide) (hts (.fieldLink RX3 18 "FlakyBounds" "chance" "LFlakyBounds$Chance;") (by decide +kernel)) (fun _ h9 => h9) rfl dX3_atLeast_11 ?_
  refine lv_aload_n hx hb dX3_atLeast_14 rfl (lv_at hl 2 rfl) ?_
  refine va_getN (D := (dC, dI)) (ci := 2) (v := .int (nI n)) (C := RX2) (T := TX2) (N := 11) hx hb hts (by decide +kernel) hown hK hP 6 rfl rfl 5 (by decide) (va_Nw.use rfl (hN.2.2.2.1)) (fun _ h9 => h9) rfl dX3_atLeast_15 ?_
  refine lv_iload_n hx hb dX3_atLeast_18 rfl (lv_at hl 0 rfl) ?_
  refine lv_sipush (v := 1000) hx hb dX3_atLeast_19 (by decide) ?_
  refine lv_iload_n hx hb dX3_atLeast_22 rfl (lv_at hl 3 rfl) ?_
  refine lv_isub hx hb dX3_atLeast_23 ?_
  refine fw_i (x' := nI (1000 - j)) (pk_sub (a := 1000) hj) ?_
  have hPc := hP.sub (ws' := [(c0, .inr (0, [.ref s0, .ref t0])), (s0, .inr (1, [.ref sa])), (sa, .inl (cJ, 17, .inr (.inl (fun j => lN (ds j))))), (t0, .inr (1, [.ref ta])), (ta, .inl (cJ, 17, .inr (.inl (fun j => lN (dt j)))))]) [1, 2, 3, 4, 5] rfl
  have hKc := hK.sub (tys' := [(cJ, .long)]) [0] rfl
  have hDc := hD.sub (ws' := [(c0, .inr (0, [.ref s0, .ref t0])), (s0, .inr (1, [.ref sa])), (sa, .inl (cJ, 17, .inr (.inl (fun j => lN (ds j))))), (t0, .inr (1, [.ref ta])), (ta, .inl (cJ, 17, .inr (.inl (fun j => lN (dt j)))))]) [1, 2, 3, 4, 5] (by decide) rfl
  have hFc := va_free (wc := [(c0, .inr (0, [.ref s0, .ref t0])), (s0, .inr (1, [.ref sa])), (sa, .inl (cJ, 17, .inr (.inl (fun j => lN (ds j))))), (t0, .inr (1, [.ref ta])), (ta, .inl (cJ, 17, .inr (.inl (fun j => lN (dt j)))))]) hD hS hA [1, 2, 3, 4, 5] rfl
  refine va_callr (va_runV (As := [.int (nI n), .int (nI (n - x)), .int (nI (1000 - j))]) (rest := []) ⟨hx, hb, hml, hown, hts⟩ (c_cha_upto l dC dI c0 s0 sa t0 ta cJ ds dt n (n - x) (1000 - j) zs.heap.size hn48 (by omega) (by omega)) (cwV 3 hts gX3_atLeast_X0_upTo rfl rfl rfl (by decide +kernel) ⟨Nat.le_of_ble_eq_true rfl, Nat.le_of_ble_eq_true rfl⟩) (fw_preVW hN hKc hPc hDc (ci := 0) (q0 := 0) rfl rfl) rfl rfl hl.1 rfl (lv_room (Nat.le_of_ble_eq_true rfl)) dX3_atLeast_24 ⟨Nat.le_of_ble_eq_true rfl, Nat.le_of_ble_eq_true rfl⟩) hS (fun q _ h => hFc q h) hFc (fun u ra_24 zt H1 locs zht hvm hw hB hz1 hk1 hS => ?_)
  obtain ⟨e1, e2⟩ := u
  obtain ⟨ok_e1, v_e1⟩ := hw
  obtain ⟨era, hP1, hK1, hD1⟩ := hB
  rw [zht] at hP1
  have ok_e1 : pd_ok e1 := ok_e1
  have v_e1 : pd_v e1 17 = pm_G n (1000 - j) n (n - x) * 1000 ^ (48 - n) := v_e1
  obtain ⟨hP, hD⟩ := va_join (wr := [(f0, .inr (3, [v0, .ref c0, v2, v3, v4, v5])), (h0, .inr (2, [w0, w1, w2, w3, w4, .int (nI n), .int (nI x), w7, w8, w9, w10]))]) (w1 := [(c0, .inr (0, [.ref s0, .ref t0])), (s0, .inr (1, [.ref sa])), (sa, .inl (cJ, 17, .inr (.inl (fun j => lN (e1 j))))), (t0, .inr (1, [.ref ta])), (ta, .inl (cJ, 17, .inr (.inl (fun j => lN (e2 j)))))]) hP hD [1, 2, 3, 4, 5] [0, 6] rfl rfl (by decide) (by decide) hk1 hFc hP1 hD1
  generalize H1 = H at hP hS ⊢
  have hP : va_P (dC, dI) vwCl [(f0, .inr (3, [v0, .ref c0, v2, v3, v4, v5])), (h0, .inr (2, [w0, w1, w2, w3, w4, .int (nI n), .int (nI x), w7, w8, w9, w10])), (c0, .inr (0, [.ref s0, .ref t0])), (s0, .inr (1, [.ref sa])), (sa, .inl (cJ, 17, .inr (.inl (fun j => lN (e1 j))))), (t0, .inr (1, [.ref ta])), (ta, .inl (cJ, 17, .inr (.inl (fun j => lN (e2 j)))))] H := hP
  have hD : va_D A [(f0, .inr (3, [v0, .ref c0, v2, v3, v4, v5])), (h0, .inr (2, [w0, w1, w2, w3, w4, .int (nI n), .int (nI x), w7, w8, w9, w10])), (c0, .inr (0, [.ref s0, .ref t0])), (s0, .inr (1, [.ref sa])), (sa, .inl (cJ, 17, .inr (.inl (fun j => lN (e1 j))))), (t0, .inr (1, [.ref ta])), (ta, .inl (cJ, 17, .inr (.inl (fun j => lN (e2 j)))))] := hD
  rw [era]
  have hP9 := hP.sub (ws' := [(f0, .inr (3, [v0, .ref c0, v2, v3, v4, v5])), (c0, .inr (0, [.ref s0, .ref t0])), (s0, .inr (1, [.ref sa])), (sa, .inl (cJ, 17, .inr (.inl (fun j => lN (e1 j))))), (t0, .inr (1, [.ref ta])), (ta, .inl (cJ, 17, .inr (.inl (fun j => lN (e2 j))))), (h0, .inr (2, [w0, w1, w2, w3, w4, .int (nI n), .int (nI x), w7, w8, w9, w10]))]) [0, 2, 3, 4, 5, 6, 1] rfl
  have hD9 := hD.sub (ws' := [(f0, .inr (3, [v0, .ref c0, v2, v3, v4, v5])), (c0, .inr (0, [.ref s0, .ref t0])), (s0, .inr (1, [.ref sa])), (sa, .inl (cJ, 17, .inr (.inl (fun j => lN (e1 j))))), (t0, .inr (1, [.ref ta])), (ta, .inl (cJ, 17, .inr (.inl (fun j => lN (e2 j))))), (h0, .inr (2, [w0, w1, w2, w3, w4, .int (nI n), .int (nI x), w7, w8, w9, w10]))]) [0, 2, 3, 4, 5, 6, 1] (by decide) rfl
  have hK9 := hK.sub (tys' := [(cJ, .long)]) [0] rfl
  exact W.aret (v := .ref s0) hx hb hr (Or.inl ⟨_, rfl⟩) (Or.inr ⟨_, rfl⟩) (fun zt zht hW => ⟨⟨(e1, e2), s0, rfl, ⟨ok_e1, v_e1⟩, rfl, by rw [zht]; exact hP9, va_K.moved hW.alike hK9, hD9⟩, hS.F zht⟩) hS.2.2 dX3_atLeast_27 hlocks
set_option maxHeartbeats 4000000 in
set_option maxRecDepth 100000 in
theorem c_fla_great (l : Launch) (dC : Nat → ClassId) (dI : Nat → Nat → Nat) (f0 c0 s0 sa t0 ta : Nat) (cJ : ClassId) (v0 v2 v3 v4 v5 : Value) (ds dt : Nat → Nat) (n m lv : Nat) (sz : Nat) (hn48 : n ≤ 48) (hmn : m ≤ n) (hlv : lv ≤ 999) : Met l yX3_greatestAbove wsX3_greatestAbove ({ frames := 2, cells := 0, slots := 0, locals := 51 } : Room) (va_Pc [.ref f0, .int (nI n), .int (nI m), .int (nI lv)] (fw_pW (dC, dI) vwCl [(cJ, .long)] [(f0, .inr (3, [v0, .ref c0, v2, v3, v4, v5])), (c0, .inr (0, [.ref s0, .ref t0])), (s0, .inr (1, [.ref sa])), (sa, .inl (cJ, 17, .inr (.inl (fun j => lN (ds j))))), (t0, .inr (1, [.ref ta])), (ta, .inl (cJ, 17, .inr (.inl (fun j => lN (dt j)))))] sz)) (va_Qi (S := (Nat → Nat) × (Nat → Nat)) (fun r _ => ∃ J : Nat, r = nI J ∧ gv_is n m lv J) (fun u t => fw_q (dC, dI) vwCl [(cJ, .long)] (va_A [(f0, .inr (3, [v0, .ref c0, v2, v3, v4, v5])), (c0, .inr (0, [.ref s0, .ref t0])), (s0, .inr (1, [.ref sa])), (sa, .inl (cJ, 17, .inr (.inl (fun j => lN (ds j))))), (t0, .inr (1, [.ref ta])), (ta, .inl (cJ, 17, .inr (.inl (fun j => lN (dt j)))))] sz) [(f0, .inr (3, [v0, .ref c0, v2, v3, v4, v5])), (c0, .inr (0, [.ref s0, .ref t0])), (s0, .inr (1, [.ref sa])), (sa, .inl (cJ, 17, .inr (.inl (fun j => lN (u.1 j))))), (t0, .inr (1, [.ref ta])), (ta, .inl (cJ, 17, .inr (.inl (fun j => lN (u.2 j)))))] t) (va_A [(f0, .inr (3, [v0, .ref c0, v2, v3, v4, v5])), (c0, .inr (0, [.ref s0, .ref t0])), (s0, .inr (1, [.ref sa])), (sa, .inl (cJ, 17, .inr (.inl (fun j => lN (ds j))))), (t0, .inr (1, [.ref ta])), (ta, .inl (cJ, 17, .inr (.inl (fun j => lN (dt j)))))] sz)) 0 0 (va_A [(f0, .inr (3, [v0, .ref c0, v2, v3, v4, v5])), (c0, .inr (0, [.ref s0, .ref t0])), (s0, .inr (1, [.ref sa])), (sa, .inl (cJ, 17, .inr (.inl (fun j => lN (ds j))))), (t0, .inr (1, [.ref ta])), (ta, .inl (cJ, 17, .inr (.inl (fun j => lN (dt j)))))] sz) := by
  refine fw_metW (cc := cX3_greatestAbove) (maxL := 6) (ret := (some .int)) (by decide) rfl (Nat.le_of_ble_eq_true rfl) ?_
  intro zp ze zs zm zbelow zmeth zc ls hx hb hr hts hown hlocks hml hin hN hsz hP hK hD hA hS hl
  generalize hAe : (va_A [(f0, .inr (3, [v0, .ref c0, v2, v3, v4, v5])), (c0, .inr (0, [.ref s0, .ref t0])), (s0, .inr (1, [.ref sa])), (sa, .inl (cJ, 17, .inr (.inl (fun j => lN (ds j))))), (t0, .inr (1, [.ref ta])), (ta, .inl (cJ, 17, .inr (.inl (fun j => lN (dt j)))))] sz) = A at hD hA hS ⊢
  have hown : zs.vm.findClass RX3 = some zm.cls := hown
  have hl : lv_has ls 6 [(0, .ref f0), (1, .int (nI n)), (2, .int (nI m)), (3, .int (nI lv))] := hl
  refine lv_iconst (v := 0) hx hb dX3_greatestAbove_0 (by decide) ?_
  refine lv_istore (lv' := [(4, .int 0), (0, .ref f0), (1, .int (nI n)), (2, .int (nI m)), (3, .int (nI lv))]) hx hb dX3_greatestAbove_1 hl (by decide) rfl (fun ls hl => ?_)
  refine lv_sipush (v := 512) hx hb dX3_greatestAbove_3 (by decide) ?_
  refine lv_istore (lv' := [(5, .int 512), (4, .int 0), (0, .ref f0), (1, .int (nI n)), (2, .int (nI m)), (3, .int (nI lv))]) hx hb dX3_greatestAbove_6 hl (by decide) rfl (fun ls hl => ?_)
  refine fw_loop (σ := Nat × Nat × (Nat → Nat) × (Nat → Nat)) (I := fun zn u H locs ls => match u with | (p, j, d1, d2) => zn = p ∧ (p ≤ 10) ∧ (j ≤ 1000) ∧ (pv_above n m j lv = true) ∧ (∀ i, j + 2 ^ p ≤ i → i ≤ 1000 → pv_above n m i lv = false) ∧ va_P (dC, dI) vwCl [(f0, .inr (3, [v0, .ref c0, v2, v3, v4, v5])), (c0, .inr (0, [.ref s0, .ref t0])), (s0, .inr (1, [.ref sa])), (sa, .inl (cJ, 17, .inr (.inl (fun j => lN (d1 j))))), (t0, .inr (1, [.ref ta])), (ta, .inl (cJ, 17, .inr (.inl (fun j => lN (d2 j)))))] H ∧ va_D A [(f0, .inr (3, [v0, .ref c0, v2, v3, v4, v5])), (c0, .inr (0, [.ref s0, .ref t0])), (s0, .inr (1, [.ref sa])), (sa, .inl (cJ, 17, .inr (.inl (fun j => lN (d1 j))))), (t0, .inr (1, [.ref ta])), (ta, .inl (cJ, 17, .inr (.inl (fun j => lN (d2 j)))))] ∧ va_S A zs.heap H locs ∧ lv_has ls 6 [(0, .ref f0), (1, .int (nI n)), (2, .int (nI m)), (3, .int (nI lv)), (4, .int (nI j)), (5, .int (nI (2 ^ p / 2)))]) ?_ _ (10, 0, ds, dt) _ _ _ ⟨rfl, by omega, by omega, pv_above_0 hlv, fun i h1 h2 => by omega, hP.sub [0, 1, 2, 3, 4, 5] rfl, hD.sub [0, 1, 2, 3, 4, 5] (by decide) rfl, hS, lv_sub hl [2, 3, 4, 5, 1, 0] rfl⟩
  intro zn u H locs ls hI ih_8
  obtain ⟨p, j, d1, d2⟩ := u
  obtain ⟨hzn, hp, hj, ha, hb_, hP, hD, hS, hl⟩ := hI
  refine lv_iload hx hb dX3_greatestAbove_8 (lv_at hl 5 rfl) ?_
  refine lv_if_le (tgt := 61) hx hb dX3_greatestAbove_10 (by decide) (fun c_10 => ?_) (fun c_10 => ?_)
  · -- then 10
    have hp0 : p = 0 := by
      rcases Nat.eq_zero_or_pos p with q9 | q9
      · exact q9
      · obtain ⟨q, rfl⟩ : ∃ q, p = q + 1 := ⟨p - 1, by omega⟩
        rw [gv_half] at c_10
        have h1 : 0 < 2 ^ q := Nat.pow_pos (by decide)
        have h2 : 2 ^ q ≤ 2 ^ 9 := Nat.pow_le_pow_right (by decide) (by omega)
        exact absurd c_10 (nI_nle h1 (by omega))
    subst hp0
    refine lv_iload hx hb dX3_greatestAbove_61 (lv_at hl 4 rfl) ?_
    have hP9 := hP.sub (ws' := [(f0, .inr (3, [v0, .ref c0, v2, v3, v4, v5])), (c0, .inr (0, [.ref s0, .ref t0])), (s0, .inr (1, [.ref sa])), (sa, .inl (cJ, 17, .inr (.inl (fun j => lN (d1 j))))), (t0, .inr (1, [.ref ta])), (ta, .inl (cJ, 17, .inr (.inl (fun j => lN (d2 j)))))]) [0, 1, 2, 3, 4, 5] rfl
    have hD9 := hD.sub (ws' := [(f0, .inr (3, [v0, .ref c0, v2, v3, v4, v5])), (c0, .inr (0, [.ref s0, .ref t0])), (s0, .inr (1, [.ref sa])), (sa, .inl (cJ, 17, .inr (.inl (fun j => lN (d1 j))))), (t0, .inr (1, [.ref ta])), (ta, .inl (cJ, 17, .inr (.inl (fun j => lN (d2 j)))))]) [0, 1, 2, 3, 4, 5] (by decide) rfl
    have hK9 := hK.sub (tys' := [(cJ, .long)]) [0] rfl
    exact W.iret (v := (nI j)) hx hb hr (fun zt zht hW => ⟨⟨(nI j), (d1, d2), rfl, ⟨j, rfl, gv_end hj ha hb_⟩, by rw [zht]; exact hP9, va_K.moved hW.alike hK9, hD9⟩, hS.F zht⟩) hS.2.2 dX3_greatestAbove_63 hlocks
  · -- else 10
    obtain ⟨q, rfl⟩ : ∃ q, p = q + 1 := by
      rcases Nat.eq_zero_or_pos p with q9 | q9
      · subst q9
        exact absurd (by decide) c_10
      · exact ⟨p - 1, by omega⟩
    rw [gv_half] at hl
    have h2q : 2 ^ (q + 1) = 2 ^ q + 2 ^ q := by rw [Nat.pow_succ]; omega
    have hq9 : 2 ^ q ≤ 2 ^ 9 := Nat.pow_le_pow_right (by decide) (by omega)
    refine lv_iload hx hb dX3_greatestAbove_13 (lv_at hl 4 rfl) ?_
    refine lv_iload hx hb dX3_greatestAbove_15 (lv_at hl 5 rfl) ?_
    refine lv_iadd hx hb dX3_greatestAbove_17 ?_
    refine fw_i (x' := nI (j + 2 ^ q)) (nI_add _ _) ?_
    refine lv_sipush (v := 1000) hx hb dX3_greatestAbove_18 (by decide) ?_
    refine lv_icmp_gt (tgt := 52) hx hb dX3_greatestAbove_21 (by decide) (fun c_21 => ?_) (fun c_21 => ?_)
    · -- then 21
      have h21 : 1000 < j + 2 ^ q := (nI_ltI (a := 1000) (b := j + 2 ^ q) (by decide) (by omega)).mp c_21
      refine lv_iload hx hb dX3_greatestAbove_52 (lv_at hl 5 rfl) ?_
      refine lv_iconst (v := 2) hx hb dX3_greatestAbove_54 (by decide) ?_
      refine lv_idiv hx hb dX3_greatestAbove_55 (by decide) ?_
      refine fw_i (x' := nI (2 ^ q / 2)) (pk_div (d := 2) (by omega) (by decide) (by decide)) ?_
      refine lv_istore (lv' := [(5, .int (nI (2 ^ q / 2))), (0, .ref f0), (1, .int (nI n)), (2, .int (nI m)), (3, .int (nI lv)), (4, .int (nI j))]) hx hb dX3_greatestAbove_56 hl (by decide) rfl (fun ls hl => ?_)
      refine lv_goto (tgt := 8) hx hb dX3_greatestAbove_58 (by decide) ?_
      exact ih_8 _ (q, j, d1, d2) _ _ _ (by omega) ⟨rfl, by omega, hj, ha, fun i h1 h2 => absurd h21 (by omega), hP.sub [0, 1, 2, 3, 4, 5] rfl, hD.sub [0, 1, 2, 3, 4, 5] (by decide) rfl, hS, lv_sub hl [1, 2, 3, 4, 5, 0] rfl⟩
    · -- else 21
      have h21 : j + 2 ^ q ≤ 1000 := by
        rcases Nat.lt_or_ge 1000 (j + 2 ^ q) with q9 | q9
        · exact absurd (nI_lt (a := 1000) (b := j + 2 ^ q) q9 (by omega)) c_21
        · exact q9
      refine lv_aload_n hx hb dX3_greatestAbove_24 rfl (lv_at hl 0 rfl) ?_
      refine va_get (D := (dC, dI)) (ci := 3) (v := .ref c0) (C := RX3) (T := TX3) (N := 6) hx hb hts (by decide +kernel) hown hK hP 0 rfl rfl 1 (by decide) (hts (.fieldLink RX3 18 "FlakyBounds" "chance" "LFlakyBounds$Chance;") (by decide +kernel)) (fun _ h9 => h9) rfl dX3_greatestAbove_25 ?_
      refine lv_iload_n hx hb dX3_greatestAbove_28 rfl (lv_at hl 1 rfl) ?_
      refine lv_iload_n hx hb dX3_greatestAbove_29 rfl (lv_at hl 2 rfl) ?_
      refine lv_iload hx hb dX3_greatestAbove_30 (lv_at hl 4 rfl) ?_
      refine lv_iload hx hb dX3_greatestAbove_32 (lv_at hl 5 rfl) ?_
      refine lv_iadd hx hb dX3_greatestAbove_34 ?_
      refine fw_i (x' := nI (j + 2 ^ q)) (nI_add _ _) ?_
      have hPc := hP.sub (ws' := [(c0, .inr (0, [.ref s0, .ref t0])), (s0, .inr (1, [.ref sa])), (sa, .inl (cJ, 17, .inr (.inl (fun j => lN (d1 j))))), (t0, .inr (1, [.ref ta])), (ta, .inl (cJ, 17, .inr (.inl (fun j => lN (d2 j)))))]) [1, 2, 3, 4, 5] rfl
      have hKc := hK.sub (tys' := [(cJ, .long)]) [0] rfl
      have hDc := hD.sub (ws' := [(c0, .inr (0, [.ref s0, .ref t0])), (s0, .inr (1, [.ref sa])), (sa, .inl (cJ, 17, .inr (.inl (fun j => lN (d1 j))))), (t0, .inr (1, [.ref ta])), (ta, .inl (cJ, 17, .inr (.inl (fun j => lN (d2 j)))))]) [1, 2, 3, 4, 5] (by decide) rfl
      have hFc := va_free (wc := [(c0, .inr (0, [.ref s0, .ref t0])), (s0, .inr (1, [.ref sa])), (sa, .inl (cJ, 17, .inr (.inl (fun j => lN (d1 j))))), (t0, .inr (1, [.ref ta])), (ta, .inl (cJ, 17, .inr (.inl (fun j => lN (d2 j)))))]) hD hS hA [1, 2, 3, 4, 5] rfl
      refine va_callr (va_runV (As := [.int (nI n), .int (nI m), .int (nI (j + 2 ^ q))]) (rest := []) ⟨hx, hb, hml, hown, hts⟩ (c_cha_upto l dC dI c0 s0 sa t0 ta cJ d1 d2 n m (j + 2 ^ q) H.size hn48 hmn (by omega)) (cwV 3 hts gX3_greatestAbove_X0_upTo rfl rfl rfl (by decide +kernel) ⟨Nat.le_of_ble_eq_true rfl, Nat.le_of_ble_eq_true rfl⟩) (fw_preVW hN hKc hPc hDc (ci := 0) (q0 := 0) rfl rfl) rfl rfl hl.1 rfl (lv_room (Nat.le_of_ble_eq_true rfl)) dX3_greatestAbove_35 ⟨Nat.le_of_ble_eq_true rfl, Nat.le_of_ble_eq_true rfl⟩) hS (fun q _ h => hFc q h) hFc (fun u ra_35 zt H1 locs zht hvm hw hB hz1 hk1 hS => ?_)
      obtain ⟨e1, e2⟩ := u
      obtain ⟨ok_e1, v_e1⟩ := hw
      obtain ⟨era, hP1, hK1, hD1⟩ := hB
      rw [zht] at hP1
      have ok_e1 : pd_ok e1 := ok_e1
      have v_e1 : pd_v e1 17 = pm_G n (j + 2 ^ q) n m * 1000 ^ (48 - n) := v_e1
      obtain ⟨hP, hD⟩ := va_join (wr := [(f0, .inr (3, [v0, .ref c0, v2, v3, v4, v5]))]) (w1 := [(c0, .inr (0, [.ref s0, .ref t0])), (s0, .inr (1, [.ref sa])), (sa, .inl (cJ, 17, .inr (.inl (fun j => lN (e1 j))))), (t0, .inr (1, [.ref ta])), (ta, .inl (cJ, 17, .inr (.inl (fun j => lN (e2 j)))))]) hP hD [1, 2, 3, 4, 5] [0] rfl rfl (by decide) (by decide) hk1 hFc hP1 hD1
      generalize H1 = H at hP hS ⊢
      have hP : va_P (dC, dI) vwCl [(f0, .inr (3, [v0, .ref c0, v2, v3, v4, v5])), (c0, .inr (0, [.ref s0, .ref t0])), (s0, .inr (1, [.ref sa])), (sa, .inl (cJ, 17, .inr (.inl (fun j => lN (e1 j))))), (t0, .inr (1, [.ref ta])), (ta, .inl (cJ, 17, .inr (.inl (fun j => lN (e2 j)))))] H := hP
      have hD : va_D A [(f0, .inr (3, [v0, .ref c0, v2, v3, v4, v5])), (c0, .inr (0, [.ref s0, .ref t0])), (s0, .inr (1, [.ref sa])), (sa, .inl (cJ, 17, .inr (.inl (fun j => lN (e1 j))))), (t0, .inr (1, [.ref ta])), (ta, .inl (cJ, 17, .inr (.inl (fun j => lN (e2 j)))))] := hD
      rw [era]
      refine lv_iload_n hx hb dX3_greatestAbove_38 rfl (lv_at hl 3 rfl) ?_
      have hPc := hP.sub (ws' := [(s0, .inr (1, [.ref sa])), (sa, .inl (cJ, 17, .inr (.inl (fun j => lN (e1 j)))))]) [2, 3] rfl
      have hKc := hK.sub (tys' := [(cJ, .long)]) [0] rfl
      refine vp_callSi (va_runV (As := [.int (nI lv)]) (rest := []) ⟨hx, hb, hml, hown, hts⟩ (c_dec_above l dC dI s0 sa cJ e1 lv ok_e1 hlv) (cwV 1 hts gX3_greatestAbove_X1_isAbove rfl rfl rfl (by decide +kernel) ⟨Nat.le_of_ble_eq_true rfl, Nat.le_of_ble_eq_true rfl⟩) (fw_preVR hN hKc hPc (ci := 1) (q0 := 0) rfl rfl) rfl rfl hl.1 rfl (lv_room (Nat.le_of_ble_eq_true rfl)) dX3_greatestAbove_39 ⟨Nat.le_of_ble_eq_true rfl, Nat.le_of_ble_eq_true rfl⟩).run (fun r_39 hr_39 => ?_)
      obtain rfl : r_39 = zI (pv_above n m (j + 2 ^ q) lv) := by rw [hr_39, pv_above_v hn48 v_e1]
      refine lv_if_eq (tgt := 52) hx hb dX3_greatestAbove_42 (by decide) (fun c_42 => ?_) (fun c_42 => ?_)
      · -- then 42
        have h42 := zI_eq0.mp c_42
        refine lv_iload hx hb dX3_greatestAbove_52 (lv_at hl 5 rfl) ?_
        refine lv_iconst (v := 2) hx hb dX3_greatestAbove_54 (by decide) ?_
        refine lv_idiv hx hb dX3_greatestAbove_55 (by decide) ?_
        refine fw_i (x' := nI (2 ^ q / 2)) (pk_div (d := 2) (by omega) (by decide) (by decide)) ?_
        refine lv_istore (lv' := [(5, .int (nI (2 ^ q / 2))), (0, .ref f0), (1, .int (nI n)), (2, .int (nI m)), (3, .int (nI lv)), (4, .int (nI j))]) hx hb dX3_greatestAbove_56 hl (by decide) rfl (fun ls hl => ?_)
        refine lv_goto (tgt := 8) hx hb dX3_greatestAbove_58 (by decide) ?_
        exact ih_8 _ (q, j, e1, e2) _ _ _ (by omega) ⟨rfl, by omega, hj, ha, fun i h1 h2 => gv_no (by omega) h42 h1 h2, hP.sub [0, 1, 2, 3, 4, 5] rfl, hD.sub [0, 1, 2, 3, 4, 5] (by decide) rfl, hS, lv_sub hl [1, 2, 3, 4, 5, 0] rfl⟩
      · -- else 42
        have h42 := zI_ne0.mp c_42
        refine lv_iload hx hb dX3_greatestAbove_45 (lv_at hl 4 rfl) ?_
        refine lv_iload hx hb dX3_greatestAbove_47 (lv_at hl 5 rfl) ?_
        refine lv_iadd hx hb dX3_greatestAbove_49 ?_
        refine fw_i (x' := nI (j + 2 ^ q)) (nI_add _ _) ?_
        refine lv_istore (lv' := [(4, .int (nI (j + 2 ^ q))), (0, .ref f0), (1, .int (nI n)), (2, .int (nI m)), (3, .int (nI lv)), (5, .int (nI (2 ^ q)))]) hx hb dX3_greatestAbove_50 hl (by decide) rfl (fun ls hl => ?_)
        refine lv_iload hx hb dX3_greatestAbove_52 (lv_at hl 5 rfl) ?_
        refine lv_iconst (v := 2) hx hb dX3_greatestAbove_54 (by decide) ?_
        refine lv_idiv hx hb dX3_greatestAbove_55 (by decide) ?_
        refine fw_i (x' := nI (2 ^ q / 2)) (pk_div (d := 2) (by omega) (by decide) (by decide)) ?_
        refine lv_istore (lv' := [(5, .int (nI (2 ^ q / 2))), (4, .int (nI (j + 2 ^ q))), (0, .ref f0), (1, .int (nI n)), (2, .int (nI m)), (3, .int (nI lv))]) hx hb dX3_greatestAbove_56 hl (by decide) rfl (fun ls hl => ?_)
        refine lv_goto (tgt := 8) hx hb dX3_greatestAbove_58 (by decide) ?_
        exact ih_8 _ (q, j + 2 ^ q, e1, e2) _ _ _ (by omega) ⟨rfl, by omega, by omega, h42, fun i h1 h2 => hb_ i (by omega) h2, hP.sub [0, 1, 2, 3, 4, 5] rfl, hD.sub [0, 1, 2, 3, 4, 5] (by decide) rfl, hS, lv_sub hl [2, 3, 4, 5, 1, 0] rfl⟩
set_option maxHeartbeats 4000000 in
set_option maxRecDepth 100000 in
theorem c_fla_take (l : Launch) (dC : Nat → ClassId) (dI : Nat → Nat → Nat) (f0 c0 s0 sa t0 ta h0 ea pa : Nat) (cJ cI cZ : ClassId) (v0 v2 : Value) (lv mr cr : Nat) (ds dt : Nat → Nat) (s o : Nat) (x4 x5 x6 : Int32) (mk : Bool) (tm : Nat) (v9 v10 : Value) (e : Nat → Int32) (b : Nat → Bool) (x : Int32) (q : Bool) (sz : Nat) (hlv : lv ≤ 999) (hmr : mr ≤ 1000) (hcr : cr ≤ 1000) (hs : s ≤ 48) (ho : o < 48) : Met l yX3_take wsX3_take ({ frames := 3, cells := 0, slots := 0, locals := 74 } : Room) (va_Pc [.ref f0, .ref h0, .int x, .int (zI q)] (fw_pW (dC, dI) vwCl [(cJ, .long), (cI, .int), (cZ, .boolean)] [(f0, .inr (3, [v0, .ref c0, v2, .int (nI lv), .int (nI mr), .int (nI cr)])), (c0, .inr (0, [.ref s0, .ref t0])), (s0, .inr (1, [.ref sa])), (sa, .inl (cJ, 17, .inr (.inl (fun j => lN (ds j))))), (t0, .inr (1, [.ref ta])), (ta, .inl (cJ, 17, .inr (.inl (fun j => lN (dt j))))), (h0, .inr (2, [.ref ea, .ref pa, .int (nI s), .int (nI o), .int x4, .int x5, .int x6, .int (zI mk), .int (nI tm), v9, v10])), (ea, .inl (cI, 48, .inl (e))), (pa, .inl (cZ, 48, .inl (fun j => zI (b j))))] sz)) (va_Qv (S := (Nat → Nat) × (Nat → Nat)) (fun _ => True) (fun u t => fw_q (dC, dI) vwCl [(cJ, .long), (cI, .int), (cZ, .boolean)] (va_A [(f0, .inr (3, [v0, .ref c0, v2, .int (nI lv), .int (nI mr), .int (nI cr)])), (c0, .inr (0, [.ref s0, .ref t0])), (s0, .inr (1, [.ref sa])), (sa, .inl (cJ, 17, .inr (.inl (fun j => lN (ds j))))), (t0, .inr (1, [.ref ta])), (ta, .inl (cJ, 17, .inr (.inl (fun j => lN (dt j))))), (h0, .inr (2, [.ref ea, .ref pa, .int (nI s), .int (nI o), .int x4, .int x5, .int x6, .int (zI mk), .int (nI tm), v9, v10])), (ea, .inl (cI, 48, .inl (e))), (pa, .inl (cZ, 48, .inl (fun j => zI (b j))))] sz) [(f0, .inr (3, [v0, .ref c0, v2, .int (nI lv), .int (nI mr), .int (nI cr)])), (c0, .inr (0, [.ref s0, .ref t0])), (s0, .inr (1, [.ref sa])), (sa, .inl (cJ, 17, .inr (.inl (fun j => lN (u.1 j))))), (t0, .inr (1, [.ref ta])), (ta, .inl (cJ, 17, .inr (.inl (fun j => lN (u.2 j))))), (h0, .inr (2, [.ref ea, .ref pa, .int (nI (hv_s s)), .int (nI (hv_o s o)), .int (nI (hv_D (upd e (hv_slot s o) x) (va_up b (hv_slot s o) q) (hv_s s) (hv_s s))), .int (nI (hv_N (upd e (hv_slot s o) x) (va_up b (hv_slot s o) q) (hv_s s) (hv_s s))), .int (nI (hv_X (upd e (hv_slot s o) x) (va_up b (hv_slot s o) q) (hv_s s) (hv_s s))), .int (zI (tk_m mk (hv_N (upd e (hv_slot s o) x) (va_up b (hv_slot s o) q) (hv_s s) (hv_s s)) (hv_X (upd e (hv_slot s o) x) (va_up b (hv_slot s o) q) (hv_s s) (hv_s s)) lv mr cr)), .int (nI (tk_t mk tm (hv_N (upd e (hv_slot s o) x) (va_up b (hv_slot s o) q) (hv_s s) (hv_s s)) (hv_X (upd e (hv_slot s o) x) (va_up b (hv_slot s o) q) (hv_s s) (hv_s s)) lv mr)), v9, v10])), (ea, .inl (cI, 48, .inl ((upd e (hv_slot s o) x)))), (pa, .inl (cZ, 48, .inl (fun j => zI ((va_up b (hv_slot s o) q) j))))] t) (va_A [(f0, .inr (3, [v0, .ref c0, v2, .int (nI lv), .int (nI mr), .int (nI cr)])), (c0, .inr (0, [.ref s0, .ref t0])), (s0, .inr (1, [.ref sa])), (sa, .inl (cJ, 17, .inr (.inl (fun j => lN (ds j))))), (t0, .inr (1, [.ref ta])), (ta, .inl (cJ, 17, .inr (.inl (fun j => lN (dt j))))), (h0, .inr (2, [.ref ea, .ref pa, .int (nI s), .int (nI o), .int x4, .int x5, .int x6, .int (zI mk), .int (nI tm), v9, v10])), (ea, .inl (cI, 48, .inl (e))), (pa, .inl (cZ, 48, .inl (fun j => zI (b j))))] sz)) 0 0 (va_A [(f0, .inr (3, [v0, .ref c0, v2, .int (nI lv), .int (nI mr), .int (nI cr)])), (c0, .inr (0, [.ref s0, .ref t0])), (s0, .inr (1, [.ref sa])), (sa, .inl (cJ, 17, .inr (.inl (fun j => lN (ds j))))), (t0, .inr (1, [.ref ta])), (ta, .inl (cJ, 17, .inr (.inl (fun j => lN (dt j))))), (h0, .inr (2, [.ref ea, .ref pa, .int (nI s), .int (nI o), .int x4, .int x5, .int x6, .int (zI mk), .int (nI tm), v9, v10])), (ea, .inl (cI, 48, .inl (e))), (pa, .inl (cZ, 48, .inl (fun j => zI (b j))))] sz) := by
  refine fw_metW (cc := cX3_take) (maxL := 4) (ret := none) (by decide) rfl (Nat.le_of_ble_eq_true rfl) ?_
  intro zp ze zs zm zbelow zmeth zc ls hx hb hr hts hown hlocks hml hin hN hsz hP hK hD hA hS hl
  generalize hAe : (va_A [(f0, .inr (3, [v0, .ref c0, v2, .int (nI lv), .int (nI mr), .int (nI cr)])), (c0, .inr (0, [.ref s0, .ref t0])), (s0, .inr (1, [.ref sa])), (sa, .inl (cJ, 17, .inr (.inl (fun j => lN (ds j))))), (t0, .inr (1, [.ref ta])), (ta, .inl (cJ, 17, .inr (.inl (fun j => lN (dt j))))), (h0, .inr (2, [.ref ea, .ref pa, .int (nI s), .int (nI o), .int x4, .int x5, .int x6, .int (zI mk), .int (nI tm), v9, v10])), (ea, .inl (cI, 48, .inl (e))), (pa, .inl (cZ, 48, .inl (fun j => zI (b j))))] sz) = A at hD hA hS ⊢
  have hown : zs.vm.findClass RX3 = some zm.cls := hown
  have hl : lv_has ls 4 [(0, .ref f0), (1, .ref h0), (2, .int x), (3, .int (zI q))] := hl
  refine lv_aload_n hx hb dX3_take_0 rfl (lv_at hl 1 rfl) ?_
  refine lv_iload_n hx hb dX3_take_1 rfl (lv_at hl 2 rfl) ?_
  refine lv_iload_n hx hb dX3_take_2 rfl (lv_at hl 3 rfl) ?_
  have hPc := hP.sub (ws' := [(h0, .inr (2, [.ref ea, .ref pa, .int (nI s), .int (nI o), .int x4, .int x5, .int x6, .int (zI mk), .int (nI tm), v9, v10])), (ea, .inl (cI, 48, .inl (e))), (pa, .inl (cZ, 48, .inl (fun j => zI (b j))))]) [6, 7, 8] rfl
  have hKc := hK.sub (tys' := [(cI, .int), (cZ, .boolean)]) [1, 2] rfl
  have hDc := hD.sub (ws' := [(h0, .inr (2, [.ref ea, .ref pa, .int (nI s), .int (nI o), .int x4, .int x5, .int x6, .int (zI mk), .int (nI tm), v9, v10])), (ea, .inl (cI, 48, .inl (e))), (pa, .inl (cZ, 48, .inl (fun j => zI (b j))))]) [6, 7, 8] (by decide) rfl
  have hFc := va_free (wc := [(h0, .inr (2, [.ref ea, .ref pa, .int (nI s), .int (nI o), .int x4, .int x5, .int x6, .int (zI mk), .int (nI tm), v9, v10])), (ea, .inl (cI, 48, .inl (e))), (pa, .inl (cZ, 48, .inl (fun j => zI (b j))))]) hD hS hA [6, 7, 8] rfl
  refine va_callv (va_runV (As := [.int x, .int (zI q)]) (rest := []) ⟨hx, hb, hml, hown, hts⟩ (c_his_add l dC dI h0 ea pa cI cZ s o x4 x5 x6 (.int (zI mk)) (.int (nI tm)) v9 v10 e b x q zs.heap.size hs ho) (cwV 2 hts gX3_take_X2_add rfl rfl rfl (by decide +kernel) ⟨Nat.le_of_ble_eq_true rfl, Nat.le_of_ble_eq_true rfl⟩) (fw_preVW hN hKc hPc hDc (ci := 2) (q0 := 0) rfl rfl) rfl rfl hl.1 rfl (lv_room (Nat.le_of_ble_eq_true rfl)) dX3_take_3 ⟨Nat.le_of_ble_eq_true rfl, Nat.le_of_ble_eq_true rfl⟩) hS (fun q _ h => hFc q h) hFc (fun u zt H1 locs zht hvm hw hB hz1 hk1 hS => ?_)
  obtain ⟨⟩ := u
  obtain ⟨hP1, hK1, hD1⟩ := hB
  rw [zht] at hP1
  obtain ⟨hP, hD⟩ := va_join (wr := [(f0, .inr (3, [v0, .ref c0, v2, .int (nI lv), .int (nI mr), .int (nI cr)])), (c0, .inr (0, [.ref s0, .ref t0])), (s0, .inr (1, [.ref sa])), (sa, .inl (cJ, 17, .inr (.inl (fun j => lN (ds j))))), (t0, .inr (1, [.ref ta])), (ta, .inl (cJ, 17, .inr (.inl (fun j => lN (dt j)))))]) (w1 := [(h0, .inr (2, [.ref ea, .ref pa, .int (nI (hv_s s)), .int (nI (hv_o s o)), .int (nI (hv_D (upd e (hv_slot s o) x) (va_up b (hv_slot s o) q) (hv_s s) (hv_s s))), .int (nI (hv_N (upd e (hv_slot s o) x) (va_up b (hv_slot s o) q) (hv_s s) (hv_s s))), .int (nI (hv_X (upd e (hv_slot s o) x) (va_up b (hv_slot s o) q) (hv_s s) (hv_s s))), .int (zI mk), .int (nI tm), v9, v10])), (ea, .inl (cI, 48, .inl ((upd e (hv_slot s o) x)))), (pa, .inl (cZ, 48, .inl (fun j => zI ((va_up b (hv_slot s o) q) j))))]) hP hD [6, 7, 8] [0, 1, 2, 3, 4, 5] rfl rfl (by decide) (by decide) hk1 hFc hP1 hD1
  generalize H1 = H at hP hS ⊢
  have hP : va_P (dC, dI) vwCl [(f0, .inr (3, [v0, .ref c0, v2, .int (nI lv), .int (nI mr), .int (nI cr)])), (c0, .inr (0, [.ref s0, .ref t0])), (s0, .inr (1, [.ref sa])), (sa, .inl (cJ, 17, .inr (.inl (fun j => lN (ds j))))), (t0, .inr (1, [.ref ta])), (ta, .inl (cJ, 17, .inr (.inl (fun j => lN (dt j))))), (h0, .inr (2, [.ref ea, .ref pa, .int (nI (hv_s s)), .int (nI (hv_o s o)), .int (nI (hv_D (upd e (hv_slot s o) x) (va_up b (hv_slot s o) q) (hv_s s) (hv_s s))), .int (nI (hv_N (upd e (hv_slot s o) x) (va_up b (hv_slot s o) q) (hv_s s) (hv_s s))), .int (nI (hv_X (upd e (hv_slot s o) x) (va_up b (hv_slot s o) q) (hv_s s) (hv_s s))), .int (zI mk), .int (nI tm), v9, v10])), (ea, .inl (cI, 48, .inl ((upd e (hv_slot s o) x)))), (pa, .inl (cZ, 48, .inl (fun j => zI ((va_up b (hv_slot s o) q) j))))] H := hP
  have hD : va_D A [(f0, .inr (3, [v0, .ref c0, v2, .int (nI lv), .int (nI mr), .int (nI cr)])), (c0, .inr (0, [.ref s0, .ref t0])), (s0, .inr (1, [.ref sa])), (sa, .inl (cJ, 17, .inr (.inl (fun j => lN (ds j))))), (t0, .inr (1, [.ref ta])), (ta, .inl (cJ, 17, .inr (.inl (fun j => lN (dt j))))), (h0, .inr (2, [.ref ea, .ref pa, .int (nI (hv_s s)), .int (nI (hv_o s o)), .int (nI (hv_D (upd e (hv_slot s o) x) (va_up b (hv_slot s o) q) (hv_s s) (hv_s s))), .int (nI (hv_N (upd e (hv_slot s o) x) (va_up b (hv_slot s o) q) (hv_s s) (hv_s s))), .int (nI (hv_X (upd e (hv_slot s o) x) (va_up b (hv_slot s o) q) (hv_s s) (hv_s s))), .int (zI mk), .int (nI tm), v9, v10])), (ea, .inl (cI, 48, .inl ((upd e (hv_slot s o) x)))), (pa, .inl (cZ, 48, .inl (fun j => zI ((va_up b (hv_slot s o) q) j))))] := hD
  have hs2 : hv_s s ≤ 48 := by unfold hv_s; split <;> omega
  have hN48 : (hv_N (upd e (hv_slot s o) x) (va_up b (hv_slot s o) q) (hv_s s) (hv_s s)) ≤ 48 := Nat.le_trans (hv_N_le _ _ _ _) hs2
  have hXN : (hv_X (upd e (hv_slot s o) x) (va_up b (hv_slot s o) q) (hv_s s) (hv_s s)) ≤ (hv_N (upd e (hv_slot s o) x) (va_up b (hv_slot s o) q) (hv_s s) (hv_s s)) := hv_X_le _ _ _ _
  generalize (hv_D (upd e (hv_slot s o) x) (va_up b (hv_slot s o) q) (hv_s s) (hv_s s)) = Dd at hP hD ⊢
  generalize (hv_N (upd e (hv_slot s o) x) (va_up b (hv_slot s o) q) (hv_s s) (hv_s s)) = N at hP hD hN48 hXN ⊢
  generalize (hv_X (upd e (hv_slot s o) x) (va_up b (hv_slot s o) q) (hv_s s) (hv_s s)) = X at hP hD hXN ⊢
  refine lv_aload_n hx hb dX3_take_6 rfl (lv_at hl 1 rfl) ?_
  cases mk
  · -- f
    refine va_getN (D := (dC, dI)) (ci := 2) (v := .int (zI false)) (C := RX2) (T := TX2) (N := 11) hx hb hts (by decide +kernel) hown hK hP 6 rfl rfl 7 (by decide) (va_Nw.use rfl (hN.2.2.2.2.2.1)) (fun _ h9 => h9) rfl dX3_take_7 ?_
    refine lv_if_eq (tgt := 38) hx hb dX3_take_10 (by decide) (fun _ => ?_) (fun c_10 => absurd (rfl) c_10)
    refine lv_aload_n hx hb dX3_take_38 rfl (lv_at hl 0 rfl) ?_
    refine lv_aload_n hx hb dX3_take_39 rfl (lv_at hl 1 rfl) ?_
    refine lv_aload_n hx hb dX3_take_40 rfl (lv_at hl 0 rfl) ?_
    refine va_get (D := (dC, dI)) (ci := 3) (v := .int (nI mr)) (C := RX3) (T := TX3) (N := 6) hx hb hts (by decide +kernel) hown hK hP 0 rfl rfl 4 (by decide) (hts (.fieldLink RX3 29 "FlakyBounds" "ruleMark" "I") (by decide +kernel)) (fun _ h9 => h9) rfl dX3_take_41 ?_
    have hPc := hP.sub (ws' := [(f0, .inr (3, [v0, .ref c0, v2, .int (nI lv), .int (nI mr), .int (nI cr)])), (c0, .inr (0, [.ref s0, .ref t0])), (s0, .inr (1, [.ref sa])), (sa, .inl (cJ, 17, .inr (.inl (fun j => lN (ds j))))), (t0, .inr (1, [.ref ta])), (ta, .inl (cJ, 17, .inr (.inl (fun j => lN (dt j))))), (h0, .inr (2, [.ref ea, .ref pa, .int (nI (hv_s s)), .int (nI (hv_o s o)), .int (nI Dd), .int (nI N), .int (nI X), .int (zI false), .int (nI tm), v9, v10]))]) [0, 1, 2, 3, 4, 5, 6] rfl
    have hKc := hK.sub (tys' := [(cJ, .long)]) [0] rfl
    have hDc := hD.sub (ws' := [(f0, .inr (3, [v0, .ref c0, v2, .int (nI lv), .int (nI mr), .int (nI cr)])), (c0, .inr (0, [.ref s0, .ref t0])), (s0, .inr (1, [.ref sa])), (sa, .inl (cJ, 17, .inr (.inl (fun j => lN (ds j))))), (t0, .inr (1, [.ref ta])), (ta, .inl (cJ, 17, .inr (.inl (fun j => lN (dt j))))), (h0, .inr (2, [.ref ea, .ref pa, .int (nI (hv_s s)), .int (nI (hv_o s o)), .int (nI Dd), .int (nI N), .int (nI X), .int (zI false), .int (nI tm), v9, v10]))]) [0, 1, 2, 3, 4, 5, 6] (by decide) rfl
    have hFc := va_free (wc := [(f0, .inr (3, [v0, .ref c0, v2, .int (nI lv), .int (nI mr), .int (nI cr)])), (c0, .inr (0, [.ref s0, .ref t0])), (s0, .inr (1, [.ref sa])), (sa, .inl (cJ, 17, .inr (.inl (fun j => lN (ds j))))), (t0, .inr (1, [.ref ta])), (ta, .inl (cJ, 17, .inr (.inl (fun j => lN (dt j))))), (h0, .inr (2, [.ref ea, .ref pa, .int (nI (hv_s s)), .int (nI (hv_o s o)), .int (nI Dd), .int (nI N), .int (nI X), .int (zI false), .int (nI tm), v9, v10]))]) hD hS hA [0, 1, 2, 3, 4, 5, 6] rfl
    refine va_callr (va_runV (As := [.ref h0, .int (nI mr)]) (rest := []) ⟨hx, hb, hml, hown, hts⟩ (c_fla_least l dC dI f0 c0 s0 sa t0 ta h0 cJ v0 v2 (.int (nI lv)) (.int (nI mr)) (.int (nI cr)) (.ref ea) (.ref pa) (.int (nI (hv_s s))) (.int (nI (hv_o s o))) (.int (nI Dd)) (.int (zI false)) (.int (nI tm)) v9 v10 ds dt N X mr H.size hN48 hXN (by omega)) (cwV 2 hts gX3_take_X3_atLeast rfl rfl rfl (by decide +kernel) ⟨Nat.le_of_ble_eq_true rfl, Nat.le_of_ble_eq_true rfl⟩) (fw_preVW hN hKc hPc hDc (ci := 3) (q0 := 0) rfl rfl) rfl rfl hl.1 rfl (lv_room (Nat.le_of_ble_eq_true rfl)) dX3_take_44 ⟨Nat.le_of_ble_eq_true rfl, Nat.le_of_ble_eq_true rfl⟩) hS (fun q _ h => hFc q h) hFc (fun u ra_44 zt H1 locs zht hvm hw hB hz1 hk1 hS => ?_)
    obtain ⟨e1, e2⟩ := u
    obtain ⟨ok_e1, v_e1⟩ := hw
    obtain ⟨era, hP1, hK1, hD1⟩ := hB
    rw [zht] at hP1
    have ok_e1 : pd_ok e1 := ok_e1
    have v_e1 : pd_v e1 17 = pm_G N (1000 - mr) N (N - X) * 1000 ^ (48 - N) := v_e1
    obtain ⟨hP, hD⟩ := va_join (wr := [(ea, .inl (cI, 48, .inl ((upd e (hv_slot s o) x)))), (pa, .inl (cZ, 48, .inl (fun j => zI ((va_up b (hv_slot s o) q) j))))]) (w1 := [(f0, .inr (3, [v0, .ref c0, v2, .int (nI lv), .int (nI mr), .int (nI cr)])), (c0, .inr (0, [.ref s0, .ref t0])), (s0, .inr (1, [.ref sa])), (sa, .inl (cJ, 17, .inr (.inl (fun j => lN (e1 j))))), (t0, .inr (1, [.ref ta])), (ta, .inl (cJ, 17, .inr (.inl (fun j => lN (e2 j))))), (h0, .inr (2, [.ref ea, .ref pa, .int (nI (hv_s s)), .int (nI (hv_o s o)), .int (nI Dd), .int (nI N), .int (nI X), .int (zI false), .int (nI tm), v9, v10]))]) hP hD [0, 1, 2, 3, 4, 5, 6] [7, 8] rfl rfl (by decide) (by decide) hk1 hFc hP1 hD1
    generalize H1 = H at hP hS ⊢
    have hP : va_P (dC, dI) vwCl [(ea, .inl (cI, 48, .inl ((upd e (hv_slot s o) x)))), (pa, .inl (cZ, 48, .inl (fun j => zI ((va_up b (hv_slot s o) q) j)))), (f0, .inr (3, [v0, .ref c0, v2, .int (nI lv), .int (nI mr), .int (nI cr)])), (c0, .inr (0, [.ref s0, .ref t0])), (s0, .inr (1, [.ref sa])), (sa, .inl (cJ, 17, .inr (.inl (fun j => lN (e1 j))))), (t0, .inr (1, [.ref ta])), (ta, .inl (cJ, 17, .inr (.inl (fun j => lN (e2 j))))), (h0, .inr (2, [.ref ea, .ref pa, .int (nI (hv_s s)), .int (nI (hv_o s o)), .int (nI Dd), .int (nI N), .int (nI X), .int (zI false), .int (nI tm), v9, v10]))] H := hP
    have hD : va_D A [(ea, .inl (cI, 48, .inl ((upd e (hv_slot s o) x)))), (pa, .inl (cZ, 48, .inl (fun j => zI ((va_up b (hv_slot s o) q) j)))), (f0, .inr (3, [v0, .ref c0, v2, .int (nI lv), .int (nI mr), .int (nI cr)])), (c0, .inr (0, [.ref s0, .ref t0])), (s0, .inr (1, [.ref sa])), (sa, .inl (cJ, 17, .inr (.inl (fun j => lN (e1 j))))), (t0, .inr (1, [.ref ta])), (ta, .inl (cJ, 17, .inr (.inl (fun j => lN (e2 j))))), (h0, .inr (2, [.ref ea, .ref pa, .int (nI (hv_s s)), .int (nI (hv_o s o)), .int (nI Dd), .int (nI N), .int (nI X), .int (zI false), .int (nI tm), v9, v10]))] := hD
    rw [era]
    refine lv_aload_n hx hb dX3_take_47 rfl (lv_at hl 0 rfl) ?_
    refine va_get (D := (dC, dI)) (ci := 3) (v := .int (nI lv)) (C := RX3) (T := TX3) (N := 6) hx hb hts (by decide +kernel) hown hK hP 2 rfl rfl 3 (by decide) (hts (.fieldLink RX3 26 "FlakyBounds" "ruleLevel" "I") (by decide +kernel)) (fun _ h9 => h9) rfl dX3_take_48 ?_
    have hPc := hP.sub (ws' := [(s0, .inr (1, [.ref sa])), (sa, .inl (cJ, 17, .inr (.inl (fun j => lN (e1 j)))))]) [4, 5] rfl
    have hKc := hK.sub (tys' := [(cJ, .long)]) [0] rfl
    refine vp_callSi (va_runV (As := [.int (nI lv)]) (rest := []) ⟨hx, hb, hml, hown, hts⟩ (c_dec_above l dC dI s0 sa cJ e1 lv ok_e1 hlv) (cwV 1 hts gX3_take_X1_isAbove rfl rfl rfl (by decide +kernel) ⟨Nat.le_of_ble_eq_true rfl, Nat.le_of_ble_eq_true rfl⟩) (fw_preVR hN hKc hPc (ci := 1) (q0 := 0) rfl rfl) rfl rfl hl.1 rfl (lv_room (Nat.le_of_ble_eq_true rfl)) dX3_take_51 ⟨Nat.le_of_ble_eq_true rfl, Nat.le_of_ble_eq_true rfl⟩).run (fun r_51 hr_51 => ?_)
    obtain rfl : r_51 = zI (pv_above N (N - X) (1000 - mr) lv) := by rw [hr_51, pv_above_v hN48 v_e1]
    refine lv_if_ne (tgt := 72) hx hb dX3_take_54 (by decide) (fun c_54 => ?_) (fun c_54 => ?_)
    · -- then 54
      have h54 := zI_ne0.mp c_54
      have z1 : tk_m false N X lv mr cr = false := by unfold tk_m; rw [if_neg (by decide), h54]; rfl
      have z2 : tk_t false tm N X lv mr = tm := by unfold tk_t; rw [if_neg (by decide), h54]; rfl
      have hP := hP.sub (ws' := [(f0, .inr (3, [v0, .ref c0, v2, .int (nI lv), .int (nI mr), .int (nI cr)])), (c0, .inr (0, [.ref s0, .ref t0])), (s0, .inr (1, [.ref sa])), (sa, .inl (cJ, 17, .inr (.inl (fun j => lN (e1 j))))), (t0, .inr (1, [.ref ta])), (ta, .inl (cJ, 17, .inr (.inl (fun j => lN (e2 j))))), (h0, .inr (2, [.ref ea, .ref pa, .int (nI (hv_s s)), .int (nI (hv_o s o)), .int (nI Dd), .int (nI N), .int (nI X), .int (zI false), .int (nI tm), v9, v10])), (ea, .inl (cI, 48, .inl ((upd e (hv_slot s o) x)))), (pa, .inl (cZ, 48, .inl (fun j => zI ((va_up b (hv_slot s o) q) j))))]) [2, 3, 4, 5, 6, 7, 8, 0, 1] rfl
      have hD := hD.sub (ws' := [(f0, .inr (3, [v0, .ref c0, v2, .int (nI lv), .int (nI mr), .int (nI cr)])), (c0, .inr (0, [.ref s0, .ref t0])), (s0, .inr (1, [.ref sa])), (sa, .inl (cJ, 17, .inr (.inl (fun j => lN (e1 j))))), (t0, .inr (1, [.ref ta])), (ta, .inl (cJ, 17, .inr (.inl (fun j => lN (e2 j))))), (h0, .inr (2, [.ref ea, .ref pa, .int (nI (hv_s s)), .int (nI (hv_o s o)), .int (nI Dd), .int (nI N), .int (nI X), .int (zI false), .int (nI tm), v9, v10])), (ea, .inl (cI, 48, .inl ((upd e (hv_slot s o) x)))), (pa, .inl (cZ, 48, .inl (fun j => zI ((va_up b (hv_slot s o) q) j))))]) [2, 3, 4, 5, 6, 7, 8, 0, 1] (by decide) rfl
      have hP : va_P (dC, dI) vwCl [(f0, .inr (3, [v0, .ref c0, v2, .int (nI lv), .int (nI mr), .int (nI cr)])), (c0, .inr (0, [.ref s0, .ref t0])), (s0, .inr (1, [.ref sa])), (sa, .inl (cJ, 17, .inr (.inl (fun j => lN (e1 j))))), (t0, .inr (1, [.ref ta])), (ta, .inl (cJ, 17, .inr (.inl (fun j => lN (e2 j))))), (h0, .inr (2, [.ref ea, .ref pa, .int (nI (hv_s s)), .int (nI (hv_o s o)), .int (nI Dd), .int (nI N), .int (nI X), .int (zI (tk_m false N X lv mr cr)), .int (nI (tk_t false tm N X lv mr)), v9, v10])), (ea, .inl (cI, 48, .inl ((upd e (hv_slot s o) x)))), (pa, .inl (cZ, 48, .inl (fun j => zI ((va_up b (hv_slot s o) q) j))))] H := by rw [z1, z2]; exact hP
      have hD : va_D A [(f0, .inr (3, [v0, .ref c0, v2, .int (nI lv), .int (nI mr), .int (nI cr)])), (c0, .inr (0, [.ref s0, .ref t0])), (s0, .inr (1, [.ref sa])), (sa, .inl (cJ, 17, .inr (.inl (fun j => lN (e1 j))))), (t0, .inr (1, [.ref ta])), (ta, .inl (cJ, 17, .inr (.inl (fun j => lN (e2 j))))), (h0, .inr (2, [.ref ea, .ref pa, .int (nI (hv_s s)), .int (nI (hv_o s o)), .int (nI Dd), .int (nI N), .int (nI X), .int (zI (tk_m false N X lv mr cr)), .int (nI (tk_t false tm N X lv mr)), v9, v10])), (ea, .inl (cI, 48, .inl ((upd e (hv_slot s o) x)))), (pa, .inl (cZ, 48, .inl (fun j => zI ((va_up b (hv_slot s o) q) j))))] := by rw [z1, z2]; exact hD
      have hP9 := hP.sub (ws' := [(f0, .inr (3, [v0, .ref c0, v2, .int (nI lv), .int (nI mr), .int (nI cr)])), (c0, .inr (0, [.ref s0, .ref t0])), (s0, .inr (1, [.ref sa])), (sa, .inl (cJ, 17, .inr (.inl (fun j => lN (e1 j))))), (t0, .inr (1, [.ref ta])), (ta, .inl (cJ, 17, .inr (.inl (fun j => lN (e2 j))))), (h0, .inr (2, [.ref ea, .ref pa, .int (nI (hv_s s)), .int (nI (hv_o s o)), .int (nI Dd), .int (nI N), .int (nI X), .int (zI (tk_m false N X lv mr cr)), .int (nI (tk_t false tm N X lv mr)), v9, v10])), (ea, .inl (cI, 48, .inl ((upd e (hv_slot s o) x)))), (pa, .inl (cZ, 48, .inl (fun j => zI ((va_up b (hv_slot s o) q) j))))]) [0, 1, 2, 3, 4, 5, 6, 7, 8] rfl
      have hD9 := hD.sub (ws' := [(f0, .inr (3, [v0, .ref c0, v2, .int (nI lv), .int (nI mr), .int (nI cr)])), (c0, .inr (0, [.ref s0, .ref t0])), (s0, .inr (1, [.ref sa])), (sa, .inl (cJ, 17, .inr (.inl (fun j => lN (e1 j))))), (t0, .inr (1, [.ref ta])), (ta, .inl (cJ, 17, .inr (.inl (fun j => lN (e2 j))))), (h0, .inr (2, [.ref ea, .ref pa, .int (nI (hv_s s)), .int (nI (hv_o s o)), .int (nI Dd), .int (nI N), .int (nI X), .int (zI (tk_m false N X lv mr cr)), .int (nI (tk_t false tm N X lv mr)), v9, v10])), (ea, .inl (cI, 48, .inl ((upd e (hv_slot s o) x)))), (pa, .inl (cZ, 48, .inl (fun j => zI ((va_up b (hv_slot s o) q) j))))]) [0, 1, 2, 3, 4, 5, 6, 7, 8] (by decide) rfl
      have hK9 := hK.sub (tys' := [(cJ, .long), (cI, .int), (cZ, .boolean)]) [0, 1, 2] rfl
      exact W.vret hx hb hr (fun zt zht hW => ⟨⟨(e1, e2), rfl, trivial, by rw [zht]; exact hP9, va_K.moved hW.alike hK9, hD9⟩, hS.F zht⟩) hS.2.2 dX3_take_72 hlocks
    · -- else 54
      have h54 := zI_eq0.mp c_54
      refine lv_aload_n hx hb dX3_take_57 rfl (lv_at hl 1 rfl) ?_
      refine lv_iconst (v := 1) hx hb dX3_take_58 (by decide) ?_
      refine va_putN (D := (dC, dI)) (ci := 2) (v := .int 1) (ty := .boolean) (C := RX2) (T := TX2) (N := 11) hx hb hts (by decide +kernel) tyX2 tyX2_ok nmX2 hown hK hP hD hS 8 rfl rfl 7 (by decide) (va_Nw.use rfl (hN.2.2.2.2.2.1)) (fun _ h9 => h9) rfl (by decide +kernel) rfl rfl (Nat.le_of_ble_eq_true rfl) dX3_take_59 (fun H locs hP hD hS => ?_)
      have hP : va_P (dC, dI) vwCl [(ea, .inl (cI, 48, .inl ((upd e (hv_slot s o) x)))), (pa, .inl (cZ, 48, .inl (fun j => zI ((va_up b (hv_slot s o) q) j)))), (f0, .inr (3, [v0, .ref c0, v2, .int (nI lv), .int (nI mr), .int (nI cr)])), (c0, .inr (0, [.ref s0, .ref t0])), (s0, .inr (1, [.ref sa])), (sa, .inl (cJ, 17, .inr (.inl (fun j => lN (e1 j))))), (t0, .inr (1, [.ref ta])), (ta, .inl (cJ, 17, .inr (.inl (fun j => lN (e2 j))))), (h0, .inr (2, [.ref ea, .ref pa, .int (nI (hv_s s)), .int (nI (hv_o s o)), .int (nI Dd), .int (nI N), .int (nI X), .int 1, .int (nI tm), v9, v10]))] H := hP
      have hD : va_D A [(ea, .inl (cI, 48, .inl ((upd e (hv_slot s o) x)))), (pa, .inl (cZ, 48, .inl (fun j => zI ((va_up b (hv_slot s o) q) j)))), (f0, .inr (3, [v0, .ref c0, v2, .int (nI lv), .int (nI mr), .int (nI cr)])), (c0, .inr (0, [.ref s0, .ref t0])), (s0, .inr (1, [.ref sa])), (sa, .inl (cJ, 17, .inr (.inl (fun j => lN (e1 j))))), (t0, .inr (1, [.ref ta])), (ta, .inl (cJ, 17, .inr (.inl (fun j => lN (e2 j))))), (h0, .inr (2, [.ref ea, .ref pa, .int (nI (hv_s s)), .int (nI (hv_o s o)), .int (nI Dd), .int (nI N), .int (nI X), .int 1, .int (nI tm), v9, v10]))] := hD
      refine lv_aload_n hx hb dX3_take_62 rfl (lv_at hl 1 rfl) ?_
      refine lv_dup hx hb dX3_take_63 rfl ?_
      refine va_getN (D := (dC, dI)) (ci := 2) (v := .int (nI tm)) (C := RX2) (T := TX2) (N := 11) hx hb hts (by decide +kernel) hown hK hP 8 rfl rfl 8 (by decide) (va_Nw.use rfl (hN.2.2.2.2.2.2)) (fun _ h9 => h9) rfl dX3_take_64 ?_
      refine lv_iconst (v := 1) hx hb dX3_take_67 (by decide) ?_
      refine lv_iadd hx hb dX3_take_68 ?_
      refine fw_i (x' := nI (tm + 1)) (nI_1 tm) ?_
      refine va_putN (D := (dC, dI)) (ci := 2) (v := .int (nI (tm + 1))) (ty := .int) (C := RX2) (T := TX2) (N := 11) hx hb hts (by decide +kernel) tyX2 tyX2_ok nmX2 hown hK hP hD hS 8 rfl rfl 8 (by decide) (va_Nw.use rfl (hN.2.2.2.2.2.2)) (fun _ h9 => h9) rfl (by decide +kernel) rfl rfl (Nat.le_of_ble_eq_true rfl) dX3_take_69 (fun H locs hP hD hS => ?_)
      have hP : va_P (dC, dI) vwCl [(ea, .inl (cI, 48, .inl ((upd e (hv_slot s o) x)))), (pa, .inl (cZ, 48, .inl (fun j => zI ((va_up b (hv_slot s o) q) j)))), (f0, .inr (3, [v0, .ref c0, v2, .int (nI lv), .int (nI mr), .int (nI cr)])), (c0, .inr (0, [.ref s0, .ref t0])), (s0, .inr (1, [.ref sa])), (sa, .inl (cJ, 17, .inr (.inl (fun j => lN (e1 j))))), (t0, .inr (1, [.ref ta])), (ta, .inl (cJ, 17, .inr (.inl (fun j => lN (e2 j))))), (h0, .inr (2, [.ref ea, .ref pa, .int (nI (hv_s s)), .int (nI (hv_o s o)), .int (nI Dd), .int (nI N), .int (nI X), .int 1, .int (nI (tm + 1)), v9, v10]))] H := hP
      have hD : va_D A [(ea, .inl (cI, 48, .inl ((upd e (hv_slot s o) x)))), (pa, .inl (cZ, 48, .inl (fun j => zI ((va_up b (hv_slot s o) q) j)))), (f0, .inr (3, [v0, .ref c0, v2, .int (nI lv), .int (nI mr), .int (nI cr)])), (c0, .inr (0, [.ref s0, .ref t0])), (s0, .inr (1, [.ref sa])), (sa, .inl (cJ, 17, .inr (.inl (fun j => lN (e1 j))))), (t0, .inr (1, [.ref ta])), (ta, .inl (cJ, 17, .inr (.inl (fun j => lN (e2 j))))), (h0, .inr (2, [.ref ea, .ref pa, .int (nI (hv_s s)), .int (nI (hv_o s o)), .int (nI Dd), .int (nI N), .int (nI X), .int 1, .int (nI (tm + 1)), v9, v10]))] := hD
      have z1 : tk_m false N X lv mr cr = true := by unfold tk_m; rw [if_neg (by decide), h54]; rfl
      have z2 : tk_t false tm N X lv mr = tm + 1 := by unfold tk_t; rw [if_neg (by decide), h54]; rfl
      have hP := hP.sub (ws' := [(f0, .inr (3, [v0, .ref c0, v2, .int (nI lv), .int (nI mr), .int (nI cr)])), (c0, .inr (0, [.ref s0, .ref t0])), (s0, .inr (1, [.ref sa])), (sa, .inl (cJ, 17, .inr (.inl (fun j => lN (e1 j))))), (t0, .inr (1, [.ref ta])), (ta, .inl (cJ, 17, .inr (.inl (fun j => lN (e2 j))))), (h0, .inr (2, [.ref ea, .ref pa, .int (nI (hv_s s)), .int (nI (hv_o s o)), .int (nI Dd), .int (nI N), .int (nI X), .int 1, .int (nI (tm + 1)), v9, v10])), (ea, .inl (cI, 48, .inl ((upd e (hv_slot s o) x)))), (pa, .inl (cZ, 48, .inl (fun j => zI ((va_up b (hv_slot s o) q) j))))]) [2, 3, 4, 5, 6, 7, 8, 0, 1] rfl
      have hD := hD.sub (ws' := [(f0, .inr (3, [v0, .ref c0, v2, .int (nI lv), .int (nI mr), .int (nI cr)])), (c0, .inr (0, [.ref s0, .ref t0])), (s0, .inr (1, [.ref sa])), (sa, .inl (cJ, 17, .inr (.inl (fun j => lN (e1 j))))), (t0, .inr (1, [.ref ta])), (ta, .inl (cJ, 17, .inr (.inl (fun j => lN (e2 j))))), (h0, .inr (2, [.ref ea, .ref pa, .int (nI (hv_s s)), .int (nI (hv_o s o)), .int (nI Dd), .int (nI N), .int (nI X), .int 1, .int (nI (tm + 1)), v9, v10])), (ea, .inl (cI, 48, .inl ((upd e (hv_slot s o) x)))), (pa, .inl (cZ, 48, .inl (fun j => zI ((va_up b (hv_slot s o) q) j))))]) [2, 3, 4, 5, 6, 7, 8, 0, 1] (by decide) rfl
      have hP : va_P (dC, dI) vwCl [(f0, .inr (3, [v0, .ref c0, v2, .int (nI lv), .int (nI mr), .int (nI cr)])), (c0, .inr (0, [.ref s0, .ref t0])), (s0, .inr (1, [.ref sa])), (sa, .inl (cJ, 17, .inr (.inl (fun j => lN (e1 j))))), (t0, .inr (1, [.ref ta])), (ta, .inl (cJ, 17, .inr (.inl (fun j => lN (e2 j))))), (h0, .inr (2, [.ref ea, .ref pa, .int (nI (hv_s s)), .int (nI (hv_o s o)), .int (nI Dd), .int (nI N), .int (nI X), .int (zI (tk_m false N X lv mr cr)), .int (nI (tk_t false tm N X lv mr)), v9, v10])), (ea, .inl (cI, 48, .inl ((upd e (hv_slot s o) x)))), (pa, .inl (cZ, 48, .inl (fun j => zI ((va_up b (hv_slot s o) q) j))))] H := by rw [z1, z2]; exact hP
      have hD : va_D A [(f0, .inr (3, [v0, .ref c0, v2, .int (nI lv), .int (nI mr), .int (nI cr)])), (c0, .inr (0, [.ref s0, .ref t0])), (s0, .inr (1, [.ref sa])), (sa, .inl (cJ, 17, .inr (.inl (fun j => lN (e1 j))))), (t0, .inr (1, [.ref ta])), (ta, .inl (cJ, 17, .inr (.inl (fun j => lN (e2 j))))), (h0, .inr (2, [.ref ea, .ref pa, .int (nI (hv_s s)), .int (nI (hv_o s o)), .int (nI Dd), .int (nI N), .int (nI X), .int (zI (tk_m false N X lv mr cr)), .int (nI (tk_t false tm N X lv mr)), v9, v10])), (ea, .inl (cI, 48, .inl ((upd e (hv_slot s o) x)))), (pa, .inl (cZ, 48, .inl (fun j => zI ((va_up b (hv_slot s o) q) j))))] := by rw [z1, z2]; exact hD
      have hP9 := hP.sub (ws' := [(f0, .inr (3, [v0, .ref c0, v2, .int (nI lv), .int (nI mr), .int (nI cr)])), (c0, .inr (0, [.ref s0, .ref t0])), (s0, .inr (1, [.ref sa])), (sa, .inl (cJ, 17, .inr (.inl (fun j => lN (e1 j))))), (t0, .inr (1, [.ref ta])), (ta, .inl (cJ, 17, .inr (.inl (fun j => lN (e2 j))))), (h0, .inr (2, [.ref ea, .ref pa, .int (nI (hv_s s)), .int (nI (hv_o s o)), .int (nI Dd), .int (nI N), .int (nI X), .int (zI (tk_m false N X lv mr cr)), .int (nI (tk_t false tm N X lv mr)), v9, v10])), (ea, .inl (cI, 48, .inl ((upd e (hv_slot s o) x)))), (pa, .inl (cZ, 48, .inl (fun j => zI ((va_up b (hv_slot s o) q) j))))]) [0, 1, 2, 3, 4, 5, 6, 7, 8] rfl
      have hD9 := hD.sub (ws' := [(f0, .inr (3, [v0, .ref c0, v2, .int (nI lv), .int (nI mr), .int (nI cr)])), (c0, .inr (0, [.ref s0, .ref t0])), (s0, .inr (1, [.ref sa])), (sa, .inl (cJ, 17, .inr (.inl (fun j => lN (e1 j))))), (t0, .inr (1, [.ref ta])), (ta, .inl (cJ, 17, .inr (.inl (fun j => lN (e2 j))))), (h0, .inr (2, [.ref ea, .ref pa, .int (nI (hv_s s)), .int (nI (hv_o s o)), .int (nI Dd), .int (nI N), .int (nI X), .int (zI (tk_m false N X lv mr cr)), .int (nI (tk_t false tm N X lv mr)), v9, v10])), (ea, .inl (cI, 48, .inl ((upd e (hv_slot s o) x)))), (pa, .inl (cZ, 48, .inl (fun j => zI ((va_up b (hv_slot s o) q) j))))]) [0, 1, 2, 3, 4, 5, 6, 7, 8] (by decide) rfl
      have hK9 := hK.sub (tys' := [(cJ, .long), (cI, .int), (cZ, .boolean)]) [0, 1, 2] rfl
      exact W.vret hx hb hr (fun zt zht hW => ⟨⟨(e1, e2), rfl, trivial, by rw [zht]; exact hP9, va_K.moved hW.alike hK9, hD9⟩, hS.F zht⟩) hS.2.2 dX3_take_72 hlocks
  · -- t
    refine va_getN (D := (dC, dI)) (ci := 2) (v := .int (zI true)) (C := RX2) (T := TX2) (N := 11) hx hb hts (by decide +kernel) hown hK hP 6 rfl rfl 7 (by decide) (va_Nw.use rfl (hN.2.2.2.2.2.1)) (fun _ h9 => h9) rfl dX3_take_7 ?_
    refine lv_if_eq (tgt := 38) hx hb dX3_take_10 (by decide) (fun c_10 => absurd c_10 (by decide)) (fun _ => ?_)
    refine lv_aload_n hx hb dX3_take_13 rfl (lv_at hl 0 rfl) ?_
    refine lv_aload_n hx hb dX3_take_14 rfl (lv_at hl 1 rfl) ?_
    refine lv_aload_n hx hb dX3_take_15 rfl (lv_at hl 0 rfl) ?_
    refine va_get (D := (dC, dI)) (ci := 3) (v := .int (nI cr)) (C := RX3) (T := TX3) (N := 6) hx hb hts (by decide +kernel) hown hK hP 0 rfl rfl 5 (by decide) (hts (.fieldLink RX3 32 "FlakyBounds" "ruleClear" "I") (by decide +kernel)) (fun _ h9 => h9) rfl dX3_take_16 ?_
    have hPc := hP.sub (ws' := [(f0, .inr (3, [v0, .ref c0, v2, .int (nI lv), .int (nI mr), .int (nI cr)])), (c0, .inr (0, [.ref s0, .ref t0])), (s0, .inr (1, [.ref sa])), (sa, .inl (cJ, 17, .inr (.inl (fun j => lN (ds j))))), (t0, .inr (1, [.ref ta])), (ta, .inl (cJ, 17, .inr (.inl (fun j => lN (dt j))))), (h0, .inr (2, [.ref ea, .ref pa, .int (nI (hv_s s)), .int (nI (hv_o s o)), .int (nI Dd), .int (nI N), .int (nI X), .int (zI true), .int (nI tm), v9, v10]))]) [0, 1, 2, 3, 4, 5, 6] rfl
    have hKc := hK.sub (tys' := [(cJ, .long)]) [0] rfl
    have hDc := hD.sub (ws' := [(f0, .inr (3, [v0, .ref c0, v2, .int (nI lv), .int (nI mr), .int (nI cr)])), (c0, .inr (0, [.ref s0, .ref t0])), (s0, .inr (1, [.ref sa])), (sa, .inl (cJ, 17, .inr (.inl (fun j => lN (ds j))))), (t0, .inr (1, [.ref ta])), (ta, .inl (cJ, 17, .inr (.inl (fun j => lN (dt j))))), (h0, .inr (2, [.ref ea, .ref pa, .int (nI (hv_s s)), .int (nI (hv_o s o)), .int (nI Dd), .int (nI N), .int (nI X), .int (zI true), .int (nI tm), v9, v10]))]) [0, 1, 2, 3, 4, 5, 6] (by decide) rfl
    have hFc := va_free (wc := [(f0, .inr (3, [v0, .ref c0, v2, .int (nI lv), .int (nI mr), .int (nI cr)])), (c0, .inr (0, [.ref s0, .ref t0])), (s0, .inr (1, [.ref sa])), (sa, .inl (cJ, 17, .inr (.inl (fun j => lN (ds j))))), (t0, .inr (1, [.ref ta])), (ta, .inl (cJ, 17, .inr (.inl (fun j => lN (dt j))))), (h0, .inr (2, [.ref ea, .ref pa, .int (nI (hv_s s)), .int (nI (hv_o s o)), .int (nI Dd), .int (nI N), .int (nI X), .int (zI true), .int (nI tm), v9, v10]))]) hD hS hA [0, 1, 2, 3, 4, 5, 6] rfl
    refine va_callr (va_runV (As := [.ref h0, .int (nI cr)]) (rest := []) ⟨hx, hb, hml, hown, hts⟩ (c_fla_most l dC dI f0 c0 s0 sa t0 ta h0 cJ v0 v2 (.int (nI lv)) (.int (nI mr)) (.int (nI cr)) (.ref ea) (.ref pa) (.int (nI (hv_s s))) (.int (nI (hv_o s o))) (.int (nI Dd)) (.int (zI true)) (.int (nI tm)) v9 v10 ds dt N X cr H.size hN48 hXN (by omega)) (cwV 2 hts gX3_take_X3_atMost rfl rfl rfl (by decide +kernel) ⟨Nat.le_of_ble_eq_true rfl, Nat.le_of_ble_eq_true rfl⟩) (fw_preVW hN hKc hPc hDc (ci := 3) (q0 := 0) rfl rfl) rfl rfl hl.1 rfl (lv_room (Nat.le_of_ble_eq_true rfl)) dX3_take_19 ⟨Nat.le_of_ble_eq_true rfl, Nat.le_of_ble_eq_true rfl⟩) hS (fun q _ h => hFc q h) hFc (fun u ra_19 zt H1 locs zht hvm hw hB hz1 hk1 hS => ?_)
    obtain ⟨e1, e2⟩ := u
    obtain ⟨ok_e1, v_e1⟩ := hw
    obtain ⟨era, hP1, hK1, hD1⟩ := hB
    rw [zht] at hP1
    have ok_e1 : pd_ok e1 := ok_e1
    have v_e1 : pd_v e1 17 = pm_G N cr N X * 1000 ^ (48 - N) := v_e1
    obtain ⟨hP, hD⟩ := va_join (wr := [(ea, .inl (cI, 48, .inl ((upd e (hv_slot s o) x)))), (pa, .inl (cZ, 48, .inl (fun j => zI ((va_up b (hv_slot s o) q) j))))]) (w1 := [(f0, .inr (3, [v0, .ref c0, v2, .int (nI lv), .int (nI mr), .int (nI cr)])), (c0, .inr (0, [.ref s0, .ref t0])), (s0, .inr (1, [.ref sa])), (sa, .inl (cJ, 17, .inr (.inl (fun j => lN (e1 j))))), (t0, .inr (1, [.ref ta])), (ta, .inl (cJ, 17, .inr (.inl (fun j => lN (e2 j))))), (h0, .inr (2, [.ref ea, .ref pa, .int (nI (hv_s s)), .int (nI (hv_o s o)), .int (nI Dd), .int (nI N), .int (nI X), .int (zI true), .int (nI tm), v9, v10]))]) hP hD [0, 1, 2, 3, 4, 5, 6] [7, 8] rfl rfl (by decide) (by decide) hk1 hFc hP1 hD1
    generalize H1 = H at hP hS ⊢
    have hP : va_P (dC, dI) vwCl [(ea, .inl (cI, 48, .inl ((upd e (hv_slot s o) x)))), (pa, .inl (cZ, 48, .inl (fun j => zI ((va_up b (hv_slot s o) q) j)))), (f0, .inr (3, [v0, .ref c0, v2, .int (nI lv), .int (nI mr), .int (nI cr)])), (c0, .inr (0, [.ref s0, .ref t0])), (s0, .inr (1, [.ref sa])), (sa, .inl (cJ, 17, .inr (.inl (fun j => lN (e1 j))))), (t0, .inr (1, [.ref ta])), (ta, .inl (cJ, 17, .inr (.inl (fun j => lN (e2 j))))), (h0, .inr (2, [.ref ea, .ref pa, .int (nI (hv_s s)), .int (nI (hv_o s o)), .int (nI Dd), .int (nI N), .int (nI X), .int (zI true), .int (nI tm), v9, v10]))] H := hP
    have hD : va_D A [(ea, .inl (cI, 48, .inl ((upd e (hv_slot s o) x)))), (pa, .inl (cZ, 48, .inl (fun j => zI ((va_up b (hv_slot s o) q) j)))), (f0, .inr (3, [v0, .ref c0, v2, .int (nI lv), .int (nI mr), .int (nI cr)])), (c0, .inr (0, [.ref s0, .ref t0])), (s0, .inr (1, [.ref sa])), (sa, .inl (cJ, 17, .inr (.inl (fun j => lN (e1 j))))), (t0, .inr (1, [.ref ta])), (ta, .inl (cJ, 17, .inr (.inl (fun j => lN (e2 j))))), (h0, .inr (2, [.ref ea, .ref pa, .int (nI (hv_s s)), .int (nI (hv_o s o)), .int (nI Dd), .int (nI N), .int (nI X), .int (zI true), .int (nI tm), v9, v10]))] := hD
    rw [era]
    refine lv_aload_n hx hb dX3_take_22 rfl (lv_at hl 0 rfl) ?_
    refine va_get (D := (dC, dI)) (ci := 3) (v := .int (nI lv)) (C := RX3) (T := TX3) (N := 6) hx hb hts (by decide +kernel) hown hK hP 2 rfl rfl 3 (by decide) (hts (.fieldLink RX3 26 "FlakyBounds" "ruleLevel" "I") (by decide +kernel)) (fun _ h9 => h9) rfl dX3_take_23 ?_
    have hPc := hP.sub (ws' := [(s0, .inr (1, [.ref sa])), (sa, .inl (cJ, 17, .inr (.inl (fun j => lN (e1 j)))))]) [4, 5] rfl
    have hKc := hK.sub (tys' := [(cJ, .long)]) [0] rfl
    refine vp_callSi (va_runV (As := [.int (nI lv)]) (rest := []) ⟨hx, hb, hml, hown, hts⟩ (c_dec_above l dC dI s0 sa cJ e1 lv ok_e1 hlv) (cwV 1 hts gX3_take_X1_isAbove rfl rfl rfl (by decide +kernel) ⟨Nat.le_of_ble_eq_true rfl, Nat.le_of_ble_eq_true rfl⟩) (fw_preVR hN hKc hPc (ci := 1) (q0 := 0) rfl rfl) rfl rfl hl.1 rfl (lv_room (Nat.le_of_ble_eq_true rfl)) dX3_take_26 ⟨Nat.le_of_ble_eq_true rfl, Nat.le_of_ble_eq_true rfl⟩).run (fun r_26 hr_26 => ?_)
    obtain rfl : r_26 = zI (pv_above N X cr lv) := by rw [hr_26, pv_above_v hN48 v_e1]
    refine lv_if_ne (tgt := 37) hx hb dX3_take_29 (by decide) (fun c_29 => ?_) (fun c_29 => ?_)
    · -- then 29
      have h29 := zI_ne0.mp c_29
      have z1 : tk_m true N X lv mr cr = true := by unfold tk_m; rw [if_pos rfl]; exact h29
      have z2 : tk_t true tm N X lv mr = tm := by unfold tk_t; rw [if_pos rfl]
      have hP := hP.sub (ws' := [(f0, .inr (3, [v0, .ref c0, v2, .int (nI lv), .int (nI mr), .int (nI cr)])), (c0, .inr (0, [.ref s0, .ref t0])), (s0, .inr (1, [.ref sa])), (sa, .inl (cJ, 17, .inr (.inl (fun j => lN (e1 j))))), (t0, .inr (1, [.ref ta])), (ta, .inl (cJ, 17, .inr (.inl (fun j => lN (e2 j))))), (h0, .inr (2, [.ref ea, .ref pa, .int (nI (hv_s s)), .int (nI (hv_o s o)), .int (nI Dd), .int (nI N), .int (nI X), .int (zI true), .int (nI tm), v9, v10])), (ea, .inl (cI, 48, .inl ((upd e (hv_slot s o) x)))), (pa, .inl (cZ, 48, .inl (fun j => zI ((va_up b (hv_slot s o) q) j))))]) [2, 3, 4, 5, 6, 7, 8, 0, 1] rfl
      have hD := hD.sub (ws' := [(f0, .inr (3, [v0, .ref c0, v2, .int (nI lv), .int (nI mr), .int (nI cr)])), (c0, .inr (0, [.ref s0, .ref t0])), (s0, .inr (1, [.ref sa])), (sa, .inl (cJ, 17, .inr (.inl (fun j => lN (e1 j))))), (t0, .inr (1, [.ref ta])), (ta, .inl (cJ, 17, .inr (.inl (fun j => lN (e2 j))))), (h0, .inr (2, [.ref ea, .ref pa, .int (nI (hv_s s)), .int (nI (hv_o s o)), .int (nI Dd), .int (nI N), .int (nI X), .int (zI true), .int (nI tm), v9, v10])), (ea, .inl (cI, 48, .inl ((upd e (hv_slot s o) x)))), (pa, .inl (cZ, 48, .inl (fun j => zI ((va_up b (hv_slot s o) q) j))))]) [2, 3, 4, 5, 6, 7, 8, 0, 1] (by decide) rfl
      have hP : va_P (dC, dI) vwCl [(f0, .inr (3, [v0, .ref c0, v2, .int (nI lv), .int (nI mr), .int (nI cr)])), (c0, .inr (0, [.ref s0, .ref t0])), (s0, .inr (1, [.ref sa])), (sa, .inl (cJ, 17, .inr (.inl (fun j => lN (e1 j))))), (t0, .inr (1, [.ref ta])), (ta, .inl (cJ, 17, .inr (.inl (fun j => lN (e2 j))))), (h0, .inr (2, [.ref ea, .ref pa, .int (nI (hv_s s)), .int (nI (hv_o s o)), .int (nI Dd), .int (nI N), .int (nI X), .int (zI (tk_m true N X lv mr cr)), .int (nI (tk_t true tm N X lv mr)), v9, v10])), (ea, .inl (cI, 48, .inl ((upd e (hv_slot s o) x)))), (pa, .inl (cZ, 48, .inl (fun j => zI ((va_up b (hv_slot s o) q) j))))] H := by rw [z1, z2]; exact hP
      have hD : va_D A [(f0, .inr (3, [v0, .ref c0, v2, .int (nI lv), .int (nI mr), .int (nI cr)])), (c0, .inr (0, [.ref s0, .ref t0])), (s0, .inr (1, [.ref sa])), (sa, .inl (cJ, 17, .inr (.inl (fun j => lN (e1 j))))), (t0, .inr (1, [.ref ta])), (ta, .inl (cJ, 17, .inr (.inl (fun j => lN (e2 j))))), (h0, .inr (2, [.ref ea, .ref pa, .int (nI (hv_s s)), .int (nI (hv_o s o)), .int (nI Dd), .int (nI N), .int (nI X), .int (zI (tk_m true N X lv mr cr)), .int (nI (tk_t true tm N X lv mr)), v9, v10])), (ea, .inl (cI, 48, .inl ((upd e (hv_slot s o) x)))), (pa, .inl (cZ, 48, .inl (fun j => zI ((va_up b (hv_slot s o) q) j))))] := by rw [z1, z2]; exact hD
      have hP9 := hP.sub (ws' := [(f0, .inr (3, [v0, .ref c0, v2, .int (nI lv), .int (nI mr), .int (nI cr)])), (c0, .inr (0, [.ref s0, .ref t0])), (s0, .inr (1, [.ref sa])), (sa, .inl (cJ, 17, .inr (.inl (fun j => lN (e1 j))))), (t0, .inr (1, [.ref ta])), (ta, .inl (cJ, 17, .inr (.inl (fun j => lN (e2 j))))), (h0, .inr (2, [.ref ea, .ref pa, .int (nI (hv_s s)), .int (nI (hv_o s o)), .int (nI Dd), .int (nI N), .int (nI X), .int (zI (tk_m true N X lv mr cr)), .int (nI (tk_t true tm N X lv mr)), v9, v10])), (ea, .inl (cI, 48, .inl ((upd e (hv_slot s o) x)))), (pa, .inl (cZ, 48, .inl (fun j => zI ((va_up b (hv_slot s o) q) j))))]) [0, 1, 2, 3, 4, 5, 6, 7, 8] rfl
      have hD9 := hD.sub (ws' := [(f0, .inr (3, [v0, .ref c0, v2, .int (nI lv), .int (nI mr), .int (nI cr)])), (c0, .inr (0, [.ref s0, .ref t0])), (s0, .inr (1, [.ref sa])), (sa, .inl (cJ, 17, .inr (.inl (fun j => lN (e1 j))))), (t0, .inr (1, [.ref ta])), (ta, .inl (cJ, 17, .inr (.inl (fun j => lN (e2 j))))), (h0, .inr (2, [.ref ea, .ref pa, .int (nI (hv_s s)), .int (nI (hv_o s o)), .int (nI Dd), .int (nI N), .int (nI X), .int (zI (tk_m true N X lv mr cr)), .int (nI (tk_t true tm N X lv mr)), v9, v10])), (ea, .inl (cI, 48, .inl ((upd e (hv_slot s o) x)))), (pa, .inl (cZ, 48, .inl (fun j => zI ((va_up b (hv_slot s o) q) j))))]) [0, 1, 2, 3, 4, 5, 6, 7, 8] (by decide) rfl
      have hK9 := hK.sub (tys' := [(cJ, .long), (cI, .int), (cZ, .boolean)]) [0, 1, 2] rfl
      exact W.vret hx hb hr (fun zt zht hW => ⟨⟨(e1, e2), rfl, trivial, by rw [zht]; exact hP9, va_K.moved hW.alike hK9, hD9⟩, hS.F zht⟩) hS.2.2 dX3_take_37 hlocks
    · -- else 29
      have h29 := zI_eq0.mp c_29
      refine lv_aload_n hx hb dX3_take_32 rfl (lv_at hl 1 rfl) ?_
      refine lv_iconst (v := 0) hx hb dX3_take_33 (by decide) ?_
      refine va_putN (D := (dC, dI)) (ci := 2) (v := .int 0) (ty := .boolean) (C := RX2) (T := TX2) (N := 11) hx hb hts (by decide +kernel) tyX2 tyX2_ok nmX2 hown hK hP hD hS 8 rfl rfl 7 (by decide) (va_Nw.use rfl (hN.2.2.2.2.2.1)) (fun _ h9 => h9) rfl (by decide +kernel) rfl rfl (Nat.le_of_ble_eq_true rfl) dX3_take_34 (fun H locs hP hD hS => ?_)
      have hP : va_P (dC, dI) vwCl [(ea, .inl (cI, 48, .inl ((upd e (hv_slot s o) x)))), (pa, .inl (cZ, 48, .inl (fun j => zI ((va_up b (hv_slot s o) q) j)))), (f0, .inr (3, [v0, .ref c0, v2, .int (nI lv), .int (nI mr), .int (nI cr)])), (c0, .inr (0, [.ref s0, .ref t0])), (s0, .inr (1, [.ref sa])), (sa, .inl (cJ, 17, .inr (.inl (fun j => lN (e1 j))))), (t0, .inr (1, [.ref ta])), (ta, .inl (cJ, 17, .inr (.inl (fun j => lN (e2 j))))), (h0, .inr (2, [.ref ea, .ref pa, .int (nI (hv_s s)), .int (nI (hv_o s o)), .int (nI Dd), .int (nI N), .int (nI X), .int 0, .int (nI tm), v9, v10]))] H := hP
      have hD : va_D A [(ea, .inl (cI, 48, .inl ((upd e (hv_slot s o) x)))), (pa, .inl (cZ, 48, .inl (fun j => zI ((va_up b (hv_slot s o) q) j)))), (f0, .inr (3, [v0, .ref c0, v2, .int (nI lv), .int (nI mr), .int (nI cr)])), (c0, .inr (0, [.ref s0, .ref t0])), (s0, .inr (1, [.ref sa])), (sa, .inl (cJ, 17, .inr (.inl (fun j => lN (e1 j))))), (t0, .inr (1, [.ref ta])), (ta, .inl (cJ, 17, .inr (.inl (fun j => lN (e2 j))))), (h0, .inr (2, [.ref ea, .ref pa, .int (nI (hv_s s)), .int (nI (hv_o s o)), .int (nI Dd), .int (nI N), .int (nI X), .int 0, .int (nI tm), v9, v10]))] := hD
      have z1 : tk_m true N X lv mr cr = false := by unfold tk_m; rw [if_pos rfl]; exact h29
      have z2 : tk_t true tm N X lv mr = tm := by unfold tk_t; rw [if_pos rfl]
      have hP := hP.sub (ws' := [(f0, .inr (3, [v0, .ref c0, v2, .int (nI lv), .int (nI mr), .int (nI cr)])), (c0, .inr (0, [.ref s0, .ref t0])), (s0, .inr (1, [.ref sa])), (sa, .inl (cJ, 17, .inr (.inl (fun j => lN (e1 j))))), (t0, .inr (1, [.ref ta])), (ta, .inl (cJ, 17, .inr (.inl (fun j => lN (e2 j))))), (h0, .inr (2, [.ref ea, .ref pa, .int (nI (hv_s s)), .int (nI (hv_o s o)), .int (nI Dd), .int (nI N), .int (nI X), .int 0, .int (nI tm), v9, v10])), (ea, .inl (cI, 48, .inl ((upd e (hv_slot s o) x)))), (pa, .inl (cZ, 48, .inl (fun j => zI ((va_up b (hv_slot s o) q) j))))]) [2, 3, 4, 5, 6, 7, 8, 0, 1] rfl
      have hD := hD.sub (ws' := [(f0, .inr (3, [v0, .ref c0, v2, .int (nI lv), .int (nI mr), .int (nI cr)])), (c0, .inr (0, [.ref s0, .ref t0])), (s0, .inr (1, [.ref sa])), (sa, .inl (cJ, 17, .inr (.inl (fun j => lN (e1 j))))), (t0, .inr (1, [.ref ta])), (ta, .inl (cJ, 17, .inr (.inl (fun j => lN (e2 j))))), (h0, .inr (2, [.ref ea, .ref pa, .int (nI (hv_s s)), .int (nI (hv_o s o)), .int (nI Dd), .int (nI N), .int (nI X), .int 0, .int (nI tm), v9, v10])), (ea, .inl (cI, 48, .inl ((upd e (hv_slot s o) x)))), (pa, .inl (cZ, 48, .inl (fun j => zI ((va_up b (hv_slot s o) q) j))))]) [2, 3, 4, 5, 6, 7, 8, 0, 1] (by decide) rfl
      have hP : va_P (dC, dI) vwCl [(f0, .inr (3, [v0, .ref c0, v2, .int (nI lv), .int (nI mr), .int (nI cr)])), (c0, .inr (0, [.ref s0, .ref t0])), (s0, .inr (1, [.ref sa])), (sa, .inl (cJ, 17, .inr (.inl (fun j => lN (e1 j))))), (t0, .inr (1, [.ref ta])), (ta, .inl (cJ, 17, .inr (.inl (fun j => lN (e2 j))))), (h0, .inr (2, [.ref ea, .ref pa, .int (nI (hv_s s)), .int (nI (hv_o s o)), .int (nI Dd), .int (nI N), .int (nI X), .int (zI (tk_m true N X lv mr cr)), .int (nI (tk_t true tm N X lv mr)), v9, v10])), (ea, .inl (cI, 48, .inl ((upd e (hv_slot s o) x)))), (pa, .inl (cZ, 48, .inl (fun j => zI ((va_up b (hv_slot s o) q) j))))] H := by rw [z1, z2]; exact hP
      have hD : va_D A [(f0, .inr (3, [v0, .ref c0, v2, .int (nI lv), .int (nI mr), .int (nI cr)])), (c0, .inr (0, [.ref s0, .ref t0])), (s0, .inr (1, [.ref sa])), (sa, .inl (cJ, 17, .inr (.inl (fun j => lN (e1 j))))), (t0, .inr (1, [.ref ta])), (ta, .inl (cJ, 17, .inr (.inl (fun j => lN (e2 j))))), (h0, .inr (2, [.ref ea, .ref pa, .int (nI (hv_s s)), .int (nI (hv_o s o)), .int (nI Dd), .int (nI N), .int (nI X), .int (zI (tk_m true N X lv mr cr)), .int (nI (tk_t true tm N X lv mr)), v9, v10])), (ea, .inl (cI, 48, .inl ((upd e (hv_slot s o) x)))), (pa, .inl (cZ, 48, .inl (fun j => zI ((va_up b (hv_slot s o) q) j))))] := by rw [z1, z2]; exact hD
      have hP9 := hP.sub (ws' := [(f0, .inr (3, [v0, .ref c0, v2, .int (nI lv), .int (nI mr), .int (nI cr)])), (c0, .inr (0, [.ref s0, .ref t0])), (s0, .inr (1, [.ref sa])), (sa, .inl (cJ, 17, .inr (.inl (fun j => lN (e1 j))))), (t0, .inr (1, [.ref ta])), (ta, .inl (cJ, 17, .inr (.inl (fun j => lN (e2 j))))), (h0, .inr (2, [.ref ea, .ref pa, .int (nI (hv_s s)), .int (nI (hv_o s o)), .int (nI Dd), .int (nI N), .int (nI X), .int (zI (tk_m true N X lv mr cr)), .int (nI (tk_t true tm N X lv mr)), v9, v10])), (ea, .inl (cI, 48, .inl ((upd e (hv_slot s o) x)))), (pa, .inl (cZ, 48, .inl (fun j => zI ((va_up b (hv_slot s o) q) j))))]) [0, 1, 2, 3, 4, 5, 6, 7, 8] rfl
      have hD9 := hD.sub (ws' := [(f0, .inr (3, [v0, .ref c0, v2, .int (nI lv), .int (nI mr), .int (nI cr)])), (c0, .inr (0, [.ref s0, .ref t0])), (s0, .inr (1, [.ref sa])), (sa, .inl (cJ, 17, .inr (.inl (fun j => lN (e1 j))))), (t0, .inr (1, [.ref ta])), (ta, .inl (cJ, 17, .inr (.inl (fun j => lN (e2 j))))), (h0, .inr (2, [.ref ea, .ref pa, .int (nI (hv_s s)), .int (nI (hv_o s o)), .int (nI Dd), .int (nI N), .int (nI X), .int (zI (tk_m true N X lv mr cr)), .int (nI (tk_t true tm N X lv mr)), v9, v10])), (ea, .inl (cI, 48, .inl ((upd e (hv_slot s o) x)))), (pa, .inl (cZ, 48, .inl (fun j => zI ((va_up b (hv_slot s o) q) j))))]) [0, 1, 2, 3, 4, 5, 6, 7, 8] (by decide) rfl
      have hK9 := hK.sub (tys' := [(cJ, .long), (cI, .int), (cZ, .boolean)]) [0, 1, 2] rfl
      exact W.vret hx hb hr (fun zt zht hW => ⟨⟨(e1, e2), rfl, trivial, by rw [zht]; exact hP9, va_K.moved hW.alike hK9, hD9⟩, hS.F zht⟩) hS.2.2 dX3_take_37 hlocks
end
section
set_option maxHeartbeats 4000000 in
set_option maxRecDepth 100000 in
theorem c_fla_run_no (l : Launch) (dC : Nat → ClassId) (dI : Nat → Nat → Nat) (f0 hs : Nat) (cH : ClassId) (v1 v3 v4 v5 : Value) (n : Nat) (hf : Nat → Option Nat) (x y z : Int32) (hn12 : n ≤ 12) (hno : fv_no n x) : Met l yX3_run wsX3_run ({ frames := 1, cells := 0, slots := 0, locals := 21 } : Room) (va_Pc [.ref f0, .int x, .int y, .int z] (fw_pR (dC, dI) vwCl [(cH, .object RX2)] [(f0, .inr (3, [.ref hs, v1, .int (nI n), v3, v4, v5])), (hs, .inl (cH, 12, .inr (.inr (.inr (.inr (hf))))))])) (vp_Si (fun r => r = 0)) 0 0 (fun _ => False) := by
  refine fw_metR (cc := cX3_run) (maxL := 5) (ret := (some .boolean)) (by decide) rfl (Nat.le_of_ble_eq_true rfl) ?_
  intro zp ze zs zm zbelow zmeth zc ls hx hb hr hts hown hlocks hml hin hN hP hK hl
  have hown : zs.vm.findClass RX3 = some zm.cls := hown
  have hl : lv_has ls 5 [(0, .ref f0), (1, .int x), (2, .int y), (3, .int z)] := hl
  refine lv_aload_n hx hb dX3_run_0 rfl (lv_at hl 0 rfl) ?_
  refine lv_iload_n hx hb dX3_run_1 rfl (lv_at hl 1 rfl) ?_
  have hPc := hP.sub (ws' := [(f0, .inr (3, [.ref hs, v1, .int (nI n), v3, v4, v5])), (hs, .inl (cH, 12, .inr (.inr (.inr (.inr (hf))))))]) [0, 1] rfl
  have hKc := hK.sub (tys' := [(cH, .object RX2)]) [0] rfl
  refine va_csq (va_runV (As := [.int x]) (rest := []) ⟨hx, hb, hml, hown, hts⟩ (c_fla_find_no l dC dI f0 hs cH v1 v3 v4 v5 n hf x hn12 hno) (cwV 1 hts gX3_run_X3_find rfl rfl rfl (by decide +kernel) ⟨Nat.le_of_ble_eq_true rfl, Nat.le_of_ble_eq_true rfl⟩) (fw_preVR hN hKc hPc (ci := 3) (q0 := 0) rfl rfl) rfl rfl hl.1 rfl (lv_room (Nat.le_of_ble_eq_true rfl)) dX3_run_2 ⟨Nat.le_of_ble_eq_true rfl, Nat.le_of_ble_eq_true rfl⟩).run (fun r_2 hr_2 => ?_)
  obtain rfl : r_2 = none := hr_2
  refine W.eq (g2 := F0 zm 5 ls [.null]) rfl ?_
  refine lv_astoreN (lv' := [(4, .null), (0, .ref f0), (1, .int x), (2, .int y), (3, .int z)]) hx hb dX3_run_5 hl (by decide) rfl (fun ls hl => ?_)
  refine lv_aloadN hx hb dX3_run_7 (lv_at hl 0 rfl) ?_
  refine lv_ifnullN (tgt := 19) hx hb dX3_run_9 (by decide) ?_
  refine lv_iconst (v := 0) hx hb dX3_run_19 (by decide) ?_
  exact W.zret (v := 0) (ty := .boolean) hx hb hr rfl (fun zt zht _ => ⟨0, rfl, rfl, zht⟩) (fun q h => by cases h) dX3_run_20 hlocks
set_option maxHeartbeats 4000000 in
set_option maxRecDepth 100000 in
theorem c_fla_judge_no (l : Launch) (dC : Nat → ClassId) (dI : Nat → Nat → Nat) (f0 hs : Nat) (cH : ClassId) (v1 v3 v4 v5 : Value) (n : Nat) (hf : Nat → Option Nat) (x y z : Int32) (hn12 : n ≤ 12) (hno : fv_no n x) : Met l yX3_judge wsX3_judge ({ frames := 1, cells := 0, slots := 0, locals := 21 } : Room) (va_Pc [.ref f0, .int x, .int y, .int z] (fw_pR (dC, dI) vwCl [(cH, .object RX2)] [(f0, .inr (3, [.ref hs, v1, .int (nI n), v3, v4, v5])), (hs, .inl (cH, 12, .inr (.inr (.inr (.inr (hf))))))])) (vp_Si (fun r => r = (-1))) 0 0 (fun _ => False) := by
  refine fw_metR (cc := cX3_judge) (maxL := 6) (ret := (some .int)) (by decide) rfl (Nat.le_of_ble_eq_true rfl) ?_
  intro zp ze zs zm zbelow zmeth zc ls hx hb hr hts hown hlocks hml hin hN hP hK hl
  have hown : zs.vm.findClass RX3 = some zm.cls := hown
  have hl : lv_has ls 6 [(0, .ref f0), (1, .int x), (2, .int y), (3, .int z)] := hl
  refine lv_aload_n hx hb dX3_judge_0 rfl (lv_at hl 0 rfl) ?_
  refine lv_iload_n hx hb dX3_judge_1 rfl (lv_at hl 1 rfl) ?_
  have hPc := hP.sub (ws' := [(f0, .inr (3, [.ref hs, v1, .int (nI n), v3, v4, v5])), (hs, .inl (cH, 12, .inr (.inr (.inr (.inr (hf))))))]) [0, 1] rfl
  have hKc := hK.sub (tys' := [(cH, .object RX2)]) [0] rfl
  refine va_csq (va_runV (As := [.int x]) (rest := []) ⟨hx, hb, hml, hown, hts⟩ (c_fla_find_no l dC dI f0 hs cH v1 v3 v4 v5 n hf x hn12 hno) (cwV 1 hts gX3_judge_X3_find rfl rfl rfl (by decide +kernel) ⟨Nat.le_of_ble_eq_true rfl, Nat.le_of_ble_eq_true rfl⟩) (fw_preVR hN hKc hPc (ci := 3) (q0 := 0) rfl rfl) rfl rfl hl.1 rfl (lv_room (Nat.le_of_ble_eq_true rfl)) dX3_judge_2 ⟨Nat.le_of_ble_eq_true rfl, Nat.le_of_ble_eq_true rfl⟩).run (fun r_2 hr_2 => ?_)
  obtain rfl : r_2 = none := hr_2
  refine W.eq (g2 := F0 zm 5 ls [.null]) rfl ?_
  refine lv_astoreN (lv' := [(4, .null), (0, .ref f0), (1, .int x), (2, .int y), (3, .int z)]) hx hb dX3_judge_5 hl (by decide) rfl (fun ls hl => ?_)
  refine lv_aloadN hx hb dX3_judge_7 (lv_at hl 0 rfl) ?_
  refine lv_ifnullN (tgt := 19) hx hb dX3_judge_9 (by decide) ?_
  refine lv_iconst (v := (-1)) hx hb dX3_judge_19 (by decide) ?_
  exact W.iret (v := (-1)) hx hb hr (fun zt zht _ => ⟨(-1), rfl, rfl, zht⟩) (fun q h => by cases h) dX3_judge_20 hlocks
set_option maxHeartbeats 4000000 in
set_option maxRecDepth 100000 in
theorem c_fla_about_no (l : Launch) (dC : Nat → ClassId) (dI : Nat → Nat → Nat) (f0 hs : Nat) (cH : ClassId) (v1 v3 v4 v5 : Value) (n : Nat) (hf : Nat → Option Nat) (x y : Int32) (hn12 : n ≤ 12) (hno : fv_no n x) : Met l yX3_about wsX3_about ({ frames := 1, cells := 0, slots := 0, locals := 21 } : Room) (va_Pc [.ref f0, .int x, .int y] (fw_pR (dC, dI) vwCl [(cH, .object RX2)] [(f0, .inr (3, [.ref hs, v1, .int (nI n), v3, v4, v5])), (hs, .inl (cH, 12, .inr (.inr (.inr (.inr (hf))))))])) (vp_Si (fun r => r = (-1))) 0 0 (fun _ => False) := by
  refine fw_metR (cc := cX3_about) (maxL := 4) (ret := (some .int)) (by decide) rfl (Nat.le_of_ble_eq_true rfl) ?_
  intro zp ze zs zm zbelow zmeth zc ls hx hb hr hts hown hlocks hml hin hN hP hK hl
  have hown : zs.vm.findClass RX3 = some zm.cls := hown
  have hl : lv_has ls 4 [(0, .ref f0), (1, .int x), (2, .int y)] := hl
  refine lv_aload_n hx hb dX3_about_0 rfl (lv_at hl 0 rfl) ?_
  refine lv_iload_n hx hb dX3_about_1 rfl (lv_at hl 1 rfl) ?_
  have hPc := hP.sub (ws' := [(f0, .inr (3, [.ref hs, v1, .int (nI n), v3, v4, v5])), (hs, .inl (cH, 12, .inr (.inr (.inr (.inr (hf))))))]) [0, 1] rfl
  have hKc := hK.sub (tys' := [(cH, .object RX2)]) [0] rfl
  refine va_csq (va_runV (As := [.int x]) (rest := []) ⟨hx, hb, hml, hown, hts⟩ (c_fla_find_no l dC dI f0 hs cH v1 v3 v4 v5 n hf x hn12 hno) (cwV 1 hts gX3_about_X3_find rfl rfl rfl (by decide +kernel) ⟨Nat.le_of_ble_eq_true rfl, Nat.le_of_ble_eq_true rfl⟩) (fw_preVR hN hKc hPc (ci := 3) (q0 := 0) rfl rfl) rfl rfl hl.1 rfl (lv_room (Nat.le_of_ble_eq_true rfl)) dX3_about_2 ⟨Nat.le_of_ble_eq_true rfl, Nat.le_of_ble_eq_true rfl⟩).run (fun r_2 hr_2 => ?_)
  obtain rfl : r_2 = none := hr_2
  refine W.eq (g2 := F0 zm 5 ls [.null]) rfl ?_
  refine lv_astore_nN (lv' := [(3, .null), (0, .ref f0), (1, .int x), (2, .int y)]) hx hb dX3_about_5 rfl hl (by decide) rfl (fun ls hl => ?_)
  refine lv_aload_nN hx hb dX3_about_6 rfl (lv_at hl 0 rfl) ?_
  refine lv_ifnonnullN hx hb dX3_about_7 ?_
  refine lv_iconst (v := (-1)) hx hb dX3_about_10 (by decide) ?_
  exact W.iret (v := (-1)) hx hb hr (fun zt zht _ => ⟨(-1), rfl, rfl, zht⟩) (fun q h => by cases h) dX3_about_11 hlocks
set_option maxHeartbeats 4000000 in
set_option maxRecDepth 100000 in
theorem c_fla_bound_no (l : Launch) (dC : Nat → ClassId) (dI : Nat → Nat → Nat) (f0 hs : Nat) (cH : ClassId) (v1 v3 v4 v5 : Value) (n : Nat) (hf : Nat → Option Nat) (x y z : Int32) (hn12 : n ≤ 12) (hno : fv_no n x) : Met l yX3_bound wsX3_bound ({ frames := 1, cells := 0, slots := 0, locals := 21 } : Room) (va_Pc [.ref f0, .int x, .int y, .int z] (fw_pR (dC, dI) vwCl [(cH, .object RX2)] [(f0, .inr (3, [.ref hs, v1, .int (nI n), v3, v4, v5])), (hs, .inl (cH, 12, .inr (.inr (.inr (.inr (hf))))))])) (vp_Si (fun r => r = (-1))) 0 0 (fun _ => False) := by
  refine fw_metR (cc := cX3_bound) (maxL := 7) (ret := (some .int)) (by decide) rfl (Nat.le_of_ble_eq_true rfl) ?_
  intro zp ze zs zm zbelow zmeth zc ls hx hb hr hts hown hlocks hml hin hN hP hK hl
  have hown : zs.vm.findClass RX3 = some zm.cls := hown
  have hl : lv_has ls 7 [(0, .ref f0), (1, .int x), (2, .int y), (3, .int z)] := hl
  refine lv_aload_n hx hb dX3_bound_0 rfl (lv_at hl 0 rfl) ?_
  refine lv_iload_n hx hb dX3_bound_1 rfl (lv_at hl 1 rfl) ?_
  have hPc := hP.sub (ws' := [(f0, .inr (3, [.ref hs, v1, .int (nI n), v3, v4, v5])), (hs, .inl (cH, 12, .inr (.inr (.inr (.inr (hf))))))]) [0, 1] rfl
  have hKc := hK.sub (tys' := [(cH, .object RX2)]) [0] rfl
  refine va_csq (va_runV (As := [.int x]) (rest := []) ⟨hx, hb, hml, hown, hts⟩ (c_fla_find_no l dC dI f0 hs cH v1 v3 v4 v5 n hf x hn12 hno) (cwV 1 hts gX3_bound_X3_find rfl rfl rfl (by decide +kernel) ⟨Nat.le_of_ble_eq_true rfl, Nat.le_of_ble_eq_true rfl⟩) (fw_preVR hN hKc hPc (ci := 3) (q0 := 0) rfl rfl) rfl rfl hl.1 rfl (lv_room (Nat.le_of_ble_eq_true rfl)) dX3_bound_2 ⟨Nat.le_of_ble_eq_true rfl, Nat.le_of_ble_eq_true rfl⟩).run (fun r_2 hr_2 => ?_)
  obtain rfl : r_2 = none := hr_2
  refine W.eq (g2 := F0 zm 5 ls [.null]) rfl ?_
  refine lv_astoreN (lv' := [(4, .null), (0, .ref f0), (1, .int x), (2, .int y), (3, .int z)]) hx hb dX3_bound_5 hl (by decide) rfl (fun ls hl => ?_)
  refine lv_aloadN hx hb dX3_bound_7 (lv_at hl 0 rfl) ?_
  refine lv_ifnullN (tgt := 19) hx hb dX3_bound_9 (by decide) ?_
  refine lv_iconst (v := (-1)) hx hb dX3_bound_19 (by decide) ?_
  exact W.iret (v := (-1)) hx hb hr (fun zt zht _ => ⟨(-1), rfl, rfl, zht⟩) (fun q h => by cases h) dX3_bound_20 hlocks
set_option maxHeartbeats 4000000 in
set_option maxRecDepth 100000 in
theorem c_fla_share_no (l : Launch) (dC : Nat → ClassId) (dI : Nat → Nat → Nat) (f0 hs : Nat) (cH : ClassId) (v1 v3 v4 v5 : Value) (n : Nat) (hf : Nat → Option Nat) (x y z w : Int32) (hn12 : n ≤ 12) (hno : fv_no n x) : Met l yX3_share wsX3_share ({ frames := 1, cells := 0, slots := 0, locals := 21 } : Room) (va_Pc [.ref f0, .int x, .int y, .int z, .int w] (fw_pR (dC, dI) vwCl [(cH, .object RX2)] [(f0, .inr (3, [.ref hs, v1, .int (nI n), v3, v4, v5])), (hs, .inl (cH, 12, .inr (.inr (.inr (.inr (hf))))))])) (vp_Sl (fun r => r = (-1))) 0 0 (fun _ => False) := by
  refine fw_metR (cc := cX3_share) (maxL := 7) (ret := (some .long)) (by decide) rfl (Nat.le_of_ble_eq_true rfl) ?_
  intro zp ze zs zm zbelow zmeth zc ls hx hb hr hts hown hlocks hml hin hN hP hK hl
  have hown : zs.vm.findClass RX3 = some zm.cls := hown
  have hl : lv_has ls 7 [(0, .ref f0), (1, .int x), (2, .int y), (3, .int z), (4, .int w)] := hl
  refine lv_aload_n hx hb dX3_share_0 rfl (lv_at hl 0 rfl) ?_
  refine lv_iload_n hx hb dX3_share_1 rfl (lv_at hl 1 rfl) ?_
  have hPc := hP.sub (ws' := [(f0, .inr (3, [.ref hs, v1, .int (nI n), v3, v4, v5])), (hs, .inl (cH, 12, .inr (.inr (.inr (.inr (hf))))))]) [0, 1] rfl
  have hKc := hK.sub (tys' := [(cH, .object RX2)]) [0] rfl
  refine va_csq (va_runV (As := [.int x]) (rest := []) ⟨hx, hb, hml, hown, hts⟩ (c_fla_find_no l dC dI f0 hs cH v1 v3 v4 v5 n hf x hn12 hno) (cwV 1 hts gX3_share_X3_find rfl rfl rfl (by decide +kernel) ⟨Nat.le_of_ble_eq_true rfl, Nat.le_of_ble_eq_true rfl⟩) (fw_preVR hN hKc hPc (ci := 3) (q0 := 0) rfl rfl) rfl rfl hl.1 rfl (lv_room (Nat.le_of_ble_eq_true rfl)) dX3_share_2 ⟨Nat.le_of_ble_eq_true rfl, Nat.le_of_ble_eq_true rfl⟩).run (fun r_2 hr_2 => ?_)
  obtain rfl : r_2 = none := hr_2
  refine W.eq (g2 := F0 zm 5 ls [.null]) rfl ?_
  refine lv_astoreN (lv' := [(5, .null), (0, .ref f0), (1, .int x), (2, .int y), (3, .int z), (4, .int w)]) hx hb dX3_share_5 hl (by decide) rfl (fun ls hl => ?_)
  refine lv_aloadN hx hb dX3_share_7 (lv_at hl 0 rfl) ?_
  refine lv_ifnullN (tgt := 32) hx hb dX3_share_9 (by decide) ?_
  refine lv_ldc2 (v := (-1)) hx hb hown (hts (.constantLong RX3 81 (-1)) (by decide +kernel)) dX3_share_32 ?_
  exact W.lret (v := (-1)) hx hb hr (fun zt zht _ => ⟨(-1), rfl, rfl, zht⟩) (fun q h => by cases h) dX3_share_35 hlocks
set_option maxHeartbeats 4000000 in
set_option maxRecDepth 100000 in
theorem c_fla_isBad_no (l : Launch) (dC : Nat → ClassId) (dI : Nat → Nat → Nat) (f0 hs : Nat) (cH : ClassId) (v1 v3 v4 v5 : Value) (n : Nat) (hf : Nat → Option Nat) (x y : Int32) (hn12 : n ≤ 12) (hno : fv_no n x) : Met l yX3_isBad wsX3_isBad ({ frames := 1, cells := 0, slots := 0, locals := 21 } : Room) (va_Pc [.ref f0, .int x, .int y] (fw_pR (dC, dI) vwCl [(cH, .object RX2)] [(f0, .inr (3, [.ref hs, v1, .int (nI n), v3, v4, v5])), (hs, .inl (cH, 12, .inr (.inr (.inr (.inr (hf))))))])) (vp_Si (fun r => r = 0)) 0 0 (fun _ => False) := by
  refine fw_metR (cc := cX3_isBad) (maxL := 4) (ret := (some .boolean)) (by decide) rfl (Nat.le_of_ble_eq_true rfl) ?_
  intro zp ze zs zm zbelow zmeth zc ls hx hb hr hts hown hlocks hml hin hN hP hK hl
  have hown : zs.vm.findClass RX3 = some zm.cls := hown
  have hl : lv_has ls 4 [(0, .ref f0), (1, .int x), (2, .int y)] := hl
  refine lv_aload_n hx hb dX3_isBad_0 rfl (lv_at hl 0 rfl) ?_
  refine lv_iload_n hx hb dX3_isBad_1 rfl (lv_at hl 1 rfl) ?_
  have hPc := hP.sub (ws' := [(f0, .inr (3, [.ref hs, v1, .int (nI n), v3, v4, v5])), (hs, .inl (cH, 12, .inr (.inr (.inr (.inr (hf))))))]) [0, 1] rfl
  have hKc := hK.sub (tys' := [(cH, .object RX2)]) [0] rfl
  refine va_csq (va_runV (As := [.int x]) (rest := []) ⟨hx, hb, hml, hown, hts⟩ (c_fla_find_no l dC dI f0 hs cH v1 v3 v4 v5 n hf x hn12 hno) (cwV 1 hts gX3_isBad_X3_find rfl rfl rfl (by decide +kernel) ⟨Nat.le_of_ble_eq_true rfl, Nat.le_of_ble_eq_true rfl⟩) (fw_preVR hN hKc hPc (ci := 3) (q0 := 0) rfl rfl) rfl rfl hl.1 rfl (lv_room (Nat.le_of_ble_eq_true rfl)) dX3_isBad_2 ⟨Nat.le_of_ble_eq_true rfl, Nat.le_of_ble_eq_true rfl⟩).run (fun r_2 hr_2 => ?_)
  obtain rfl : r_2 = none := hr_2
  refine W.eq (g2 := F0 zm 5 ls [.null]) rfl ?_
  refine lv_astore_nN (lv' := [(3, .null), (0, .ref f0), (1, .int x), (2, .int y)]) hx hb dX3_isBad_5 rfl hl (by decide) rfl (fun ls hl => ?_)
  refine lv_aload_nN hx hb dX3_isBad_6 rfl (lv_at hl 0 rfl) ?_
  refine lv_ifnullN (tgt := 22) hx hb dX3_isBad_7 (by decide) ?_
  refine lv_iconst (v := 0) hx hb dX3_isBad_22 (by decide) ?_
  exact W.zret (v := 0) (ty := .boolean) hx hb hr rfl (fun zt zht _ => ⟨0, rfl, rfl, zht⟩) (fun q h => by cases h) dX3_isBad_23 hlocks
set_option maxHeartbeats 4000000 in
set_option maxRecDepth 100000 in
theorem c_fla_run_nl (l : Launch) (dC : Nat → ClassId) (dI : Nat → Nat → Nat) (f0 hs : Nat) (cH : ClassId) (v1 v3 v4 v5 : Value) (n : Nat) (hf : Nat → Option Nat) (i h0 : Nat) (y z : Int32) (hn12 : n ≤ 12) (hin_ : i < n) (hfi : hf i = some h0) (hnl : fv_ed y = false) : Met l yX3_run wsX3_run ({ frames := 1, cells := 0, slots := 0, locals := 21 } : Room) (va_Pc [.ref f0, .int (nI i), .int y, .int z] (fw_pR (dC, dI) vwCl [(cH, .object RX2)] [(f0, .inr (3, [.ref hs, v1, .int (nI n), v3, v4, v5])), (hs, .inl (cH, 12, .inr (.inr (.inr (.inr (hf))))))])) (vp_Si (fun r => r = 0)) 0 0 (fun _ => False) := by
  refine fw_metR (cc := cX3_run) (maxL := 5) (ret := (some .boolean)) (by decide) rfl (Nat.le_of_ble_eq_true rfl) ?_
  intro zp ze zs zm zbelow zmeth zc ls hx hb hr hts hown hlocks hml hin hN hP hK hl
  have hown : zs.vm.findClass RX3 = some zm.cls := hown
  have hl : lv_has ls 5 [(0, .ref f0), (1, .int (nI i)), (2, .int y), (3, .int z)] := hl
  refine lv_aload_n hx hb dX3_run_0 rfl (lv_at hl 0 rfl) ?_
  refine lv_iload_n hx hb dX3_run_1 rfl (lv_at hl 1 rfl) ?_
  have hPc := hP.sub (ws' := [(f0, .inr (3, [.ref hs, v1, .int (nI n), v3, v4, v5])), (hs, .inl (cH, 12, .inr (.inr (.inr (.inr (hf))))))]) [0, 1] rfl
  have hKc := hK.sub (tys' := [(cH, .object RX2)]) [0] rfl
  refine va_csq (va_runV (As := [.int (nI i)]) (rest := []) ⟨hx, hb, hml, hown, hts⟩ (c_fla_find l dC dI f0 hs cH v1 v3 v4 v5 n hf i h0 hn12 hin_ hfi) (cwV 1 hts gX3_run_X3_find rfl rfl rfl (by decide +kernel) ⟨Nat.le_of_ble_eq_true rfl, Nat.le_of_ble_eq_true rfl⟩) (fw_preVR hN hKc hPc (ci := 3) (q0 := 0) rfl rfl) rfl rfl hl.1 rfl (lv_room (Nat.le_of_ble_eq_true rfl)) dX3_run_2 ⟨Nat.le_of_ble_eq_true rfl, Nat.le_of_ble_eq_true rfl⟩).run (fun r_2 hr_2 => ?_)
  obtain rfl : r_2 = some h0 := hr_2
  refine W.eq (g2 := F0 zm 5 ls [.ref h0]) rfl ?_
  refine lv_astore (lv' := [(4, .ref h0), (0, .ref f0), (1, .int (nI i)), (2, .int y), (3, .int z)]) hx hb dX3_run_5 hl (by decide) rfl (fun ls hl => ?_)
  refine lv_aload hx hb dX3_run_7 (lv_at hl 0 rfl) ?_
  refine lv_ifnull hx hb dX3_run_9 ?_
  refine lv_iload_n hx hb dX3_run_12 rfl (lv_at hl 3 rfl) ?_
  have hPc := hP.sub (ws' := []) [] rfl
  have hKc := hK.sub (tys' := []) [] rfl
  refine vp_callSi (va_runS (As := [.int y]) (rest := []) ⟨hx, hb, hml, hown, hts⟩ (c_fla_isEdition l dC dI y) (va_cwS 1 hts gX3_run_X3_isEdition rfl rfl rfl (by decide +kernel) ⟨Nat.le_of_ble_eq_true rfl, Nat.le_of_ble_eq_true rfl⟩) (fw_preSR hN hKc hPc) rfl rfl hl.1 rfl (lv_room (Nat.le_of_ble_eq_true rfl)) dX3_run_13 ⟨Nat.le_of_ble_eq_true rfl, Nat.le_of_ble_eq_true rfl⟩).run (fun r_13 hr_13 => ?_)
  obtain rfl : r_13 = zI (fv_ed y) := hr_13
  refine lv_if_ne (tgt := 21) hx hb dX3_run_16 (by decide) (fun c_16 => absurd (by rw [hnl]; rfl) c_16) (fun _ => ?_)
  refine lv_iconst (v := 0) hx hb dX3_run_19 (by decide) ?_
  exact W.zret (v := 0) (ty := .boolean) hx hb hr rfl (fun zt zht _ => ⟨0, rfl, rfl, zht⟩) (fun q h => by cases h) dX3_run_20 hlocks
set_option maxHeartbeats 4000000 in
set_option maxRecDepth 100000 in
theorem c_fla_judge_nl (l : Launch) (dC : Nat → ClassId) (dI : Nat → Nat → Nat) (f0 hs : Nat) (cH : ClassId) (v1 v3 v4 v5 : Value) (n : Nat) (hf : Nat → Option Nat) (i h0 : Nat) (y z : Int32) (hn12 : n ≤ 12) (hin_ : i < n) (hfi : hf i = some h0) (hnl : fv_ed y = false) : Met l yX3_judge wsX3_judge ({ frames := 1, cells := 0, slots := 0, locals := 21 } : Room) (va_Pc [.ref f0, .int (nI i), .int y, .int z] (fw_pR (dC, dI) vwCl [(cH, .object RX2)] [(f0, .inr (3, [.ref hs, v1, .int (nI n), v3, v4, v5])), (hs, .inl (cH, 12, .inr (.inr (.inr (.inr (hf))))))])) (vp_Si (fun r => r = (-1))) 0 0 (fun _ => False) := by
  refine fw_metR (cc := cX3_judge) (maxL := 6) (ret := (some .int)) (by decide) rfl (Nat.le_of_ble_eq_true rfl) ?_
  intro zp ze zs zm zbelow zmeth zc ls hx hb hr hts hown hlocks hml hin hN hP hK hl
  have hown : zs.vm.findClass RX3 = some zm.cls := hown
  have hl : lv_has ls 6 [(0, .ref f0), (1, .int (nI i)), (2, .int y), (3, .int z)] := hl
  refine lv_aload_n hx hb dX3_judge_0 rfl (lv_at hl 0 rfl) ?_
  refine lv_iload_n hx hb dX3_judge_1 rfl (lv_at hl 1 rfl) ?_
  have hPc := hP.sub (ws' := [(f0, .inr (3, [.ref hs, v1, .int (nI n), v3, v4, v5])), (hs, .inl (cH, 12, .inr (.inr (.inr (.inr (hf))))))]) [0, 1] rfl
  have hKc := hK.sub (tys' := [(cH, .object RX2)]) [0] rfl
  refine va_csq (va_runV (As := [.int (nI i)]) (rest := []) ⟨hx, hb, hml, hown, hts⟩ (c_fla_find l dC dI f0 hs cH v1 v3 v4 v5 n hf i h0 hn12 hin_ hfi) (cwV 1 hts gX3_judge_X3_find rfl rfl rfl (by decide +kernel) ⟨Nat.le_of_ble_eq_true rfl, Nat.le_of_ble_eq_true rfl⟩) (fw_preVR hN hKc hPc (ci := 3) (q0 := 0) rfl rfl) rfl rfl hl.1 rfl (lv_room (Nat.le_of_ble_eq_true rfl)) dX3_judge_2 ⟨Nat.le_of_ble_eq_true rfl, Nat.le_of_ble_eq_true rfl⟩).run (fun r_2 hr_2 => ?_)
  obtain rfl : r_2 = some h0 := hr_2
  refine W.eq (g2 := F0 zm 5 ls [.ref h0]) rfl ?_
  refine lv_astore (lv' := [(4, .ref h0), (0, .ref f0), (1, .int (nI i)), (2, .int y), (3, .int z)]) hx hb dX3_judge_5 hl (by decide) rfl (fun ls hl => ?_)
  refine lv_aload hx hb dX3_judge_7 (lv_at hl 0 rfl) ?_
  refine lv_ifnull hx hb dX3_judge_9 ?_
  refine lv_iload_n hx hb dX3_judge_12 rfl (lv_at hl 3 rfl) ?_
  have hPc := hP.sub (ws' := []) [] rfl
  have hKc := hK.sub (tys' := []) [] rfl
  refine vp_callSi (va_runS (As := [.int y]) (rest := []) ⟨hx, hb, hml, hown, hts⟩ (c_fla_isEdition l dC dI y) (va_cwS 1 hts gX3_judge_X3_isEdition rfl rfl rfl (by decide +kernel) ⟨Nat.le_of_ble_eq_true rfl, Nat.le_of_ble_eq_true rfl⟩) (fw_preSR hN hKc hPc) rfl rfl hl.1 rfl (lv_room (Nat.le_of_ble_eq_true rfl)) dX3_judge_13 ⟨Nat.le_of_ble_eq_true rfl, Nat.le_of_ble_eq_true rfl⟩).run (fun r_13 hr_13 => ?_)
  obtain rfl : r_13 = zI (fv_ed y) := hr_13
  refine lv_if_ne (tgt := 21) hx hb dX3_judge_16 (by decide) (fun c_16 => absurd (by rw [hnl]; rfl) c_16) (fun _ => ?_)
  refine lv_iconst (v := (-1)) hx hb dX3_judge_19 (by decide) ?_
  exact W.iret (v := (-1)) hx hb hr (fun zt zht _ => ⟨(-1), rfl, rfl, zht⟩) (fun q h => by cases h) dX3_judge_20 hlocks
set_option maxHeartbeats 4000000 in
set_option maxRecDepth 100000 in
theorem c_fla_bound_nl (l : Launch) (dC : Nat → ClassId) (dI : Nat → Nat → Nat) (f0 hs : Nat) (cH : ClassId) (v1 v3 v4 v5 : Value) (n : Nat) (hf : Nat → Option Nat) (i h0 : Nat) (y z : Int32) (hn12 : n ≤ 12) (hin_ : i < n) (hfi : hf i = some h0) (hnl : fv_lv y = false) : Met l yX3_bound wsX3_bound ({ frames := 1, cells := 0, slots := 0, locals := 21 } : Room) (va_Pc [.ref f0, .int (nI i), .int y, .int z] (fw_pR (dC, dI) vwCl [(cH, .object RX2)] [(f0, .inr (3, [.ref hs, v1, .int (nI n), v3, v4, v5])), (hs, .inl (cH, 12, .inr (.inr (.inr (.inr (hf))))))])) (vp_Si (fun r => r = (-1))) 0 0 (fun _ => False) := by
  refine fw_metR (cc := cX3_bound) (maxL := 7) (ret := (some .int)) (by decide) rfl (Nat.le_of_ble_eq_true rfl) ?_
  intro zp ze zs zm zbelow zmeth zc ls hx hb hr hts hown hlocks hml hin hN hP hK hl
  have hown : zs.vm.findClass RX3 = some zm.cls := hown
  have hl : lv_has ls 7 [(0, .ref f0), (1, .int (nI i)), (2, .int y), (3, .int z)] := hl
  refine lv_aload_n hx hb dX3_bound_0 rfl (lv_at hl 0 rfl) ?_
  refine lv_iload_n hx hb dX3_bound_1 rfl (lv_at hl 1 rfl) ?_
  have hPc := hP.sub (ws' := [(f0, .inr (3, [.ref hs, v1, .int (nI n), v3, v4, v5])), (hs, .inl (cH, 12, .inr (.inr (.inr (.inr (hf))))))]) [0, 1] rfl
  have hKc := hK.sub (tys' := [(cH, .object RX2)]) [0] rfl
  refine va_csq (va_runV (As := [.int (nI i)]) (rest := []) ⟨hx, hb, hml, hown, hts⟩ (c_fla_find l dC dI f0 hs cH v1 v3 v4 v5 n hf i h0 hn12 hin_ hfi) (cwV 1 hts gX3_bound_X3_find rfl rfl rfl (by decide +kernel) ⟨Nat.le_of_ble_eq_true rfl, Nat.le_of_ble_eq_true rfl⟩) (fw_preVR hN hKc hPc (ci := 3) (q0 := 0) rfl rfl) rfl rfl hl.1 rfl (lv_room (Nat.le_of_ble_eq_true rfl)) dX3_bound_2 ⟨Nat.le_of_ble_eq_true rfl, Nat.le_of_ble_eq_true rfl⟩).run (fun r_2 hr_2 => ?_)
  obtain rfl : r_2 = some h0 := hr_2
  refine W.eq (g2 := F0 zm 5 ls [.ref h0]) rfl ?_
  refine lv_astore (lv' := [(4, .ref h0), (0, .ref f0), (1, .int (nI i)), (2, .int y), (3, .int z)]) hx hb dX3_bound_5 hl (by decide) rfl (fun ls hl => ?_)
  refine lv_aload hx hb dX3_bound_7 (lv_at hl 0 rfl) ?_
  refine lv_ifnull hx hb dX3_bound_9 ?_
  refine lv_iload_n hx hb dX3_bound_12 rfl (lv_at hl 3 rfl) ?_
  have hPc := hP.sub (ws' := []) [] rfl
  have hKc := hK.sub (tys' := []) [] rfl
  refine vp_callSi (va_runS (As := [.int y]) (rest := []) ⟨hx, hb, hml, hown, hts⟩ (c_fla_isLevel l dC dI y) (va_cwS 1 hts gX3_bound_X3_isLevel rfl rfl rfl (by decide +kernel) ⟨Nat.le_of_ble_eq_true rfl, Nat.le_of_ble_eq_true rfl⟩) (fw_preSR hN hKc hPc) rfl rfl hl.1 rfl (lv_room (Nat.le_of_ble_eq_true rfl)) dX3_bound_13 ⟨Nat.le_of_ble_eq_true rfl, Nat.le_of_ble_eq_true rfl⟩).run (fun r_13 hr_13 => ?_)
  obtain rfl : r_13 = zI (fv_lv y) := hr_13
  refine lv_if_ne (tgt := 21) hx hb dX3_bound_16 (by decide) (fun c_16 => absurd (by rw [hnl]; rfl) c_16) (fun _ => ?_)
  refine lv_iconst (v := (-1)) hx hb dX3_bound_19 (by decide) ?_
  exact W.iret (v := (-1)) hx hb hr (fun zt zht _ => ⟨(-1), rfl, rfl, zht⟩) (fun q h => by cases h) dX3_bound_20 hlocks
set_option maxHeartbeats 4000000 in
set_option maxRecDepth 100000 in
theorem c_fla_share_nl (l : Launch) (dC : Nat → ClassId) (dI : Nat → Nat → Nat) (f0 hs : Nat) (cH : ClassId) (v1 v3 v4 v5 : Value) (n : Nat) (hf : Nat → Option Nat) (i h0 : Nat) (y z w : Int32) (hn12 : n ≤ 12) (hin_ : i < n) (hfi : hf i = some h0) (hnl : (fv_sh y && !decide (w < 1) && !decide (18 < w)) = false) : Met l yX3_share wsX3_share ({ frames := 1, cells := 0, slots := 0, locals := 21 } : Room) (va_Pc [.ref f0, .int (nI i), .int y, .int z, .int w] (fw_pR (dC, dI) vwCl [(cH, .object RX2)] [(f0, .inr (3, [.ref hs, v1, .int (nI n), v3, v4, v5])), (hs, .inl (cH, 12, .inr (.inr (.inr (.inr (hf))))))])) (vp_Sl (fun r => r = (-1))) 0 0 (fun _ => False) := by
  refine fw_metR (cc := cX3_share) (maxL := 7) (ret := (some .long)) (by decide) rfl (Nat.le_of_ble_eq_true rfl) ?_
  intro zp ze zs zm zbelow zmeth zc ls hx hb hr hts hown hlocks hml hin hN hP hK hl
  have hown : zs.vm.findClass RX3 = some zm.cls := hown
  have hl : lv_has ls 7 [(0, .ref f0), (1, .int (nI i)), (2, .int y), (3, .int z), (4, .int w)] := hl
  refine lv_aload_n hx hb dX3_share_0 rfl (lv_at hl 0 rfl) ?_
  refine lv_iload_n hx hb dX3_share_1 rfl (lv_at hl 1 rfl) ?_
  have hPc := hP.sub (ws' := [(f0, .inr (3, [.ref hs, v1, .int (nI n), v3, v4, v5])), (hs, .inl (cH, 12, .inr (.inr (.inr (.inr (hf))))))]) [0, 1] rfl
  have hKc := hK.sub (tys' := [(cH, .object RX2)]) [0] rfl
  refine va_csq (va_runV (As := [.int (nI i)]) (rest := []) ⟨hx, hb, hml, hown, hts⟩ (c_fla_find l dC dI f0 hs cH v1 v3 v4 v5 n hf i h0 hn12 hin_ hfi) (cwV 1 hts gX3_share_X3_find rfl rfl rfl (by decide +kernel) ⟨Nat.le_of_ble_eq_true rfl, Nat.le_of_ble_eq_true rfl⟩) (fw_preVR hN hKc hPc (ci := 3) (q0 := 0) rfl rfl) rfl rfl hl.1 rfl (lv_room (Nat.le_of_ble_eq_true rfl)) dX3_share_2 ⟨Nat.le_of_ble_eq_true rfl, Nat.le_of_ble_eq_true rfl⟩).run (fun r_2 hr_2 => ?_)
  obtain rfl : r_2 = some h0 := hr_2
  refine W.eq (g2 := F0 zm 5 ls [.ref h0]) rfl ?_
  refine lv_astore (lv' := [(5, .ref h0), (0, .ref f0), (1, .int (nI i)), (2, .int y), (3, .int z), (4, .int w)]) hx hb dX3_share_5 hl (by decide) rfl (fun ls hl => ?_)
  refine lv_aload hx hb dX3_share_7 (lv_at hl 0 rfl) ?_
  refine lv_ifnull hx hb dX3_share_9 ?_
  refine lv_iload_n hx hb dX3_share_12 rfl (lv_at hl 3 rfl) ?_
  have hPc := hP.sub (ws' := []) [] rfl
  have hKc := hK.sub (tys' := []) [] rfl
  refine vp_callSi (va_runS (As := [.int y]) (rest := []) ⟨hx, hb, hml, hown, hts⟩ (c_fla_isShare l dC dI y) (va_cwS 1 hts gX3_share_X3_isShare rfl rfl rfl (by decide +kernel) ⟨Nat.le_of_ble_eq_true rfl, Nat.le_of_ble_eq_true rfl⟩) (fw_preSR hN hKc hPc) rfl rfl hl.1 rfl (lv_room (Nat.le_of_ble_eq_true rfl)) dX3_share_13 ⟨Nat.le_of_ble_eq_true rfl, Nat.le_of_ble_eq_true rfl⟩).run (fun r_13 hr_13 => ?_)
  obtain rfl : r_13 = zI (fv_sh y) := hr_13
  refine lv_if_eq (tgt := 32) hx hb dX3_share_16 (by decide) (fun c_16 => ?_) (fun c_16 => ?_)
  · -- then 16
    refine lv_ldc2 (v := (-1)) hx hb hown (hts (.constantLong RX3 81 (-1)) (by decide +kernel)) dX3_share_32 ?_
    exact W.lret (v := (-1)) hx hb hr (fun zt zht _ => ⟨(-1), rfl, rfl, zht⟩) (fun q h => by cases h) dX3_share_35 hlocks
  · -- else 16
    have h16 := zI_ne0.mp c_16
    refine lv_iload hx hb dX3_share_19 (lv_at hl 5 rfl) ?_
    refine lv_iconst (v := 1) hx hb dX3_share_21 (by decide) ?_
    refine lv_icmp_lt (tgt := 32) hx hb dX3_share_22 (by decide) (fun c_22 => ?_) (fun c_22 => ?_)
    · -- then 22
      refine lv_ldc2 (v := (-1)) hx hb hown (hts (.constantLong RX3 81 (-1)) (by decide +kernel)) dX3_share_32 ?_
      exact W.lret (v := (-1)) hx hb hr (fun zt zht _ => ⟨(-1), rfl, rfl, zht⟩) (fun q h => by cases h) dX3_share_35 hlocks
    · -- else 22
      refine lv_iload hx hb dX3_share_25 (lv_at hl 5 rfl) ?_
      refine lv_bipush (v := 18) hx hb dX3_share_27 (by decide) ?_
      refine lv_icmp_le (tgt := 36) hx hb dX3_share_29 (by decide) (fun c_29 => ?_) (fun c_29 => ?_)
      · -- then 29
        rw [h16, decide_eq_false c_22, decide_eq_false (show ¬ 18 < w from fun q9 => absurd c_29 (Int32.not_le.mpr q9))] at hnl
        cases hnl
      · -- else 29
        refine lv_ldc2 (v := (-1)) hx hb hown (hts (.constantLong RX3 81 (-1)) (by decide +kernel)) dX3_share_32 ?_
        exact W.lret (v := (-1)) hx hb hr (fun zt zht _ => ⟨(-1), rfl, rfl, zht⟩) (fun q h => by cases h) dX3_share_35 hlocks
set_option maxHeartbeats 4000000 in
set_option maxRecDepth 100000 in
theorem c_fla_about (l : Launch) (dC : Nat → ClassId) (dI : Nat → Nat → Nat) (f0 hs : Nat) (cH : ClassId) (v1 v3 v4 v5 : Value) (n : Nat) (hf : Nat → Option Nat) (i h0 : Nat) (w0 w1 w3 w9 w10 : Value) (s d N X tm : Nat) (mk : Bool) (y : Int32) (hn12 : n ≤ 12) (hin_ : i < n) (hfi : hf i = some h0) : Met l yX3_about wsX3_about ({ frames := 1, cells := 0, slots := 0, locals := 21 } : Room) (va_Pc [.ref f0, .int (nI i), .int y] (fw_pR (dC, dI) vwCl [(cH, .object RX2)] [(f0, .inr (3, [.ref hs, v1, .int (nI n), v3, v4, v5])), (hs, .inl (cH, 12, .inr (.inr (.inr (.inr (hf)))))), (h0, .inr (2, [w0, w1, .int (nI s), w3, .int (nI d), .int (nI N), .int (nI X), .int (zI mk), .int (nI tm), w9, w10]))])) (vp_Si (fun r => r = ab_v s d N X mk tm y)) 0 0 (fun _ => False) := by
  refine fw_metR (cc := cX3_about) (maxL := 4) (ret := (some .int)) (by decide) rfl (Nat.le_of_ble_eq_true rfl) ?_
  intro zp ze zs zm zbelow zmeth zc ls hx hb hr hts hown hlocks hml hin hN hP hK hl
  have hown : zs.vm.findClass RX3 = some zm.cls := hown
  have hl : lv_has ls 4 [(0, .ref f0), (1, .int (nI i)), (2, .int y)] := hl
  refine lv_aload_n hx hb dX3_about_0 rfl (lv_at hl 0 rfl) ?_
  refine lv_iload_n hx hb dX3_about_1 rfl (lv_at hl 1 rfl) ?_
  have hPc := hP.sub (ws' := [(f0, .inr (3, [.ref hs, v1, .int (nI n), v3, v4, v5])), (hs, .inl (cH, 12, .inr (.inr (.inr (.inr (hf))))))]) [0, 1] rfl
  have hKc := hK.sub (tys' := [(cH, .object RX2)]) [0] rfl
  refine va_csq (va_runV (As := [.int (nI i)]) (rest := []) ⟨hx, hb, hml, hown, hts⟩ (c_fla_find l dC dI f0 hs cH v1 v3 v4 v5 n hf i h0 hn12 hin_ hfi) (cwV 1 hts gX3_about_X3_find rfl rfl rfl (by decide +kernel) ⟨Nat.le_of_ble_eq_true rfl, Nat.le_of_ble_eq_true rfl⟩) (fw_preVR hN hKc hPc (ci := 3) (q0 := 0) rfl rfl) rfl rfl hl.1 rfl (lv_room (Nat.le_of_ble_eq_true rfl)) dX3_about_2 ⟨Nat.le_of_ble_eq_true rfl, Nat.le_of_ble_eq_true rfl⟩).run (fun r_2 hr_2 => ?_)
  obtain rfl : r_2 = some h0 := hr_2
  refine W.eq (g2 := F0 zm 5 ls [.ref h0]) rfl ?_
  refine lv_astore_n (lv' := [(3, .ref h0), (0, .ref f0), (1, .int (nI i)), (2, .int y)]) hx hb dX3_about_5 rfl hl (by decide) rfl (fun ls hl => ?_)
  refine lv_aload_n hx hb dX3_about_6 rfl (lv_at hl 0 rfl) ?_
  refine lv_ifnonnull (tgt := 12) hx hb dX3_about_7 (by decide) ?_
  refine lv_iload_n hx hb dX3_about_12 rfl (lv_at hl 3 rfl) ?_
  rcases ab_cases y with rfl | rfl | rfl | rfl | rfl | rfl | hw9
  · -- 0
    refine lv_tableIn (tgt := 52) (off := 39) hx hb dX3_about_13 (by decide) (by decide) (by decide) (by decide) ?_
    refine lv_aload_n hx hb dX3_about_52 rfl (lv_at hl 0 rfl) ?_
    refine va_getN (D := (dC, dI)) (ci := 2) (v := .int (nI s)) (C := RX2) (T := TX2) (N := 11) hx hb hts (by decide +kernel) hown hK hP 2 rfl rfl 2 (by decide) (va_Nw.use rfl (hN.2.1)) (fun _ h9 => h9) rfl dX3_about_53 ?_
    exact W.iret (v := (nI s)) hx hb hr (fun zt zht _ => ⟨(nI s), rfl, rfl, zht⟩) (fun q h => by cases h) dX3_about_56 hlocks
  · -- 1
    refine lv_tableIn (tgt := 57) (off := 44) hx hb dX3_about_13 (by decide) (by decide) (by decide) (by decide) ?_
    refine lv_aload_n hx hb dX3_about_57 rfl (lv_at hl 0 rfl) ?_
    refine va_getN (D := (dC, dI)) (ci := 2) (v := .int (nI d)) (C := RX2) (T := TX2) (N := 11) hx hb hts (by decide +kernel) hown hK hP 2 rfl rfl 4 (by decide) (va_Nw.use rfl (hN.2.2.1)) (fun _ h9 => h9) rfl dX3_about_58 ?_
    exact W.iret (v := (nI d)) hx hb hr (fun zt zht _ => ⟨(nI d), rfl, rfl, zht⟩) (fun q h => by cases h) dX3_about_61 hlocks
  · -- 2
    refine lv_tableIn (tgt := 62) (off := 49) hx hb dX3_about_13 (by decide) (by decide) (by decide) (by decide) ?_
    refine lv_aload_n hx hb dX3_about_62 rfl (lv_at hl 0 rfl) ?_
    refine va_getN (D := (dC, dI)) (ci := 2) (v := .int (nI N)) (C := RX2) (T := TX2) (N := 11) hx hb hts (by decide +kernel) hown hK hP 2 rfl rfl 5 (by decide) (va_Nw.use rfl (hN.2.2.2.1)) (fun _ h9 => h9) rfl dX3_about_63 ?_
    exact W.iret (v := (nI N)) hx hb hr (fun zt zht _ => ⟨(nI N), rfl, rfl, zht⟩) (fun q h => by cases h) dX3_about_66 hlocks
  · -- 3
    refine lv_tableIn (tgt := 67) (off := 54) hx hb dX3_about_13 (by decide) (by decide) (by decide) (by decide) ?_
    refine lv_aload_n hx hb dX3_about_67 rfl (lv_at hl 0 rfl) ?_
    refine va_getN (D := (dC, dI)) (ci := 2) (v := .int (nI X)) (C := RX2) (T := TX2) (N := 11) hx hb hts (by decide +kernel) hown hK hP 2 rfl rfl 6 (by decide) (va_Nw.use rfl (hN.2.2.2.2.1)) (fun _ h9 => h9) rfl dX3_about_68 ?_
    exact W.iret (v := (nI X)) hx hb hr (fun zt zht _ => ⟨(nI X), rfl, rfl, zht⟩) (fun q h => by cases h) dX3_about_71 hlocks
  · -- 4
    refine lv_tableIn (tgt := 72) (off := 59) hx hb dX3_about_13 (by decide) (by decide) (by decide) (by decide) ?_
    refine lv_aload_n hx hb dX3_about_72 rfl (lv_at hl 0 rfl) ?_
    refine va_getN (D := (dC, dI)) (ci := 2) (v := .int (zI mk)) (C := RX2) (T := TX2) (N := 11) hx hb hts (by decide +kernel) hown hK hP 2 rfl rfl 7 (by decide) (va_Nw.use rfl (hN.2.2.2.2.2.1)) (fun _ h9 => h9) rfl dX3_about_73 ?_
    refine lv_if_eq (tgt := 83) hx hb dX3_about_76 (by decide) (fun c_76 => ?_) (fun c_76 => ?_)
    · -- then 76
      have h76 := zI_eq0.mp c_76
      refine lv_iconst (v := 0) hx hb dX3_about_83 (by decide) ?_
      exact W.iret (v := 0) hx hb hr (fun zt zht _ => ⟨0, rfl, by rw [h76]; rfl, zht⟩) (fun q h => by cases h) dX3_about_84 hlocks
    · -- else 76
      have h76 := zI_ne0.mp c_76
      refine lv_iconst (v := 1) hx hb dX3_about_79 (by decide) ?_
      refine lv_goto (tgt := 84) hx hb dX3_about_80 (by decide) ?_
      exact W.iret (v := 1) hx hb hr (fun zt zht _ => ⟨1, rfl, by rw [h76]; rfl, zht⟩) (fun q h => by cases h) dX3_about_84 hlocks
  · -- 5
    refine lv_tableIn (tgt := 85) (off := 72) hx hb dX3_about_13 (by decide) (by decide) (by decide) (by decide) ?_
    refine lv_aload_n hx hb dX3_about_85 rfl (lv_at hl 0 rfl) ?_
    refine va_getN (D := (dC, dI)) (ci := 2) (v := .int (nI tm)) (C := RX2) (T := TX2) (N := 11) hx hb hts (by decide +kernel) hown hK hP 2 rfl rfl 8 (by decide) (va_Nw.use rfl (hN.2.2.2.2.2.2)) (fun _ h9 => h9) rfl dX3_about_86 ?_
    exact W.iret (v := (nI tm)) hx hb hr (fun zt zht _ => ⟨(nI tm), rfl, rfl, zht⟩) (fun q h => by cases h) dX3_about_89 hlocks
  · -- o
    refine lv_tableOut (tgt := 90) hx hb dX3_about_13 (hw9.1) (by decide) ?_
    refine lv_iconst (v := (-1)) hx hb dX3_about_90 (by decide) ?_
    exact W.iret (v := (-1)) hx hb hr (fun zt zht _ => ⟨(-1), rfl, (hw9.2 _ _ _ _ _ _).symm, zht⟩) (fun q h => by cases h) dX3_about_91 hlocks
set_option maxHeartbeats 4000000 in
set_option maxRecDepth 100000 in
theorem c_fla_isBad (l : Launch) (dC : Nat → ClassId) (dI : Nat → Nat → Nat) (f0 hs : Nat) (cH : ClassId) (v1 v3 v4 v5 : Value) (n : Nat) (hf : Nat → Option Nat) (i h0 ea pa : Nat) (cI cZ : ClassId) (w3 w4 w5 w6 w7 w8 w9 w10 : Value) (s : Nat) (e : Nat → Int32) (b : Nat → Bool) (y : Int32) (hn12 : n ≤ 12) (hin_ : i < n) (hfi : hf i = some h0) (hs48 : s ≤ 48) : Met l yX3_isBad wsX3_isBad ({ frames := 2, cells := 0, slots := 0, locals := 44 } : Room) (va_Pc [.ref f0, .int (nI i), .int y] (fw_pR (dC, dI) vwCl [(cH, .object RX2), (cI, .int), (cZ, .boolean)] [(f0, .inr (3, [.ref hs, v1, .int (nI n), v3, v4, v5])), (hs, .inl (cH, 12, .inr (.inr (.inr (.inr (hf)))))), (h0, .inr (2, [.ref ea, .ref pa, .int (nI s), w3, w4, w5, w6, w7, w8, w9, w10])), (ea, .inl (cI, 48, .inl (e))), (pa, .inl (cZ, 48, .inl (fun j => zI (b j))))])) (vp_Si (fun r => r = zI (hv_has e b y false s && !hv_has e b y true s))) 0 0 (fun _ => False) := by
  refine fw_metR (cc := cX3_isBad) (maxL := 4) (ret := (some .boolean)) (by decide) rfl (Nat.le_of_ble_eq_true rfl) ?_
  intro zp ze zs zm zbelow zmeth zc ls hx hb hr hts hown hlocks hml hin hN hP hK hl
  have hown : zs.vm.findClass RX3 = some zm.cls := hown
  have hl : lv_has ls 4 [(0, .ref f0), (1, .int (nI i)), (2, .int y)] := hl
  refine lv_aload_n hx hb dX3_isBad_0 rfl (lv_at hl 0 rfl) ?_
  refine lv_iload_n hx hb dX3_isBad_1 rfl (lv_at hl 1 rfl) ?_
  have hPc := hP.sub (ws' := [(f0, .inr (3, [.ref hs, v1, .int (nI n), v3, v4, v5])), (hs, .inl (cH, 12, .inr (.inr (.inr (.inr (hf))))))]) [0, 1] rfl
  have hKc := hK.sub (tys' := [(cH, .object RX2)]) [0] rfl
  refine va_csq (va_runV (As := [.int (nI i)]) (rest := []) ⟨hx, hb, hml, hown, hts⟩ (c_fla_find l dC dI f0 hs cH v1 v3 v4 v5 n hf i h0 hn12 hin_ hfi) (cwV 1 hts gX3_isBad_X3_find rfl rfl rfl (by decide +kernel) ⟨Nat.le_of_ble_eq_true rfl, Nat.le_of_ble_eq_true rfl⟩) (fw_preVR hN hKc hPc (ci := 3) (q0 := 0) rfl rfl) rfl rfl hl.1 rfl (lv_room (Nat.le_of_ble_eq_true rfl)) dX3_isBad_2 ⟨Nat.le_of_ble_eq_true rfl, Nat.le_of_ble_eq_true rfl⟩).run (fun r_2 hr_2 => ?_)
  obtain rfl : r_2 = some h0 := hr_2
  refine W.eq (g2 := F0 zm 5 ls [.ref h0]) rfl ?_
  refine lv_astore_n (lv' := [(3, .ref h0), (0, .ref f0), (1, .int (nI i)), (2, .int y)]) hx hb dX3_isBad_5 rfl hl (by decide) rfl (fun ls hl => ?_)
  refine lv_aload_n hx hb dX3_isBad_6 rfl (lv_at hl 0 rfl) ?_
  refine lv_ifnull hx hb dX3_isBad_7 ?_
  refine lv_aload_n hx hb dX3_isBad_10 rfl (lv_at hl 0 rfl) ?_
  refine lv_iload_n hx hb dX3_isBad_11 rfl (lv_at hl 3 rfl) ?_
  have hPc := hP.sub (ws' := [(h0, .inr (2, [.ref ea, .ref pa, .int (nI s), w3, w4, w5, w6, w7, w8, w9, w10])), (ea, .inl (cI, 48, .inl (e))), (pa, .inl (cZ, 48, .inl (fun j => zI (b j))))]) [2, 3, 4] rfl
  have hKc := hK.sub (tys' := [(cI, .int), (cZ, .boolean)]) [1, 2] rfl
  refine vp_callSi (va_runV (As := [.int y]) (rest := []) ⟨hx, hb, hml, hown, hts⟩ (c_his_only l dC dI h0 ea pa cI cZ s w3 w4 w5 w6 w7 w8 w9 w10 e b y hs48) (cwV 1 hts gX3_isBad_X2_hasOnlyFails rfl rfl rfl (by decide +kernel) ⟨Nat.le_of_ble_eq_true rfl, Nat.le_of_ble_eq_true rfl⟩) (fw_preVR hN hKc hPc (ci := 2) (q0 := 0) rfl rfl) rfl rfl hl.1 rfl (lv_room (Nat.le_of_ble_eq_true rfl)) dX3_isBad_12 ⟨Nat.le_of_ble_eq_true rfl, Nat.le_of_ble_eq_true rfl⟩).run (fun r_12 hr_12 => ?_)
  obtain rfl : r_12 = zI (hv_has e b y false s && !hv_has e b y true s) := hr_12
  refine lv_if_eq (tgt := 22) hx hb dX3_isBad_15 (by decide) (fun c_15 => ?_) (fun c_15 => ?_)
  · -- then 15
    have h15 := zI_eq0.mp c_15
    refine lv_iconst (v := 0) hx hb dX3_isBad_22 (by decide) ?_
    exact W.zret (v := 0) (ty := .boolean) hx hb hr rfl (fun zt zht _ => ⟨0, rfl, by rw [h15]; rfl, zht⟩) (fun q h => by cases h) dX3_isBad_23 hlocks
  · -- else 15
    have h15 := zI_ne0.mp c_15
    refine lv_iconst (v := 1) hx hb dX3_isBad_18 (by decide) ?_
    refine lv_goto (tgt := 23) hx hb dX3_isBad_19 (by decide) ?_
    exact W.zret (v := 1) (ty := .boolean) hx hb hr rfl (fun zt zht _ => ⟨1, rfl, by rw [h15]; rfl, zht⟩) (fun q h => by cases h) dX3_isBad_23 hlocks
set_option maxHeartbeats 4000000 in
set_option maxRecDepth 100000 in
theorem c_fla_rules_no (l : Launch) (dC : Nat → ClassId) (dI : Nat → Nat → Nat) (f0 : Nat) (v0 v1 v2 v3 v4 v5 : Value) (x y z : Int32) (hno : (fv_lv x && fv_sh y && fv_sh z && !decide (y < z)) = false) : Met l yX3_rules wsX3_rules ({ frames := 1, cells := 0, slots := 0, locals := 20 } : Room) (va_Pc [.ref f0, .int x, .int y, .int z] (fw_pR (dC, dI) vwCl [] [(f0, .inr (3, [v0, v1, v2, v3, v4, v5]))])) (vp_Si (fun r => r = 0)) 0 0 (fun _ => False) := by
  refine fw_metR (cc := cX3_rules) (maxL := 4) (ret := (some .boolean)) (by decide) rfl (Nat.le_of_ble_eq_true rfl) ?_
  intro zp ze zs zm zbelow zmeth zc ls hx hb hr hts hown hlocks hml hin hN hP hK hl
  have hown : zs.vm.findClass RX3 = some zm.cls := hown
  have hl : lv_has ls 4 [(0, .ref f0), (1, .int x), (2, .int y), (3, .int z)] := hl
  refine lv_iload_n hx hb dX3_rules_0 rfl (lv_at hl 1 rfl) ?_
  have hPc := hP.sub (ws' := []) [] rfl
  have hKc := hK.sub (tys' := []) [] rfl
  refine vp_callSi (va_runS (As := [.int x]) (rest := []) ⟨hx, hb, hml, hown, hts⟩ (c_fla_isLevel l dC dI x) (va_cwS 1 hts gX3_rules_X3_isLevel rfl rfl rfl (by decide +kernel) ⟨Nat.le_of_ble_eq_true rfl, Nat.le_of_ble_eq_true rfl⟩) (fw_preSR hN hKc hPc) rfl rfl hl.1 rfl (lv_room (Nat.le_of_ble_eq_true rfl)) dX3_rules_1 ⟨Nat.le_of_ble_eq_true rfl, Nat.le_of_ble_eq_true rfl⟩).run (fun r_1 hr_1 => ?_)
  obtain rfl : r_1 = zI (fv_lv x) := hr_1
  refine lv_if_eq (tgt := 26) hx hb dX3_rules_4 (by decide) (fun c_4 => ?_) (fun c_4 => ?_)
  · -- then 4
    have h4 := zI_eq0.mp c_4
    refine lv_iconst (v := 0) hx hb dX3_rules_26 (by decide) ?_
    exact W.zret (v := 0) (ty := .boolean) hx hb hr rfl (fun zt zht _ => ⟨0, rfl, rfl, zht⟩) (fun q h => by cases h) dX3_rules_27 hlocks
  · -- else 4
    have h4 := zI_ne0.mp c_4
    refine lv_iload_n hx hb dX3_rules_7 rfl (lv_at hl 2 rfl) ?_
    have hPc := hP.sub (ws' := []) [] rfl
    have hKc := hK.sub (tys' := []) [] rfl
    refine vp_callSi (va_runS (As := [.int y]) (rest := []) ⟨hx, hb, hml, hown, hts⟩ (c_fla_isShare l dC dI y) (va_cwS 1 hts gX3_rules_X3_isShare rfl rfl rfl (by decide +kernel) ⟨Nat.le_of_ble_eq_true rfl, Nat.le_of_ble_eq_true rfl⟩) (fw_preSR hN hKc hPc) rfl rfl hl.1 rfl (lv_room (Nat.le_of_ble_eq_true rfl)) dX3_rules_8 ⟨Nat.le_of_ble_eq_true rfl, Nat.le_of_ble_eq_true rfl⟩).run (fun r_8 hr_8 => ?_)
    obtain rfl : r_8 = zI (fv_sh y) := hr_8
    refine lv_if_eq (tgt := 26) hx hb dX3_rules_11 (by decide) (fun c_11 => ?_) (fun c_11 => ?_)
    · -- then 11
      have h11 := zI_eq0.mp c_11
      refine lv_iconst (v := 0) hx hb dX3_rules_26 (by decide) ?_
      exact W.zret (v := 0) (ty := .boolean) hx hb hr rfl (fun zt zht _ => ⟨0, rfl, rfl, zht⟩) (fun q h => by cases h) dX3_rules_27 hlocks
    · -- else 11
      have h11 := zI_ne0.mp c_11
      refine lv_iload_n hx hb dX3_rules_14 rfl (lv_at hl 3 rfl) ?_
      have hPc := hP.sub (ws' := []) [] rfl
      have hKc := hK.sub (tys' := []) [] rfl
      refine vp_callSi (va_runS (As := [.int z]) (rest := []) ⟨hx, hb, hml, hown, hts⟩ (c_fla_isShare l dC dI z) (va_cwS 1 hts gX3_rules_X3_isShare rfl rfl rfl (by decide +kernel) ⟨Nat.le_of_ble_eq_true rfl, Nat.le_of_ble_eq_true rfl⟩) (fw_preSR hN hKc hPc) rfl rfl hl.1 rfl (lv_room (Nat.le_of_ble_eq_true rfl)) dX3_rules_15 ⟨Nat.le_of_ble_eq_true rfl, Nat.le_of_ble_eq_true rfl⟩).run (fun r_15 hr_15 => ?_)
      obtain rfl : r_15 = zI (fv_sh z) := hr_15
      refine lv_if_eq (tgt := 26) hx hb dX3_rules_18 (by decide) (fun c_18 => ?_) (fun c_18 => ?_)
      · -- then 18
        have h18 := zI_eq0.mp c_18
        refine lv_iconst (v := 0) hx hb dX3_rules_26 (by decide) ?_
        exact W.zret (v := 0) (ty := .boolean) hx hb hr rfl (fun zt zht _ => ⟨0, rfl, rfl, zht⟩) (fun q h => by cases h) dX3_rules_27 hlocks
      · -- else 18
        have h18 := zI_ne0.mp c_18
        refine lv_iload_n hx hb dX3_rules_21 rfl (lv_at hl 3 rfl) ?_
        refine lv_iload_n hx hb dX3_rules_22 rfl (lv_at hl 2 rfl) ?_
        refine lv_icmp_le (tgt := 28) hx hb dX3_rules_23 (by decide) (fun c_23 => ?_) (fun c_23 => ?_)
        · -- then 23
          rw [h4, h11, h18, decide_eq_false (show ¬ y < z from fun q9 => absurd c_23 (Int32.not_le.mpr q9))] at hno
          cases hno
        · -- else 23
          refine lv_iconst (v := 0) hx hb dX3_rules_26 (by decide) ?_
          exact W.zret (v := 0) (ty := .boolean) hx hb hr rfl (fun zt zht _ => ⟨0, rfl, rfl, zht⟩) (fun q h => by cases h) dX3_rules_27 hlocks
set_option maxHeartbeats 4000000 in
set_option maxRecDepth 100000 in
theorem c_fla_rules (l : Launch) (dC : Nat → ClassId) (dI : Nat → Nat → Nat) (f0 : Nat) (v0 v1 v2 v3 v4 v5 : Value) (x y z : Int32) (sz : Nat) (h1 : fv_lv x = true) (h2 : fv_sh y = true) (h3 : fv_sh z = true) (h4_ : ¬ y < z) : Met l yX3_rules wsX3_rules ({ frames := 1, cells := 0, slots := 0, locals := 20 } : Room) (va_Pc [.ref f0, .int x, .int y, .int z] (fw_pW (dC, dI) vwCl [] [(f0, .inr (3, [v0, v1, v2, v3, v4, v5]))] sz)) (va_Qi (S := Unit) (fun r _ => r = 1) (fun u t => fw_q (dC, dI) vwCl [] (va_A [(f0, .inr (3, [v0, v1, v2, v3, v4, v5]))] sz) [(f0, .inr (3, [v0, v1, v2, .int x, .int y, .int z]))] t) (va_A [(f0, .inr (3, [v0, v1, v2, v3, v4, v5]))] sz)) 0 0 (va_A [(f0, .inr (3, [v0, v1, v2, v3, v4, v5]))] sz) := by
  refine fw_metW (cc := cX3_rules) (maxL := 4) (ret := (some .boolean)) (by decide) rfl (Nat.le_of_ble_eq_true rfl) ?_
  intro zp ze zs zm zbelow zmeth zc ls hx hb hr hts hown hlocks hml hin hN hsz hP hK hD hA hS hl
  generalize hAe : (va_A [(f0, .inr (3, [v0, v1, v2, v3, v4, v5]))] sz) = A at hD hA hS ⊢
  have hown : zs.vm.findClass RX3 = some zm.cls := hown
  have hl : lv_has ls 4 [(0, .ref f0), (1, .int x), (2, .int y), (3, .int z)] := hl
  refine lv_iload_n hx hb dX3_rules_0 rfl (lv_at hl 1 rfl) ?_
  have hPc := hP.sub (ws' := []) [] rfl
  have hKc := hK.sub (tys' := []) [] rfl
  refine vp_callSi (va_runS (As := [.int x]) (rest := []) ⟨hx, hb, hml, hown, hts⟩ (c_fla_isLevel l dC dI x) (va_cwS 1 hts gX3_rules_X3_isLevel rfl rfl rfl (by decide +kernel) ⟨Nat.le_of_ble_eq_true rfl, Nat.le_of_ble_eq_true rfl⟩) (fw_preSR hN hKc hPc) rfl rfl hl.1 rfl (lv_room (Nat.le_of_ble_eq_true rfl)) dX3_rules_1 ⟨Nat.le_of_ble_eq_true rfl, Nat.le_of_ble_eq_true rfl⟩).run (fun r_1 hr_1 => ?_)
  obtain rfl : r_1 = zI (fv_lv x) := hr_1
  refine lv_if_eq (tgt := 26) hx hb dX3_rules_4 (by decide) (fun c_4 => absurd c_4 (by rw [h1]; decide)) (fun _ => ?_)
  refine lv_iload_n hx hb dX3_rules_7 rfl (lv_at hl 2 rfl) ?_
  have hPc := hP.sub (ws' := []) [] rfl
  have hKc := hK.sub (tys' := []) [] rfl
  refine vp_callSi (va_runS (As := [.int y]) (rest := []) ⟨hx, hb, hml, hown, hts⟩ (c_fla_isShare l dC dI y) (va_cwS 1 hts gX3_rules_X3_isShare rfl rfl rfl (by decide +kernel) ⟨Nat.le_of_ble_eq_true rfl, Nat.le_of_ble_eq_true rfl⟩) (fw_preSR hN hKc hPc) rfl rfl hl.1 rfl (lv_room (Nat.le_of_ble_eq_true rfl)) dX3_rules_8 ⟨Nat.le_of_ble_eq_true rfl, Nat.le_of_ble_eq_true rfl⟩).run (fun r_8 hr_8 => ?_)
  obtain rfl : r_8 = zI (fv_sh y) := hr_8
  refine lv_if_eq (tgt := 26) hx hb dX3_rules_11 (by decide) (fun c_11 => absurd c_11 (by rw [h2]; decide)) (fun _ => ?_)
  refine lv_iload_n hx hb dX3_rules_14 rfl (lv_at hl 3 rfl) ?_
  have hPc := hP.sub (ws' := []) [] rfl
  have hKc := hK.sub (tys' := []) [] rfl
  refine vp_callSi (va_runS (As := [.int z]) (rest := []) ⟨hx, hb, hml, hown, hts⟩ (c_fla_isShare l dC dI z) (va_cwS 1 hts gX3_rules_X3_isShare rfl rfl rfl (by decide +kernel) ⟨Nat.le_of_ble_eq_true rfl, Nat.le_of_ble_eq_true rfl⟩) (fw_preSR hN hKc hPc) rfl rfl hl.1 rfl (lv_room (Nat.le_of_ble_eq_true rfl)) dX3_rules_15 ⟨Nat.le_of_ble_eq_true rfl, Nat.le_of_ble_eq_true rfl⟩).run (fun r_15 hr_15 => ?_)
  obtain rfl : r_15 = zI (fv_sh z) := hr_15
  refine lv_if_eq (tgt := 26) hx hb dX3_rules_18 (by decide) (fun c_18 => absurd c_18 (by rw [h3]; decide)) (fun _ => ?_)
  refine lv_iload_n hx hb dX3_rules_21 rfl (lv_at hl 3 rfl) ?_
  refine lv_iload_n hx hb dX3_rules_22 rfl (lv_at hl 2 rfl) ?_
  refine lv_icmp_le (tgt := 28) hx hb dX3_rules_23 (by decide) (fun _ => ?_) (fun c_23 => absurd (Int32.not_lt.mp h4_) c_23)
  refine lv_aload_n hx hb dX3_rules_28 rfl (lv_at hl 0 rfl) ?_
  refine lv_iload_n hx hb dX3_rules_29 rfl (lv_at hl 1 rfl) ?_
  refine va_put (D := (dC, dI)) (ci := 3) (v := .int x) (ty := .int) (C := RX3) (T := TX3) (N := 6) hx hb hts (by decide +kernel) tyX3 tyX3_ok nmX3 hown hK hP hD hS 0 rfl rfl 3 (by decide) (hts (.fieldLink RX3 26 "FlakyBounds" "ruleLevel" "I") (by decide +kernel)) (fun _ h9 => h9) rfl (by decide +kernel) rfl rfl (Nat.le_of_ble_eq_true rfl) dX3_rules_30 (fun H locs hP hD hS => ?_)
  have hP : va_P (dC, dI) vwCl [(f0, .inr (3, [v0, v1, v2, .int x, v4, v5]))] H := hP
  have hD : va_D A [(f0, .inr (3, [v0, v1, v2, .int x, v4, v5]))] := hD
  refine lv_aload_n hx hb dX3_rules_33 rfl (lv_at hl 0 rfl) ?_
  refine lv_iload_n hx hb dX3_rules_34 rfl (lv_at hl 2 rfl) ?_
  refine va_put (D := (dC, dI)) (ci := 3) (v := .int y) (ty := .int) (C := RX3) (T := TX3) (N := 6) hx hb hts (by decide +kernel) tyX3 tyX3_ok nmX3 hown hK hP hD hS 0 rfl rfl 4 (by decide) (hts (.fieldLink RX3 29 "FlakyBounds" "ruleMark" "I") (by decide +kernel)) (fun _ h9 => h9) rfl (by decide +kernel) rfl rfl (Nat.le_of_ble_eq_true rfl) dX3_rules_35 (fun H locs hP hD hS => ?_)
  have hP : va_P (dC, dI) vwCl [(f0, .inr (3, [v0, v1, v2, .int x, .int y, v5]))] H := hP
  have hD : va_D A [(f0, .inr (3, [v0, v1, v2, .int x, .int y, v5]))] := hD
  refine lv_aload_n hx hb dX3_rules_38 rfl (lv_at hl 0 rfl) ?_
  refine lv_iload_n hx hb dX3_rules_39 rfl (lv_at hl 3 rfl) ?_
  refine va_put (D := (dC, dI)) (ci := 3) (v := .int z) (ty := .int) (C := RX3) (T := TX3) (N := 6) hx hb hts (by decide +kernel) tyX3 tyX3_ok nmX3 hown hK hP hD hS 0 rfl rfl 5 (by decide) (hts (.fieldLink RX3 32 "FlakyBounds" "ruleClear" "I") (by decide +kernel)) (fun _ h9 => h9) rfl (by decide +kernel) rfl rfl (Nat.le_of_ble_eq_true rfl) dX3_rules_40 (fun H locs hP hD hS => ?_)
  have hP : va_P (dC, dI) vwCl [(f0, .inr (3, [v0, v1, v2, .int x, .int y, .int z]))] H := hP
  have hD : va_D A [(f0, .inr (3, [v0, v1, v2, .int x, .int y, .int z]))] := hD
  refine lv_iconst (v := 1) hx hb dX3_rules_43 (by decide) ?_
  have hP9 := hP.sub (ws' := [(f0, .inr (3, [v0, v1, v2, .int x, .int y, .int z]))]) [0] rfl
  have hD9 := hD.sub (ws' := [(f0, .inr (3, [v0, v1, v2, .int x, .int y, .int z]))]) [0] (by decide) rfl
  have hK9 := hK.sub (tys' := []) [] rfl
  exact W.zret (v := 1) (ty := .boolean) hx hb hr rfl (fun zt zht hW => ⟨⟨1, ⟨⟩, rfl, rfl, by rw [zht]; exact hP9, va_K.moved hW.alike hK9, hD9⟩, hS.F zht⟩) hS.2.2 dX3_rules_44 hlocks
set_option maxHeartbeats 4000000 in
set_option maxRecDepth 100000 in
theorem c_fla_run (l : Launch) (dC : Nat → ClassId) (dI : Nat → Nat → Nat) (f0 hs c0 s0 sa t0 ta h0 ea pa : Nat) (cH cJ cI cZ : ClassId) (lv mr cr : Nat) (ds dt : Nat → Nat) (n i : Nat) (hf : Nat → Option Nat) (s o : Nat) (x4 x5 x6 : Int32) (mk : Bool) (tm : Nat) (je : Int32) (jf : Nat) (e : Nat → Int32) (b : Nat → Bool) (x : Int32) (q : Bool) (sz : Nat) (hn12 : n ≤ 12) (hin_ : i < n) (hfi : hf i = some h0) (hlv : lv ≤ 999) (hmr : mr ≤ 1000) (hcr : cr ≤ 1000) (hs48 : s ≤ 48) (ho : o < 48) (hjf : jf ≤ 2) (hed : fv_ed x = true) : Met l yX3_run wsX3_run ({ frames := 4, cells := 0, slots := 0, locals := 97 } : Room) (va_Pc [.ref f0, .int (nI i), .int x, .int (zI q)] (fw_pW (dC, dI) vwCl [(cH, .object RX2), (cJ, .long), (cI, .int), (cZ, .boolean)] [(f0, .inr (3, [.ref hs, .ref c0, .int (nI n), .int (nI lv), .int (nI mr), .int (nI cr)])), (hs, .inl (cH, 12, .inr (.inr (.inr (.inr (hf)))))), (c0, .inr (0, [.ref s0, .ref t0])), (s0, .inr (1, [.ref sa])), (sa, .inl (cJ, 17, .inr (.inl (fun j => lN (ds j))))), (t0, .inr (1, [.ref ta])), (ta, .inl (cJ, 17, .inr (.inl (fun j => lN (dt j))))), (h0, .inr (2, [.ref ea, .ref pa, .int (nI s), .int (nI o), .int x4, .int x5, .int x6, .int (zI mk), .int (nI tm), .int je, .int (nI jf)])), (ea, .inl (cI, 48, .inl (e))), (pa, .inl (cZ, 48, .inl (fun j => zI (b j))))] sz)) (va_Qi (S := (Nat → Nat) × (Nat → Nat)) (fun r _ => r = 1) (fun u t => fw_q (dC, dI) vwCl [(cH, .object RX2), (cJ, .long), (cI, .int), (cZ, .boolean)] (va_A [(f0, .inr (3, [.ref hs, .ref c0, .int (nI n), .int (nI lv), .int (nI mr), .int (nI cr)])), (hs, .inl (cH, 12, .inr (.inr (.inr (.inr (hf)))))), (c0, .inr (0, [.ref s0, .ref t0])), (s0, .inr (1, [.ref sa])), (sa, .inl (cJ, 17, .inr (.inl (fun j => lN (ds j))))), (t0, .inr (1, [.ref ta])), (ta, .inl (cJ, 17, .inr (.inl (fun j => lN (dt j))))), (h0, .inr (2, [.ref ea, .ref pa, .int (nI s), .int (nI o), .int x4, .int x5, .int x6, .int (zI mk), .int (nI tm), .int je, .int (nI jf)])), (ea, .inl (cI, 48, .inl (e))), (pa, .inl (cZ, 48, .inl (fun j => zI (b j))))] sz) [(f0, .inr (3, [.ref hs, .ref c0, .int (nI n), .int (nI lv), .int (nI mr), .int (nI cr)])), (hs, .inl (cH, 12, .inr (.inr (.inr (.inr (hf)))))), (c0, .inr (0, [.ref s0, .ref t0])), (s0, .inr (1, [.ref sa])), (sa, .inl (cJ, 17, .inr (.inl (fun j => lN (u.1 j))))), (t0, .inr (1, [.ref ta])), (ta, .inl (cJ, 17, .inr (.inl (fun j => lN (u.2 j))))), (h0, .inr (2, [.ref ea, .ref pa, .int (nI (hv_s s)), .int (nI (hv_o s o)), .int (nI (hv_D (upd e (hv_slot s o) x) (va_up b (hv_slot s o) q) (hv_s s) (hv_s s))), .int (nI (hv_N (upd e (hv_slot s o) x) (va_up b (hv_slot s o) q) (hv_s s) (hv_s s))), .int (nI (hv_X (upd e (hv_slot s o) x) (va_up b (hv_slot s o) q) (hv_s s) (hv_s s))), .int (zI (tk_m mk (hv_N (upd e (hv_slot s o) x) (va_up b (hv_slot s o) q) (hv_s s) (hv_s s)) (hv_X (upd e (hv_slot s o) x) (va_up b (hv_slot s o) q) (hv_s s) (hv_s s)) lv mr cr)), .int (nI (tk_t mk tm (hv_N (upd e (hv_slot s o) x) (va_up b (hv_slot s o) q) (hv_s s) (hv_s s)) (hv_X (upd e (hv_slot s o) x) (va_up b (hv_slot s o) q) (hv_s s) (hv_s s)) lv mr)), .int je, .int (nI jf)])), (ea, .inl (cI, 48, .inl ((upd e (hv_slot s o) x)))), (pa, .inl (cZ, 48, .inl (fun j => zI ((va_up b (hv_slot s o) q) j))))] t) (va_A [(f0, .inr (3, [.ref hs, .ref c0, .int (nI n), .int (nI lv), .int (nI mr), .int (nI cr)])), (hs, .inl (cH, 12, .inr (.inr (.inr (.inr (hf)))))), (c0, .inr (0, [.ref s0, .ref t0])), (s0, .inr (1, [.ref sa])), (sa, .inl (cJ, 17, .inr (.inl (fun j => lN (ds j))))), (t0, .inr (1, [.ref ta])), (ta, .inl (cJ, 17, .inr (.inl (fun j => lN (dt j))))), (h0, .inr (2, [.ref ea, .ref pa, .int (nI s), .int (nI o), .int x4, .int x5, .int x6, .int (zI mk), .int (nI tm), .int je, .int (nI jf)])), (ea, .inl (cI, 48, .inl (e))), (pa, .inl (cZ, 48, .inl (fun j => zI (b j))))] sz)) 0 0 (va_A [(f0, .inr (3, [.ref hs, .ref c0, .int (nI n), .int (nI lv), .int (nI mr), .int (nI cr)])), (hs, .inl (cH, 12, .inr (.inr (.inr (.inr (hf)))))), (c0, .inr (0, [.ref s0, .ref t0])), (s0, .inr (1, [.ref sa])), (sa, .inl (cJ, 17, .inr (.inl (fun j => lN (ds j))))), (t0, .inr (1, [.ref ta])), (ta, .inl (cJ, 17, .inr (.inl (fun j => lN (dt j))))), (h0, .inr (2, [.ref ea, .ref pa, .int (nI s), .int (nI o), .int x4, .int x5, .int x6, .int (zI mk), .int (nI tm), .int je, .int (nI jf)])), (ea, .inl (cI, 48, .inl (e))), (pa, .inl (cZ, 48, .inl (fun j => zI (b j))))] sz) := by
  refine fw_metW (cc := cX3_run) (maxL := 5) (ret := (some .boolean)) (by decide) rfl (Nat.le_of_ble_eq_true rfl) ?_
  intro zp ze zs zm zbelow zmeth zc ls hx hb hr hts hown hlocks hml hin hN hsz hP hK hD hA hS hl
  generalize hAe : (va_A [(f0, .inr (3, [.ref hs, .ref c0, .int (nI n), .int (nI lv), .int (nI mr), .int (nI cr)])), (hs, .inl (cH, 12, .inr (.inr (.inr (.inr (hf)))))), (c0, .inr (0, [.ref s0, .ref t0])), (s0, .inr (1, [.ref sa])), (sa, .inl (cJ, 17, .inr (.inl (fun j => lN (ds j))))), (t0, .inr (1, [.ref ta])), (ta, .inl (cJ, 17, .inr (.inl (fun j => lN (dt j))))), (h0, .inr (2, [.ref ea, .ref pa, .int (nI s), .int (nI o), .int x4, .int x5, .int x6, .int (zI mk), .int (nI tm), .int je, .int (nI jf)])), (ea, .inl (cI, 48, .inl (e))), (pa, .inl (cZ, 48, .inl (fun j => zI (b j))))] sz) = A at hD hA hS ⊢
  have hown : zs.vm.findClass RX3 = some zm.cls := hown
  have hl : lv_has ls 5 [(0, .ref f0), (1, .int (nI i)), (2, .int x), (3, .int (zI q))] := hl
  refine lv_aload_n hx hb dX3_run_0 rfl (lv_at hl 0 rfl) ?_
  refine lv_iload_n hx hb dX3_run_1 rfl (lv_at hl 1 rfl) ?_
  have hPc := hP.sub (ws' := [(f0, .inr (3, [.ref hs, .ref c0, .int (nI n), .int (nI lv), .int (nI mr), .int (nI cr)])), (hs, .inl (cH, 12, .inr (.inr (.inr (.inr (hf))))))]) [0, 1] rfl
  have hKc := hK.sub (tys' := [(cH, .object RX2)]) [0] rfl
  refine va_csq (va_runV (As := [.int (nI i)]) (rest := []) ⟨hx, hb, hml, hown, hts⟩ (c_fla_find l dC dI f0 hs cH (.ref c0) (.int (nI lv)) (.int (nI mr)) (.int (nI cr)) n hf i h0 hn12 hin_ hfi) (cwV 1 hts gX3_run_X3_find rfl rfl rfl (by decide +kernel) ⟨Nat.le_of_ble_eq_true rfl, Nat.le_of_ble_eq_true rfl⟩) (fw_preVR hN hKc hPc (ci := 3) (q0 := 0) rfl rfl) rfl rfl hl.1 rfl (lv_room (Nat.le_of_ble_eq_true rfl)) dX3_run_2 ⟨Nat.le_of_ble_eq_true rfl, Nat.le_of_ble_eq_true rfl⟩).run (fun r_2 hr_2 => ?_)
  obtain rfl : r_2 = some h0 := hr_2
  refine W.eq (g2 := F0 zm 5 ls [.ref h0]) rfl ?_
  refine lv_astore (lv' := [(4, .ref h0), (0, .ref f0), (1, .int (nI i)), (2, .int x), (3, .int (zI q))]) hx hb dX3_run_5 hl (by decide) rfl (fun ls hl => ?_)
  refine lv_aload hx hb dX3_run_7 (lv_at hl 0 rfl) ?_
  refine lv_ifnull hx hb dX3_run_9 ?_
  refine lv_iload_n hx hb dX3_run_12 rfl (lv_at hl 3 rfl) ?_
  have hPc := hP.sub (ws' := []) [] rfl
  have hKc := hK.sub (tys' := []) [] rfl
  refine vp_callSi (va_runS (As := [.int x]) (rest := []) ⟨hx, hb, hml, hown, hts⟩ (c_fla_isEdition l dC dI x) (va_cwS 1 hts gX3_run_X3_isEdition rfl rfl rfl (by decide +kernel) ⟨Nat.le_of_ble_eq_true rfl, Nat.le_of_ble_eq_true rfl⟩) (fw_preSR hN hKc hPc) rfl rfl hl.1 rfl (lv_room (Nat.le_of_ble_eq_true rfl)) dX3_run_13 ⟨Nat.le_of_ble_eq_true rfl, Nat.le_of_ble_eq_true rfl⟩).run (fun r_13 hr_13 => ?_)
  obtain rfl : r_13 = zI (fv_ed x) := hr_13
  refine lv_if_ne (tgt := 21) hx hb dX3_run_16 (by decide) (fun _ => ?_) (fun c_16 => absurd c_16 (by rw [hed]; decide))
  refine lv_aload_n hx hb dX3_run_21 rfl (lv_at hl 1 rfl) ?_
  refine lv_aload hx hb dX3_run_22 (lv_at hl 0 rfl) ?_
  refine lv_iload_n hx hb dX3_run_24 rfl (lv_at hl 3 rfl) ?_
  refine lv_iload_n hx hb dX3_run_25 rfl (lv_at hl 4 rfl) ?_
  have hPc := hP.sub (ws' := [(f0, .inr (3, [.ref hs, .ref c0, .int (nI n), .int (nI lv), .int (nI mr), .int (nI cr)])), (c0, .inr (0, [.ref s0, .ref t0])), (s0, .inr (1, [.ref sa])), (sa, .inl (cJ, 17, .inr (.inl (fun j => lN (ds j))))), (t0, .inr (1, [.ref ta])), (ta, .inl (cJ, 17, .inr (.inl (fun j => lN (dt j))))), (h0, .inr (2, [.ref ea, .ref pa, .int (nI s), .int (nI o), .int x4, .int x5, .int x6, .int (zI mk), .int (nI tm), .int je, .int (nI jf)])), (ea, .inl (cI, 48, .inl (e))), (pa, .inl (cZ, 48, .inl (fun j => zI (b j))))]) [0, 2, 3, 4, 5, 6, 7, 8, 9] rfl
  have hKc := hK.sub (tys' := [(cJ, .long), (cI, .int), (cZ, .boolean)]) [1, 2, 3] rfl
  have hDc := hD.sub (ws' := [(f0, .inr (3, [.ref hs, .ref c0, .int (nI n), .int (nI lv), .int (nI mr), .int (nI cr)])), (c0, .inr (0, [.ref s0, .ref t0])), (s0, .inr (1, [.ref sa])), (sa, .inl (cJ, 17, .inr (.inl (fun j => lN (ds j))))), (t0, .inr (1, [.ref ta])), (ta, .inl (cJ, 17, .inr (.inl (fun j => lN (dt j))))), (h0, .inr (2, [.ref ea, .ref pa, .int (nI s), .int (nI o), .int x4, .int x5, .int x6, .int (zI mk), .int (nI tm), .int je, .int (nI jf)])), (ea, .inl (cI, 48, .inl (e))), (pa, .inl (cZ, 48, .inl (fun j => zI (b j))))]) [0, 2, 3, 4, 5, 6, 7, 8, 9] (by decide) rfl
  have hFc := va_free (wc := [(f0, .inr (3, [.ref hs, .ref c0, .int (nI n), .int (nI lv), .int (nI mr), .int (nI cr)])), (c0, .inr (0, [.ref s0, .ref t0])), (s0, .inr (1, [.ref sa])), (sa, .inl (cJ, 17, .inr (.inl (fun j => lN (ds j))))), (t0, .inr (1, [.ref ta])), (ta, .inl (cJ, 17, .inr (.inl (fun j => lN (dt j))))), (h0, .inr (2, [.ref ea, .ref pa, .int (nI s), .int (nI o), .int x4, .int x5, .int x6, .int (zI mk), .int (nI tm), .int je, .int (nI jf)])), (ea, .inl (cI, 48, .inl (e))), (pa, .inl (cZ, 48, .inl (fun j => zI (b j))))]) hD hS hA [0, 2, 3, 4, 5, 6, 7, 8, 9] rfl
  refine va_callv (va_runV (As := [.ref h0, .int x, .int (zI q)]) (rest := []) ⟨hx, hb, hml, hown, hts⟩ (c_fla_take l dC dI f0 c0 s0 sa t0 ta h0 ea pa cJ cI cZ (.ref hs) (.int (nI n)) lv mr cr ds dt s o x4 x5 x6 mk tm (.int je) (.int (nI jf)) e b x q zs.heap.size hlv hmr hcr hs48 ho) (cwV 3 hts gX3_run_X3_take rfl rfl rfl (by decide +kernel) ⟨Nat.le_of_ble_eq_true rfl, Nat.le_of_ble_eq_true rfl⟩) (fw_preVW hN hKc hPc hDc (ci := 3) (q0 := 0) rfl rfl) rfl rfl hl.1 rfl (lv_room (Nat.le_of_ble_eq_true rfl)) dX3_run_26 ⟨Nat.le_of_ble_eq_true rfl, Nat.le_of_ble_eq_true rfl⟩) hS (fun q _ h => hFc q h) hFc (fun u zt H1 locs zht hvm hw hB hz1 hk1 hS => ?_)
  obtain ⟨e1, e2⟩ := u
  obtain ⟨hP1, hK1, hD1⟩ := hB
  rw [zht] at hP1
  obtain ⟨hP, hD⟩ := va_join (wr := [(hs, .inl (cH, 12, .inr (.inr (.inr (.inr (hf))))))]) (w1 := [(f0, .inr (3, [.ref hs, .ref c0, .int (nI n), .int (nI lv), .int (nI mr), .int (nI cr)])), (c0, .inr (0, [.ref s0, .ref t0])), (s0, .inr (1, [.ref sa])), (sa, .inl (cJ, 17, .inr (.inl (fun j => lN (e1 j))))), (t0, .inr (1, [.ref ta])), (ta, .inl (cJ, 17, .inr (.inl (fun j => lN (e2 j))))), (h0, .inr (2, [.ref ea, .ref pa, .int (nI (hv_s s)), .int (nI (hv_o s o)), .int (nI (hv_D (upd e (hv_slot s o) x) (va_up b (hv_slot s o) q) (hv_s s) (hv_s s))), .int (nI (hv_N (upd e (hv_slot s o) x) (va_up b (hv_slot s o) q) (hv_s s) (hv_s s))), .int (nI (hv_X (upd e (hv_slot s o) x) (va_up b (hv_slot s o) q) (hv_s s) (hv_s s))), .int (zI (tk_m mk (hv_N (upd e (hv_slot s o) x) (va_up b (hv_slot s o) q) (hv_s s) (hv_s s)) (hv_X (upd e (hv_slot s o) x) (va_up b (hv_slot s o) q) (hv_s s) (hv_s s)) lv mr cr)), .int (nI (tk_t mk tm (hv_N (upd e (hv_slot s o) x) (va_up b (hv_slot s o) q) (hv_s s) (hv_s s)) (hv_X (upd e (hv_slot s o) x) (va_up b (hv_slot s o) q) (hv_s s) (hv_s s)) lv mr)), .int je, .int (nI jf)])), (ea, .inl (cI, 48, .inl ((upd e (hv_slot s o) x)))), (pa, .inl (cZ, 48, .inl (fun j => zI ((va_up b (hv_slot s o) q) j))))]) hP hD [0, 2, 3, 4, 5, 6, 7, 8, 9] [1] rfl rfl (by decide) (by decide) hk1 hFc hP1 hD1
  generalize H1 = H at hP hS ⊢
  have hP : va_P (dC, dI) vwCl [(hs, .inl (cH, 12, .inr (.inr (.inr (.inr (hf)))))), (f0, .inr (3, [.ref hs, .ref c0, .int (nI n), .int (nI lv), .int (nI mr), .int (nI cr)])), (c0, .inr (0, [.ref s0, .ref t0])), (s0, .inr (1, [.ref sa])), (sa, .inl (cJ, 17, .inr (.inl (fun j => lN (e1 j))))), (t0, .inr (1, [.ref ta])), (ta, .inl (cJ, 17, .inr (.inl (fun j => lN (e2 j))))), (h0, .inr (2, [.ref ea, .ref pa, .int (nI (hv_s s)), .int (nI (hv_o s o)), .int (nI (hv_D (upd e (hv_slot s o) x) (va_up b (hv_slot s o) q) (hv_s s) (hv_s s))), .int (nI (hv_N (upd e (hv_slot s o) x) (va_up b (hv_slot s o) q) (hv_s s) (hv_s s))), .int (nI (hv_X (upd e (hv_slot s o) x) (va_up b (hv_slot s o) q) (hv_s s) (hv_s s))), .int (zI (tk_m mk (hv_N (upd e (hv_slot s o) x) (va_up b (hv_slot s o) q) (hv_s s) (hv_s s)) (hv_X (upd e (hv_slot s o) x) (va_up b (hv_slot s o) q) (hv_s s) (hv_s s)) lv mr cr)), .int (nI (tk_t mk tm (hv_N (upd e (hv_slot s o) x) (va_up b (hv_slot s o) q) (hv_s s) (hv_s s)) (hv_X (upd e (hv_slot s o) x) (va_up b (hv_slot s o) q) (hv_s s) (hv_s s)) lv mr)), .int je, .int (nI jf)])), (ea, .inl (cI, 48, .inl ((upd e (hv_slot s o) x)))), (pa, .inl (cZ, 48, .inl (fun j => zI ((va_up b (hv_slot s o) q) j))))] H := hP
  have hD : va_D A [(hs, .inl (cH, 12, .inr (.inr (.inr (.inr (hf)))))), (f0, .inr (3, [.ref hs, .ref c0, .int (nI n), .int (nI lv), .int (nI mr), .int (nI cr)])), (c0, .inr (0, [.ref s0, .ref t0])), (s0, .inr (1, [.ref sa])), (sa, .inl (cJ, 17, .inr (.inl (fun j => lN (e1 j))))), (t0, .inr (1, [.ref ta])), (ta, .inl (cJ, 17, .inr (.inl (fun j => lN (e2 j))))), (h0, .inr (2, [.ref ea, .ref pa, .int (nI (hv_s s)), .int (nI (hv_o s o)), .int (nI (hv_D (upd e (hv_slot s o) x) (va_up b (hv_slot s o) q) (hv_s s) (hv_s s))), .int (nI (hv_N (upd e (hv_slot s o) x) (va_up b (hv_slot s o) q) (hv_s s) (hv_s s))), .int (nI (hv_X (upd e (hv_slot s o) x) (va_up b (hv_slot s o) q) (hv_s s) (hv_s s))), .int (zI (tk_m mk (hv_N (upd e (hv_slot s o) x) (va_up b (hv_slot s o) q) (hv_s s) (hv_s s)) (hv_X (upd e (hv_slot s o) x) (va_up b (hv_slot s o) q) (hv_s s) (hv_s s)) lv mr cr)), .int (nI (tk_t mk tm (hv_N (upd e (hv_slot s o) x) (va_up b (hv_slot s o) q) (hv_s s) (hv_s s)) (hv_X (upd e (hv_slot s o) x) (va_up b (hv_slot s o) q) (hv_s s) (hv_s s)) lv mr)), .int je, .int (nI jf)])), (ea, .inl (cI, 48, .inl ((upd e (hv_slot s o) x)))), (pa, .inl (cZ, 48, .inl (fun j => zI ((va_up b (hv_slot s o) q) j))))] := hD
  refine lv_iconst (v := 1) hx hb dX3_run_29 (by decide) ?_
  have hP9 := hP.sub (ws' := [(f0, .inr (3, [.ref hs, .ref c0, .int (nI n), .int (nI lv), .int (nI mr), .int (nI cr)])), (hs, .inl (cH, 12, .inr (.inr (.inr (.inr (hf)))))), (c0, .inr (0, [.ref s0, .ref t0])), (s0, .inr (1, [.ref sa])), (sa, .inl (cJ, 17, .inr (.inl (fun j => lN (e1 j))))), (t0, .inr (1, [.ref ta])), (ta, .inl (cJ, 17, .inr (.inl (fun j => lN (e2 j))))), (h0, .inr (2, [.ref ea, .ref pa, .int (nI (hv_s s)), .int (nI (hv_o s o)), .int (nI (hv_D (upd e (hv_slot s o) x) (va_up b (hv_slot s o) q) (hv_s s) (hv_s s))), .int (nI (hv_N (upd e (hv_slot s o) x) (va_up b (hv_slot s o) q) (hv_s s) (hv_s s))), .int (nI (hv_X (upd e (hv_slot s o) x) (va_up b (hv_slot s o) q) (hv_s s) (hv_s s))), .int (zI (tk_m mk (hv_N (upd e (hv_slot s o) x) (va_up b (hv_slot s o) q) (hv_s s) (hv_s s)) (hv_X (upd e (hv_slot s o) x) (va_up b (hv_slot s o) q) (hv_s s) (hv_s s)) lv mr cr)), .int (nI (tk_t mk tm (hv_N (upd e (hv_slot s o) x) (va_up b (hv_slot s o) q) (hv_s s) (hv_s s)) (hv_X (upd e (hv_slot s o) x) (va_up b (hv_slot s o) q) (hv_s s) (hv_s s)) lv mr)), .int je, .int (nI jf)])), (ea, .inl (cI, 48, .inl ((upd e (hv_slot s o) x)))), (pa, .inl (cZ, 48, .inl (fun j => zI ((va_up b (hv_slot s o) q) j))))]) [1, 0, 2, 3, 4, 5, 6, 7, 8, 9] rfl
  have hD9 := hD.sub (ws' := [(f0, .inr (3, [.ref hs, .ref c0, .int (nI n), .int (nI lv), .int (nI mr), .int (nI cr)])), (hs, .inl (cH, 12, .inr (.inr (.inr (.inr (hf)))))), (c0, .inr (0, [.ref s0, .ref t0])), (s0, .inr (1, [.ref sa])), (sa, .inl (cJ, 17, .inr (.inl (fun j => lN (e1 j))))), (t0, .inr (1, [.ref ta])), (ta, .inl (cJ, 17, .inr (.inl (fun j => lN (e2 j))))), (h0, .inr (2, [.ref ea, .ref pa, .int (nI (hv_s s)), .int (nI (hv_o s o)), .int (nI (hv_D (upd e (hv_slot s o) x) (va_up b (hv_slot s o) q) (hv_s s) (hv_s s))), .int (nI (hv_N (upd e (hv_slot s o) x) (va_up b (hv_slot s o) q) (hv_s s) (hv_s s))), .int (nI (hv_X (upd e (hv_slot s o) x) (va_up b (hv_slot s o) q) (hv_s s) (hv_s s))), .int (zI (tk_m mk (hv_N (upd e (hv_slot s o) x) (va_up b (hv_slot s o) q) (hv_s s) (hv_s s)) (hv_X (upd e (hv_slot s o) x) (va_up b (hv_slot s o) q) (hv_s s) (hv_s s)) lv mr cr)), .int (nI (tk_t mk tm (hv_N (upd e (hv_slot s o) x) (va_up b (hv_slot s o) q) (hv_s s) (hv_s s)) (hv_X (upd e (hv_slot s o) x) (va_up b (hv_slot s o) q) (hv_s s) (hv_s s)) lv mr)), .int je, .int (nI jf)])), (ea, .inl (cI, 48, .inl ((upd e (hv_slot s o) x)))), (pa, .inl (cZ, 48, .inl (fun j => zI ((va_up b (hv_slot s o) q) j))))]) [1, 0, 2, 3, 4, 5, 6, 7, 8, 9] (by decide) rfl
  have hK9 := hK.sub (tys' := [(cH, .object RX2), (cJ, .long), (cI, .int), (cZ, .boolean)]) [0, 1, 2, 3] rfl
  exact W.zret (v := 1) (ty := .boolean) hx hb hr rfl (fun zt zht hW => ⟨⟨1, (e1, e2), rfl, rfl, by rw [zht]; exact hP9, va_K.moved hW.alike hK9, hD9⟩, hS.F zht⟩) hS.2.2 dX3_run_30 hlocks
set_option maxHeartbeats 4000000 in
set_option maxRecDepth 100000 in
theorem c_fla_judge (l : Launch) (dC : Nat → ClassId) (dI : Nat → Nat → Nat) (f0 hs c0 s0 sa t0 ta h0 ea pa : Nat) (cH cJ cI cZ : ClassId) (lv mr cr : Nat) (ds dt : Nat → Nat) (n i : Nat) (hf : Nat → Option Nat) (s o : Nat) (x4 x5 x6 : Int32) (mk : Bool) (tm : Nat) (je : Int32) (jf : Nat) (e : Nat → Int32) (b : Nat → Bool) (x : Int32) (q : Bool) (sz : Nat) (hn12 : n ≤ 12) (hin_ : i < n) (hfi : hf i = some h0) (hlv : lv ≤ 999) (hmr : mr ≤ 1000) (hcr : cr ≤ 1000) (hs48 : s ≤ 48) (ho : o < 48) (hjf : jf ≤ 2) (hed : fv_ed x = true) : Met l yX3_judge wsX3_judge ({ frames := 4, cells := 0, slots := 0, locals := 97 } : Room) (va_Pc [.ref f0, .int (nI i), .int x, .int (zI q)] (fw_pW (dC, dI) vwCl [(cH, .object RX2), (cJ, .long), (cI, .int), (cZ, .boolean)] [(f0, .inr (3, [.ref hs, .ref c0, .int (nI n), .int (nI lv), .int (nI mr), .int (nI cr)])), (hs, .inl (cH, 12, .inr (.inr (.inr (.inr (hf)))))), (c0, .inr (0, [.ref s0, .ref t0])), (s0, .inr (1, [.ref sa])), (sa, .inl (cJ, 17, .inr (.inl (fun j => lN (ds j))))), (t0, .inr (1, [.ref ta])), (ta, .inl (cJ, 17, .inr (.inl (fun j => lN (dt j))))), (h0, .inr (2, [.ref ea, .ref pa, .int (nI s), .int (nI o), .int x4, .int x5, .int x6, .int (zI mk), .int (nI tm), .int je, .int (nI jf)])), (ea, .inl (cI, 48, .inl (e))), (pa, .inl (cZ, 48, .inl (fun j => zI (b j))))] sz)) (va_Qi (S := (Nat → Nat) × (Nat → Nat)) (fun r _ => r = jv_V mk q (jv_f je x jf)) (fun u t => fw_q (dC, dI) vwCl [(cH, .object RX2), (cJ, .long), (cI, .int), (cZ, .boolean)] (va_A [(f0, .inr (3, [.ref hs, .ref c0, .int (nI n), .int (nI lv), .int (nI mr), .int (nI cr)])), (hs, .inl (cH, 12, .inr (.inr (.inr (.inr (hf)))))), (c0, .inr (0, [.ref s0, .ref t0])), (s0, .inr (1, [.ref sa])), (sa, .inl (cJ, 17, .inr (.inl (fun j => lN (ds j))))), (t0, .inr (1, [.ref ta])), (ta, .inl (cJ, 17, .inr (.inl (fun j => lN (dt j))))), (h0, .inr (2, [.ref ea, .ref pa, .int (nI s), .int (nI o), .int x4, .int x5, .int x6, .int (zI mk), .int (nI tm), .int je, .int (nI jf)])), (ea, .inl (cI, 48, .inl (e))), (pa, .inl (cZ, 48, .inl (fun j => zI (b j))))] sz) [(f0, .inr (3, [.ref hs, .ref c0, .int (nI n), .int (nI lv), .int (nI mr), .int (nI cr)])), (hs, .inl (cH, 12, .inr (.inr (.inr (.inr (hf)))))), (c0, .inr (0, [.ref s0, .ref t0])), (s0, .inr (1, [.ref sa])), (sa, .inl (cJ, 17, .inr (.inl (fun j => lN (u.1 j))))), (t0, .inr (1, [.ref ta])), (ta, .inl (cJ, 17, .inr (.inl (fun j => lN (u.2 j))))), (h0, .inr (2, [.ref ea, .ref pa, .int (nI (hv_s s)), .int (nI (hv_o s o)), .int (nI (hv_D (upd e (hv_slot s o) x) (va_up b (hv_slot s o) q) (hv_s s) (hv_s s))), .int (nI (hv_N (upd e (hv_slot s o) x) (va_up b (hv_slot s o) q) (hv_s s) (hv_s s))), .int (nI (hv_X (upd e (hv_slot s o) x) (va_up b (hv_slot s o) q) (hv_s s) (hv_s s))), .int (zI (tk_m mk (hv_N (upd e (hv_slot s o) x) (va_up b (hv_slot s o) q) (hv_s s) (hv_s s)) (hv_X (upd e (hv_slot s o) x) (va_up b (hv_slot s o) q) (hv_s s) (hv_s s)) lv mr cr)), .int (nI (tk_t mk tm (hv_N (upd e (hv_slot s o) x) (va_up b (hv_slot s o) q) (hv_s s) (hv_s s)) (hv_X (upd e (hv_slot s o) x) (va_up b (hv_slot s o) q) (hv_s s) (hv_s s)) lv mr)), .int x, .int (nI (jv_n mk q (jv_f je x jf)))])), (ea, .inl (cI, 48, .inl ((upd e (hv_slot s o) x)))), (pa, .inl (cZ, 48, .inl (fun j => zI ((va_up b (hv_slot s o) q) j))))] t) (va_A [(f0, .inr (3, [.ref hs, .ref c0, .int (nI n), .int (nI lv), .int (nI mr), .int (nI cr)])), (hs, .inl (cH, 12, .inr (.inr (.inr (.inr (hf)))))), (c0, .inr (0, [.ref s0, .ref t0])), (s0, .inr (1, [.ref sa])), (sa, .inl (cJ, 17, .inr (.inl (fun j => lN (ds j))))), (t0, .inr (1, [.ref ta])), (ta, .inl (cJ, 17, .inr (.inl (fun j => lN (dt j))))), (h0, .inr (2, [.ref ea, .ref pa, .int (nI s), .int (nI o), .int x4, .int x5, .int x6, .int (zI mk), .int (nI tm), .int je, .int (nI jf)])), (ea, .inl (cI, 48, .inl (e))), (pa, .inl (cZ, 48, .inl (fun j => zI (b j))))] sz)) 0 0 (va_A [(f0, .inr (3, [.ref hs, .ref c0, .int (nI n), .int (nI lv), .int (nI mr), .int (nI cr)])), (hs, .inl (cH, 12, .inr (.inr (.inr (.inr (hf)))))), (c0, .inr (0, [.ref s0, .ref t0])), (s0, .inr (1, [.ref sa])), (sa, .inl (cJ, 17, .inr (.inl (fun j => lN (ds j))))), (t0, .inr (1, [.ref ta])), (ta, .inl (cJ, 17, .inr (.inl (fun j => lN (dt j))))), (h0, .inr (2, [.ref ea, .ref pa, .int (nI s), .int (nI o), .int x4, .int x5, .int x6, .int (zI mk), .int (nI tm), .int je, .int (nI jf)])), (ea, .inl (cI, 48, .inl (e))), (pa, .inl (cZ, 48, .inl (fun j => zI (b j))))] sz) := by
  refine fw_metW (cc := cX3_judge) (maxL := 6) (ret := (some .int)) (by decide) rfl (Nat.le_of_ble_eq_true rfl) ?_
  intro zp ze zs zm zbelow zmeth zc ls hx hb hr hts hown hlocks hml hin hN hsz hP hK hD hA hS hl
  generalize hAe : (va_A [(f0, .inr (3, [.ref hs, .ref c0, .int (nI n), .int (nI lv), .int (nI mr), .int (nI cr)])), (hs, .inl (cH, 12, .inr (.inr (.inr (.inr (hf)))))), (c0, .inr (0, [.ref s0, .ref t0])), (s0, .inr (1, [.ref sa])), (sa, .inl (cJ, 17, .inr (.inl (fun j => lN (ds j))))), (t0, .inr (1, [.ref ta])), (ta, .inl (cJ, 17, .inr (.inl (fun j => lN (dt j))))), (h0, .inr (2, [.ref ea, .ref pa, .int (nI s), .int (nI o), .int x4, .int x5, .int x6, .int (zI mk), .int (nI tm), .int je, .int (nI jf)])), (ea, .inl (cI, 48, .inl (e))), (pa, .inl (cZ, 48, .inl (fun j => zI (b j))))] sz) = A at hD hA hS ⊢
  have hown : zs.vm.findClass RX3 = some zm.cls := hown
  have hl : lv_has ls 6 [(0, .ref f0), (1, .int (nI i)), (2, .int x), (3, .int (zI q))] := hl
  refine lv_aload_n hx hb dX3_judge_0 rfl (lv_at hl 0 rfl) ?_
  refine lv_iload_n hx hb dX3_judge_1 rfl (lv_at hl 1 rfl) ?_
  have hPc := hP.sub (ws' := [(f0, .inr (3, [.ref hs, .ref c0, .int (nI n), .int (nI lv), .int (nI mr), .int (nI cr)])), (hs, .inl (cH, 12, .inr (.inr (.inr (.inr (hf))))))]) [0, 1] rfl
  have hKc := hK.sub (tys' := [(cH, .object RX2)]) [0] rfl
  refine va_csq (va_runV (As := [.int (nI i)]) (rest := []) ⟨hx, hb, hml, hown, hts⟩ (c_fla_find l dC dI f0 hs cH (.ref c0) (.int (nI lv)) (.int (nI mr)) (.int (nI cr)) n hf i h0 hn12 hin_ hfi) (cwV 1 hts gX3_judge_X3_find rfl rfl rfl (by decide +kernel) ⟨Nat.le_of_ble_eq_true rfl, Nat.le_of_ble_eq_true rfl⟩) (fw_preVR hN hKc hPc (ci := 3) (q0 := 0) rfl rfl) rfl rfl hl.1 rfl (lv_room (Nat.le_of_ble_eq_true rfl)) dX3_judge_2 ⟨Nat.le_of_ble_eq_true rfl, Nat.le_of_ble_eq_true rfl⟩).run (fun r_2 hr_2 => ?_)
  obtain rfl : r_2 = some h0 := hr_2
  refine W.eq (g2 := F0 zm 5 ls [.ref h0]) rfl ?_
  refine lv_astore (lv' := [(4, .ref h0), (0, .ref f0), (1, .int (nI i)), (2, .int x), (3, .int (zI q))]) hx hb dX3_judge_5 hl (by decide) rfl (fun ls hl => ?_)
  refine lv_aload hx hb dX3_judge_7 (lv_at hl 0 rfl) ?_
  refine lv_ifnull hx hb dX3_judge_9 ?_
  refine lv_iload_n hx hb dX3_judge_12 rfl (lv_at hl 3 rfl) ?_
  have hPc := hP.sub (ws' := []) [] rfl
  have hKc := hK.sub (tys' := []) [] rfl
  refine vp_callSi (va_runS (As := [.int x]) (rest := []) ⟨hx, hb, hml, hown, hts⟩ (c_fla_isEdition l dC dI x) (va_cwS 1 hts gX3_judge_X3_isEdition rfl rfl rfl (by decide +kernel) ⟨Nat.le_of_ble_eq_true rfl, Nat.le_of_ble_eq_true rfl⟩) (fw_preSR hN hKc hPc) rfl rfl hl.1 rfl (lv_room (Nat.le_of_ble_eq_true rfl)) dX3_judge_13 ⟨Nat.le_of_ble_eq_true rfl, Nat.le_of_ble_eq_true rfl⟩).run (fun r_13 hr_13 => ?_)
  obtain rfl : r_13 = zI (fv_ed x) := hr_13
  refine lv_if_ne (tgt := 21) hx hb dX3_judge_16 (by decide) (fun _ => ?_) (fun c_16 => absurd c_16 (by rw [hed]; decide))
  refine lv_aload hx hb dX3_judge_21 (lv_at hl 0 rfl) ?_
  refine lv_iload_n hx hb dX3_judge_23 rfl (lv_at hl 3 rfl) ?_
  refine lv_iload_n hx hb dX3_judge_24 rfl (lv_at hl 4 rfl) ?_
  have hPc := hP.sub (ws' := [(h0, .inr (2, [.ref ea, .ref pa, .int (nI s), .int (nI o), .int x4, .int x5, .int x6, .int (zI mk), .int (nI tm), .int je, .int (nI jf)]))]) [7] rfl
  have hKc := hK.sub (tys' := []) [] rfl
  have hDc := hD.sub (ws' := [(h0, .inr (2, [.ref ea, .ref pa, .int (nI s), .int (nI o), .int x4, .int x5, .int x6, .int (zI mk), .int (nI tm), .int je, .int (nI jf)]))]) [7] (by decide) rfl
  have hFc := va_free (wc := [(h0, .inr (2, [.ref ea, .ref pa, .int (nI s), .int (nI o), .int x4, .int x5, .int x6, .int (zI mk), .int (nI tm), .int je, .int (nI jf)]))]) hD hS hA [7] rfl
  refine va_calli (va_runV (As := [.int x, .int (zI q)]) (rest := []) ⟨hx, hb, hml, hown, hts⟩ (c_his_next l dC dI h0 (.ref ea) (.ref pa) (.int (nI s)) (.int (nI o)) (.int x4) (.int x5) (.int x6) (.int (nI tm)) mk je jf x q zs.heap.size hjf) (cwV 2 hts gX3_judge_X2_nextVerdict rfl rfl rfl (by decide +kernel) ⟨Nat.le_of_ble_eq_true rfl, Nat.le_of_ble_eq_true rfl⟩) (fw_preVW hN hKc hPc hDc (ci := 2) (q0 := 0) rfl rfl) rfl rfl hl.1 rfl (lv_room (Nat.le_of_ble_eq_true rfl)) dX3_judge_25 ⟨Nat.le_of_ble_eq_true rfl, Nat.le_of_ble_eq_true rfl⟩) hS (fun q _ h => hFc q h) hFc (fun r_25 u zt H1 locs zht hvm hw hB hz1 hk1 hS => ?_)
  obtain ⟨⟩ := u
  obtain ⟨hP1, hK1, hD1⟩ := hB
  rw [zht] at hP1
  obtain ⟨hP, hD⟩ := va_join (wr := [(f0, .inr (3, [.ref hs, .ref c0, .int (nI n), .int (nI lv), .int (nI mr), .int (nI cr)])), (hs, .inl (cH, 12, .inr (.inr (.inr (.inr (hf)))))), (c0, .inr (0, [.ref s0, .ref t0])), (s0, .inr (1, [.ref sa])), (sa, .inl (cJ, 17, .inr (.inl (fun j => lN (ds j))))), (t0, .inr (1, [.ref ta])), (ta, .inl (cJ, 17, .inr (.inl (fun j => lN (dt j))))), (ea, .inl (cI, 48, .inl (e))), (pa, .inl (cZ, 48, .inl (fun j => zI (b j))))]) (w1 := [(h0, .inr (2, [.ref ea, .ref pa, .int (nI s), .int (nI o), .int x4, .int x5, .int x6, .int (zI mk), .int (nI tm), .int x, .int (nI (jv_n mk q (jv_f je x jf)))]))]) hP hD [7] [0, 1, 2, 3, 4, 5, 6, 8, 9] rfl rfl (by decide) (by decide) hk1 hFc hP1 hD1
  generalize H1 = H at hP hS ⊢
  have hP : va_P (dC, dI) vwCl [(f0, .inr (3, [.ref hs, .ref c0, .int (nI n), .int (nI lv), .int (nI mr), .int (nI cr)])), (hs, .inl (cH, 12, .inr (.inr (.inr (.inr (hf)))))), (c0, .inr (0, [.ref s0, .ref t0])), (s0, .inr (1, [.ref sa])), (sa, .inl (cJ, 17, .inr (.inl (fun j => lN (ds j))))), (t0, .inr (1, [.ref ta])), (ta, .inl (cJ, 17, .inr (.inl (fun j => lN (dt j))))), (ea, .inl (cI, 48, .inl (e))), (pa, .inl (cZ, 48, .inl (fun j => zI (b j)))), (h0, .inr (2, [.ref ea, .ref pa, .int (nI s), .int (nI o), .int x4, .int x5, .int x6, .int (zI mk), .int (nI tm), .int x, .int (nI (jv_n mk q (jv_f je x jf)))]))] H := hP
  have hD : va_D A [(f0, .inr (3, [.ref hs, .ref c0, .int (nI n), .int (nI lv), .int (nI mr), .int (nI cr)])), (hs, .inl (cH, 12, .inr (.inr (.inr (.inr (hf)))))), (c0, .inr (0, [.ref s0, .ref t0])), (s0, .inr (1, [.ref sa])), (sa, .inl (cJ, 17, .inr (.inl (fun j => lN (ds j))))), (t0, .inr (1, [.ref ta])), (ta, .inl (cJ, 17, .inr (.inl (fun j => lN (dt j))))), (ea, .inl (cI, 48, .inl (e))), (pa, .inl (cZ, 48, .inl (fun j => zI (b j)))), (h0, .inr (2, [.ref ea, .ref pa, .int (nI s), .int (nI o), .int x4, .int x5, .int x6, .int (zI mk), .int (nI tm), .int x, .int (nI (jv_n mk q (jv_f je x jf)))]))] := hD
  obtain rfl : r_25 = jv_V mk q (jv_f je x jf) := hw
  refine lv_istore (lv' := [(5, .int (jv_V mk q (jv_f je x jf))), (4, .ref h0), (0, .ref f0), (1, .int (nI i)), (2, .int x), (3, .int (zI q))]) hx hb dX3_judge_28 hl (by decide) rfl (fun ls hl => ?_)
  refine lv_aload_n hx hb dX3_judge_30 rfl (lv_at hl 2 rfl) ?_
  refine lv_aload hx hb dX3_judge_31 (lv_at hl 1 rfl) ?_
  refine lv_iload_n hx hb dX3_judge_33 rfl (lv_at hl 4 rfl) ?_
  refine lv_iload_n hx hb dX3_judge_34 rfl (lv_at hl 5 rfl) ?_
  have hPc := hP.sub (ws' := [(f0, .inr (3, [.ref hs, .ref c0, .int (nI n), .int (nI lv), .int (nI mr), .int (nI cr)])), (c0, .inr (0, [.ref s0, .ref t0])), (s0, .inr (1, [.ref sa])), (sa, .inl (cJ, 17, .inr (.inl (fun j => lN (ds j))))), (t0, .inr (1, [.ref ta])), (ta, .inl (cJ, 17, .inr (.inl (fun j => lN (dt j))))), (h0, .inr (2, [.ref ea, .ref pa, .int (nI s), .int (nI o), .int x4, .int x5, .int x6, .int (zI mk), .int (nI tm), .int x, .int (nI (jv_n mk q (jv_f je x jf)))])), (ea, .inl (cI, 48, .inl (e))), (pa, .inl (cZ, 48, .inl (fun j => zI (b j))))]) [0, 2, 3, 4, 5, 6, 9, 7, 8] rfl
  have hKc := hK.sub (tys' := [(cJ, .long), (cI, .int), (cZ, .boolean)]) [1, 2, 3] rfl
  have hDc := hD.sub (ws' := [(f0, .inr (3, [.ref hs, .ref c0, .int (nI n), .int (nI lv), .int (nI mr), .int (nI cr)])), (c0, .inr (0, [.ref s0, .ref t0])), (s0, .inr (1, [.ref sa])), (sa, .inl (cJ, 17, .inr (.inl (fun j => lN (ds j))))), (t0, .inr (1, [.ref ta])), (ta, .inl (cJ, 17, .inr (.inl (fun j => lN (dt j))))), (h0, .inr (2, [.ref ea, .ref pa, .int (nI s), .int (nI o), .int x4, .int x5, .int x6, .int (zI mk), .int (nI tm), .int x, .int (nI (jv_n mk q (jv_f je x jf)))])), (ea, .inl (cI, 48, .inl (e))), (pa, .inl (cZ, 48, .inl (fun j => zI (b j))))]) [0, 2, 3, 4, 5, 6, 9, 7, 8] (by decide) rfl
  have hFc := va_free (wc := [(f0, .inr (3, [.ref hs, .ref c0, .int (nI n), .int (nI lv), .int (nI mr), .int (nI cr)])), (c0, .inr (0, [.ref s0, .ref t0])), (s0, .inr (1, [.ref sa])), (sa, .inl (cJ, 17, .inr (.inl (fun j => lN (ds j))))), (t0, .inr (1, [.ref ta])), (ta, .inl (cJ, 17, .inr (.inl (fun j => lN (dt j))))), (h0, .inr (2, [.ref ea, .ref pa, .int (nI s), .int (nI o), .int x4, .int x5, .int x6, .int (zI mk), .int (nI tm), .int x, .int (nI (jv_n mk q (jv_f je x jf)))])), (ea, .inl (cI, 48, .inl (e))), (pa, .inl (cZ, 48, .inl (fun j => zI (b j))))]) hD hS hA [0, 2, 3, 4, 5, 6, 9, 7, 8] rfl
  refine va_callv (va_runV (As := [.ref h0, .int x, .int (zI q)]) (rest := []) ⟨hx, hb, hml, hown, hts⟩ (c_fla_take l dC dI f0 c0 s0 sa t0 ta h0 ea pa cJ cI cZ (.ref hs) (.int (nI n)) lv mr cr ds dt s o x4 x5 x6 mk tm (.int x) (.int (nI (jv_n mk q (jv_f je x jf)))) e b x q H.size hlv hmr hcr hs48 ho) (cwV 3 hts gX3_judge_X3_take rfl rfl rfl (by decide +kernel) ⟨Nat.le_of_ble_eq_true rfl, Nat.le_of_ble_eq_true rfl⟩) (fw_preVW hN hKc hPc hDc (ci := 3) (q0 := 0) rfl rfl) rfl rfl hl.1 rfl (lv_room (Nat.le_of_ble_eq_true rfl)) dX3_judge_35 ⟨Nat.le_of_ble_eq_true rfl, Nat.le_of_ble_eq_true rfl⟩) hS (fun q _ h => hFc q h) hFc (fun u zt H1 locs zht hvm hw hB hz1 hk1 hS => ?_)
  obtain ⟨e1, e2⟩ := u
  obtain ⟨hP1, hK1, hD1⟩ := hB
  rw [zht] at hP1
  obtain ⟨hP, hD⟩ := va_join (wr := [(hs, .inl (cH, 12, .inr (.inr (.inr (.inr (hf))))))]) (w1 := [(f0, .inr (3, [.ref hs, .ref c0, .int (nI n), .int (nI lv), .int (nI mr), .int (nI cr)])), (c0, .inr (0, [.ref s0, .ref t0])), (s0, .inr (1, [.ref sa])), (sa, .inl (cJ, 17, .inr (.inl (fun j => lN (e1 j))))), (t0, .inr (1, [.ref ta])), (ta, .inl (cJ, 17, .inr (.inl (fun j => lN (e2 j))))), (h0, .inr (2, [.ref ea, .ref pa, .int (nI (hv_s s)), .int (nI (hv_o s o)), .int (nI (hv_D (upd e (hv_slot s o) x) (va_up b (hv_slot s o) q) (hv_s s) (hv_s s))), .int (nI (hv_N (upd e (hv_slot s o) x) (va_up b (hv_slot s o) q) (hv_s s) (hv_s s))), .int (nI (hv_X (upd e (hv_slot s o) x) (va_up b (hv_slot s o) q) (hv_s s) (hv_s s))), .int (zI (tk_m mk (hv_N (upd e (hv_slot s o) x) (va_up b (hv_slot s o) q) (hv_s s) (hv_s s)) (hv_X (upd e (hv_slot s o) x) (va_up b (hv_slot s o) q) (hv_s s) (hv_s s)) lv mr cr)), .int (nI (tk_t mk tm (hv_N (upd e (hv_slot s o) x) (va_up b (hv_slot s o) q) (hv_s s) (hv_s s)) (hv_X (upd e (hv_slot s o) x) (va_up b (hv_slot s o) q) (hv_s s) (hv_s s)) lv mr)), .int x, .int (nI (jv_n mk q (jv_f je x jf)))])), (ea, .inl (cI, 48, .inl ((upd e (hv_slot s o) x)))), (pa, .inl (cZ, 48, .inl (fun j => zI ((va_up b (hv_slot s o) q) j))))]) hP hD [0, 2, 3, 4, 5, 6, 9, 7, 8] [1] rfl rfl (by decide) (by decide) hk1 hFc hP1 hD1
  generalize H1 = H at hP hS ⊢
  have hP : va_P (dC, dI) vwCl [(hs, .inl (cH, 12, .inr (.inr (.inr (.inr (hf)))))), (f0, .inr (3, [.ref hs, .ref c0, .int (nI n), .int (nI lv), .int (nI mr), .int (nI cr)])), (c0, .inr (0, [.ref s0, .ref t0])), (s0, .inr (1, [.ref sa])), (sa, .inl (cJ, 17, .inr (.inl (fun j => lN (e1 j))))), (t0, .inr (1, [.ref ta])), (ta, .inl (cJ, 17, .inr (.inl (fun j => lN (e2 j))))), (h0, .inr (2, [.ref ea, .ref pa, .int (nI (hv_s s)), .int (nI (hv_o s o)), .int (nI (hv_D (upd e (hv_slot s o) x) (va_up b (hv_slot s o) q) (hv_s s) (hv_s s))), .int (nI (hv_N (upd e (hv_slot s o) x) (va_up b (hv_slot s o) q) (hv_s s) (hv_s s))), .int (nI (hv_X (upd e (hv_slot s o) x) (va_up b (hv_slot s o) q) (hv_s s) (hv_s s))), .int (zI (tk_m mk (hv_N (upd e (hv_slot s o) x) (va_up b (hv_slot s o) q) (hv_s s) (hv_s s)) (hv_X (upd e (hv_slot s o) x) (va_up b (hv_slot s o) q) (hv_s s) (hv_s s)) lv mr cr)), .int (nI (tk_t mk tm (hv_N (upd e (hv_slot s o) x) (va_up b (hv_slot s o) q) (hv_s s) (hv_s s)) (hv_X (upd e (hv_slot s o) x) (va_up b (hv_slot s o) q) (hv_s s) (hv_s s)) lv mr)), .int x, .int (nI (jv_n mk q (jv_f je x jf)))])), (ea, .inl (cI, 48, .inl ((upd e (hv_slot s o) x)))), (pa, .inl (cZ, 48, .inl (fun j => zI ((va_up b (hv_slot s o) q) j))))] H := hP
  have hD : va_D A [(hs, .inl (cH, 12, .inr (.inr (.inr (.inr (hf)))))), (f0, .inr (3, [.ref hs, .ref c0, .int (nI n), .int (nI lv), .int (nI mr), .int (nI cr)])), (c0, .inr (0, [.ref s0, .ref t0])), (s0, .inr (1, [.ref sa])), (sa, .inl (cJ, 17, .inr (.inl (fun j => lN (e1 j))))), (t0, .inr (1, [.ref ta])), (ta, .inl (cJ, 17, .inr (.inl (fun j => lN (e2 j))))), (h0, .inr (2, [.ref ea, .ref pa, .int (nI (hv_s s)), .int (nI (hv_o s o)), .int (nI (hv_D (upd e (hv_slot s o) x) (va_up b (hv_slot s o) q) (hv_s s) (hv_s s))), .int (nI (hv_N (upd e (hv_slot s o) x) (va_up b (hv_slot s o) q) (hv_s s) (hv_s s))), .int (nI (hv_X (upd e (hv_slot s o) x) (va_up b (hv_slot s o) q) (hv_s s) (hv_s s))), .int (zI (tk_m mk (hv_N (upd e (hv_slot s o) x) (va_up b (hv_slot s o) q) (hv_s s) (hv_s s)) (hv_X (upd e (hv_slot s o) x) (va_up b (hv_slot s o) q) (hv_s s) (hv_s s)) lv mr cr)), .int (nI (tk_t mk tm (hv_N (upd e (hv_slot s o) x) (va_up b (hv_slot s o) q) (hv_s s) (hv_s s)) (hv_X (upd e (hv_slot s o) x) (va_up b (hv_slot s o) q) (hv_s s) (hv_s s)) lv mr)), .int x, .int (nI (jv_n mk q (jv_f je x jf)))])), (ea, .inl (cI, 48, .inl ((upd e (hv_slot s o) x)))), (pa, .inl (cZ, 48, .inl (fun j => zI ((va_up b (hv_slot s o) q) j))))] := hD
  refine lv_iload hx hb dX3_judge_38 (lv_at hl 0 rfl) ?_
  have hP9 := hP.sub (ws' := [(f0, .inr (3, [.ref hs, .ref c0, .int (nI n), .int (nI lv), .int (nI mr), .int (nI cr)])), (hs, .inl (cH, 12, .inr (.inr (.inr (.inr (hf)))))), (c0, .inr (0, [.ref s0, .ref t0])), (s0, .inr (1, [.ref sa])), (sa, .inl (cJ, 17, .inr (.inl (fun j => lN (e1 j))))), (t0, .inr (1, [.ref ta])), (ta, .inl (cJ, 17, .inr (.inl (fun j => lN (e2 j))))), (h0, .inr (2, [.ref ea, .ref pa, .int (nI (hv_s s)), .int (nI (hv_o s o)), .int (nI (hv_D (upd e (hv_slot s o) x) (va_up b (hv_slot s o) q) (hv_s s) (hv_s s))), .int (nI (hv_N (upd e (hv_slot s o) x) (va_up b (hv_slot s o) q) (hv_s s) (hv_s s))), .int (nI (hv_X (upd e (hv_slot s o) x) (va_up b (hv_slot s o) q) (hv_s s) (hv_s s))), .int (zI (tk_m mk (hv_N (upd e (hv_slot s o) x) (va_up b (hv_slot s o) q) (hv_s s) (hv_s s)) (hv_X (upd e (hv_slot s o) x) (va_up b (hv_slot s o) q) (hv_s s) (hv_s s)) lv mr cr)), .int (nI (tk_t mk tm (hv_N (upd e (hv_slot s o) x) (va_up b (hv_slot s o) q) (hv_s s) (hv_s s)) (hv_X (upd e (hv_slot s o) x) (va_up b (hv_slot s o) q) (hv_s s) (hv_s s)) lv mr)), .int x, .int (nI (jv_n mk q (jv_f je x jf)))])), (ea, .inl (cI, 48, .inl ((upd e (hv_slot s o) x)))), (pa, .inl (cZ, 48, .inl (fun j => zI ((va_up b (hv_slot s o) q) j))))]) [1, 0, 2, 3, 4, 5, 6, 7, 8, 9] rfl
  have hD9 := hD.sub (ws' := [(f0, .inr (3, [.ref hs, .ref c0, .int (nI n), .int (nI lv), .int (nI mr), .int (nI cr)])), (hs, .inl (cH, 12, .inr (.inr (.inr (.inr (hf)))))), (c0, .inr (0, [.ref s0, .ref t0])), (s0, .inr (1, [.ref sa])), (sa, .inl (cJ, 17, .inr (.inl (fun j => lN (e1 j))))), (t0, .inr (1, [.ref ta])), (ta, .inl (cJ, 17, .inr (.inl (fun j => lN (e2 j))))), (h0, .inr (2, [.ref ea, .ref pa, .int (nI (hv_s s)), .int (nI (hv_o s o)), .int (nI (hv_D (upd e (hv_slot s o) x) (va_up b (hv_slot s o) q) (hv_s s) (hv_s s))), .int (nI (hv_N (upd e (hv_slot s o) x) (va_up b (hv_slot s o) q) (hv_s s) (hv_s s))), .int (nI (hv_X (upd e (hv_slot s o) x) (va_up b (hv_slot s o) q) (hv_s s) (hv_s s))), .int (zI (tk_m mk (hv_N (upd e (hv_slot s o) x) (va_up b (hv_slot s o) q) (hv_s s) (hv_s s)) (hv_X (upd e (hv_slot s o) x) (va_up b (hv_slot s o) q) (hv_s s) (hv_s s)) lv mr cr)), .int (nI (tk_t mk tm (hv_N (upd e (hv_slot s o) x) (va_up b (hv_slot s o) q) (hv_s s) (hv_s s)) (hv_X (upd e (hv_slot s o) x) (va_up b (hv_slot s o) q) (hv_s s) (hv_s s)) lv mr)), .int x, .int (nI (jv_n mk q (jv_f je x jf)))])), (ea, .inl (cI, 48, .inl ((upd e (hv_slot s o) x)))), (pa, .inl (cZ, 48, .inl (fun j => zI ((va_up b (hv_slot s o) q) j))))]) [1, 0, 2, 3, 4, 5, 6, 7, 8, 9] (by decide) rfl
  have hK9 := hK.sub (tys' := [(cH, .object RX2), (cJ, .long), (cI, .int), (cZ, .boolean)]) [0, 1, 2, 3] rfl
  exact W.iret (v := (jv_V mk q (jv_f je x jf))) hx hb hr (fun zt zht hW => ⟨⟨(jv_V mk q (jv_f je x jf)), (e1, e2), rfl, rfl, by rw [zht]; exact hP9, va_K.moved hW.alike hK9, hD9⟩, hS.F zht⟩) hS.2.2 dX3_judge_40 hlocks
set_option maxHeartbeats 4000000 in
set_option maxRecDepth 100000 in
theorem c_fla_bound (l : Launch) (dC : Nat → ClassId) (dI : Nat → Nat → Nat) (f0 hs c0 s0 sa t0 ta h0 : Nat) (cH cJ : ClassId) (v3 v4 v5 w0 w1 w2 w3 w4 w7 w8 w9 w10 : Value) (ds dt : Nat → Nat) (n i : Nat) (hf : Nat → Option Nat) (N X : Nat) (lv : Nat) (up : Bool) (sz : Nat) (hn12 : n ≤ 12) (hin_ : i < n) (hfi : hf i = some h0) (hN48 : N ≤ 48) (hXN : X ≤ N) (hl1 : 1 ≤ lv) (hl9 : lv ≤ 999) : Met l yX3_bound wsX3_bound ({ frames := 3, cells := 0, slots := 0, locals := 76 } : Room) (va_Pc [.ref f0, .int (nI i), .int (nI lv), .int (zI up)] (fw_pW (dC, dI) vwCl [(cH, .object RX2), (cJ, .long)] [(f0, .inr (3, [.ref hs, .ref c0, .int (nI n), v3, v4, v5])), (hs, .inl (cH, 12, .inr (.inr (.inr (.inr (hf)))))), (c0, .inr (0, [.ref s0, .ref t0])), (s0, .inr (1, [.ref sa])), (sa, .inl (cJ, 17, .inr (.inl (fun j => lN (ds j))))), (t0, .inr (1, [.ref ta])), (ta, .inl (cJ, 17, .inr (.inl (fun j => lN (dt j))))), (h0, .inr (2, [w0, w1, w2, w3, w4, .int (nI N), .int (nI X), w7, w8, w9, w10]))] sz)) (va_Qi (S := (Nat → Nat) × (Nat → Nat)) (fun r _ => ∃ J : Nat, r = nI (if up = true then J else 1000 - J) ∧ gv_is N (if up = true then X else N - X) lv J) (fun u t => fw_q (dC, dI) vwCl [(cH, .object RX2), (cJ, .long)] (va_A [(f0, .inr (3, [.ref hs, .ref c0, .int (nI n), v3, v4, v5])), (hs, .inl (cH, 12, .inr (.inr (.inr (.inr (hf)))))), (c0, .inr (0, [.ref s0, .ref t0])), (s0, .inr (1, [.ref sa])), (sa, .inl (cJ, 17, .inr (.inl (fun j => lN (ds j))))), (t0, .inr (1, [.ref ta])), (ta, .inl (cJ, 17, .inr (.inl (fun j => lN (dt j))))), (h0, .inr (2, [w0, w1, w2, w3, w4, .int (nI N), .int (nI X), w7, w8, w9, w10]))] sz) [(f0, .inr (3, [.ref hs, .ref c0, .int (nI n), v3, v4, v5])), (hs, .inl (cH, 12, .inr (.inr (.inr (.inr (hf)))))), (c0, .inr (0, [.ref s0, .ref t0])), (s0, .inr (1, [.ref sa])), (sa, .inl (cJ, 17, .inr (.inl (fun j => lN (u.1 j))))), (t0, .inr (1, [.ref ta])), (ta, .inl (cJ, 17, .inr (.inl (fun j => lN (u.2 j))))), (h0, .inr (2, [w0, w1, w2, w3, w4, .int (nI N), .int (nI X), w7, w8, w9, w10]))] t) (va_A [(f0, .inr (3, [.ref hs, .ref c0, .int (nI n), v3, v4, v5])), (hs, .inl (cH, 12, .inr (.inr (.inr (.inr (hf)))))), (c0, .inr (0, [.ref s0, .ref t0])), (s0, .inr (1, [.ref sa])), (sa, .inl (cJ, 17, .inr (.inl (fun j => lN (ds j))))), (t0, .inr (1, [.ref ta])), (ta, .inl (cJ, 17, .inr (.inl (fun j => lN (dt j))))), (h0, .inr (2, [w0, w1, w2, w3, w4, .int (nI N), .int (nI X), w7, w8, w9, w10]))] sz)) 0 0 (va_A [(f0, .inr (3, [.ref hs, .ref c0, .int (nI n), v3, v4, v5])), (hs, .inl (cH, 12, .inr (.inr (.inr (.inr (hf)))))), (c0, .inr (0, [.ref s0, .ref t0])), (s0, .inr (1, [.ref sa])), (sa, .inl (cJ, 17, .inr (.inl (fun j => lN (ds j))))), (t0, .inr (1, [.ref ta])), (ta, .inl (cJ, 17, .inr (.inl (fun j => lN (dt j))))), (h0, .inr (2, [w0, w1, w2, w3, w4, .int (nI N), .int (nI X), w7, w8, w9, w10]))] sz) := by
  refine fw_metW (cc := cX3_bound) (maxL := 7) (ret := (some .int)) (by decide) rfl (Nat.le_of_ble_eq_true rfl) ?_
  intro zp ze zs zm zbelow zmeth zc ls hx hb hr hts hown hlocks hml hin hN hsz hP hK hD hA hS hl
  generalize hAe : (va_A [(f0, .inr (3, [.ref hs, .ref c0, .int (nI n), v3, v4, v5])), (hs, .inl (cH, 12, .inr (.inr (.inr (.inr (hf)))))), (c0, .inr (0, [.ref s0, .ref t0])), (s0, .inr (1, [.ref sa])), (sa, .inl (cJ, 17, .inr (.inl (fun j => lN (ds j))))), (t0, .inr (1, [.ref ta])), (ta, .inl (cJ, 17, .inr (.inl (fun j => lN (dt j))))), (h0, .inr (2, [w0, w1, w2, w3, w4, .int (nI N), .int (nI X), w7, w8, w9, w10]))] sz) = A at hD hA hS ⊢
  have hown : zs.vm.findClass RX3 = some zm.cls := hown
  have hl : lv_has ls 7 [(0, .ref f0), (1, .int (nI i)), (2, .int (nI lv)), (3, .int (zI up))] := hl
  refine lv_aload_n hx hb dX3_bound_0 rfl (lv_at hl 0 rfl) ?_
  refine lv_iload_n hx hb dX3_bound_1 rfl (lv_at hl 1 rfl) ?_
  have hPc := hP.sub (ws' := [(f0, .inr (3, [.ref hs, .ref c0, .int (nI n), v3, v4, v5])), (hs, .inl (cH, 12, .inr (.inr (.inr (.inr (hf))))))]) [0, 1] rfl
  have hKc := hK.sub (tys' := [(cH, .object RX2)]) [0] rfl
  refine va_csq (va_runV (As := [.int (nI i)]) (rest := []) ⟨hx, hb, hml, hown, hts⟩ (c_fla_find l dC dI f0 hs cH (.ref c0) v3 v4 v5 n hf i h0 hn12 hin_ hfi) (cwV 1 hts gX3_bound_X3_find rfl rfl rfl (by decide +kernel) ⟨Nat.le_of_ble_eq_true rfl, Nat.le_of_ble_eq_true rfl⟩) (fw_preVR hN hKc hPc (ci := 3) (q0 := 0) rfl rfl) rfl rfl hl.1 rfl (lv_room (Nat.le_of_ble_eq_true rfl)) dX3_bound_2 ⟨Nat.le_of_ble_eq_true rfl, Nat.le_of_ble_eq_true rfl⟩).run (fun r_2 hr_2 => ?_)
  obtain rfl : r_2 = some h0 := hr_2
  refine W.eq (g2 := F0 zm 5 ls [.ref h0]) rfl ?_
  refine lv_astore (lv' := [(4, .ref h0), (0, .ref f0), (1, .int (nI i)), (2, .int (nI lv)), (3, .int (zI up))]) hx hb dX3_bound_5 hl (by decide) rfl (fun ls hl => ?_)
  refine lv_aload hx hb dX3_bound_7 (lv_at hl 0 rfl) ?_
  refine lv_ifnull hx hb dX3_bound_9 ?_
  refine lv_iload_n hx hb dX3_bound_12 rfl (lv_at hl 3 rfl) ?_
  have hPc := hP.sub (ws' := []) [] rfl
  have hKc := hK.sub (tys' := []) [] rfl
  refine vp_callSi (va_runS (As := [.int (nI lv)]) (rest := []) ⟨hx, hb, hml, hown, hts⟩ (c_fla_isLevel l dC dI (nI lv)) (va_cwS 1 hts gX3_bound_X3_isLevel rfl rfl rfl (by decide +kernel) ⟨Nat.le_of_ble_eq_true rfl, Nat.le_of_ble_eq_true rfl⟩) (fw_preSR hN hKc hPc) rfl rfl hl.1 rfl (lv_room (Nat.le_of_ble_eq_true rfl)) dX3_bound_13 ⟨Nat.le_of_ble_eq_true rfl, Nat.le_of_ble_eq_true rfl⟩).run (fun r_13 hr_13 => ?_)
  obtain rfl : r_13 = zI (fv_lv (nI lv)) := hr_13
  refine lv_if_ne (tgt := 21) hx hb dX3_bound_16 (by decide) (fun _ => ?_) (fun c_16 => absurd c_16 (by rw [fv_lv_nI hl1 hl9]; decide))
  refine lv_aload hx hb dX3_bound_21 (lv_at hl 0 rfl) ?_
  refine va_getN (D := (dC, dI)) (ci := 2) (v := .int (nI N)) (C := RX2) (T := TX2) (N := 11) hx hb hts (by decide +kernel) hown hK hP 7 rfl rfl 5 (by decide) (va_Nw.use rfl (hN.2.2.2.1)) (fun _ h9 => h9) rfl dX3_bound_23 ?_
  refine lv_istore (lv' := [(5, .int (nI N)), (4, .ref h0), (0, .ref f0), (1, .int (nI i)), (2, .int (nI lv)), (3, .int (zI up))]) hx hb dX3_bound_26 hl (by decide) rfl (fun ls hl => ?_)
  refine lv_aload hx hb dX3_bound_28 (lv_at hl 1 rfl) ?_
  refine va_getN (D := (dC, dI)) (ci := 2) (v := .int (nI X)) (C := RX2) (T := TX2) (N := 11) hx hb hts (by decide +kernel) hown hK hP 7 rfl rfl 6 (by decide) (va_Nw.use rfl (hN.2.2.2.2.1)) (fun _ h9 => h9) rfl dX3_bound_30 ?_
  refine lv_istore (lv' := [(6, .int (nI X)), (5, .int (nI N)), (4, .ref h0), (0, .ref f0), (1, .int (nI i)), (2, .int (nI lv)), (3, .int (zI up))]) hx hb dX3_bound_33 hl (by decide) rfl (fun ls hl => ?_)
  cases up
  · -- f
    refine lv_iload_n hx hb dX3_bound_35 rfl (lv_at hl 6 rfl) ?_
    refine lv_if_eq (tgt := 49) hx hb dX3_bound_36 (by decide) (fun _ => ?_) (fun c_36 => absurd (rfl) c_36)
    refine lv_sipush (v := 1000) hx hb dX3_bound_49 (by decide) ?_
    refine lv_aload_n hx hb dX3_bound_52 rfl (lv_at hl 3 rfl) ?_
    refine lv_iload hx hb dX3_bound_53 (lv_at hl 1 rfl) ?_
    refine lv_iload hx hb dX3_bound_55 (lv_at hl 1 rfl) ?_
    refine lv_iload hx hb dX3_bound_57 (lv_at hl 0 rfl) ?_
    refine lv_isub hx hb dX3_bound_59 ?_
    refine fw_i (x' := nI (N - X)) (pk_sub hXN) ?_
    refine lv_iload_n hx hb dX3_bound_60 rfl (lv_at hl 5 rfl) ?_
    have hPc := hP.sub (ws' := [(f0, .inr (3, [.ref hs, .ref c0, .int (nI n), v3, v4, v5])), (c0, .inr (0, [.ref s0, .ref t0])), (s0, .inr (1, [.ref sa])), (sa, .inl (cJ, 17, .inr (.inl (fun j => lN (ds j))))), (t0, .inr (1, [.ref ta])), (ta, .inl (cJ, 17, .inr (.inl (fun j => lN (dt j)))))]) [0, 2, 3, 4, 5, 6] rfl
    have hKc := hK.sub (tys' := [(cJ, .long)]) [1] rfl
    have hDc := hD.sub (ws' := [(f0, .inr (3, [.ref hs, .ref c0, .int (nI n), v3, v4, v5])), (c0, .inr (0, [.ref s0, .ref t0])), (s0, .inr (1, [.ref sa])), (sa, .inl (cJ, 17, .inr (.inl (fun j => lN (ds j))))), (t0, .inr (1, [.ref ta])), (ta, .inl (cJ, 17, .inr (.inl (fun j => lN (dt j)))))]) [0, 2, 3, 4, 5, 6] (by decide) rfl
    have hFc := va_free (wc := [(f0, .inr (3, [.ref hs, .ref c0, .int (nI n), v3, v4, v5])), (c0, .inr (0, [.ref s0, .ref t0])), (s0, .inr (1, [.ref sa])), (sa, .inl (cJ, 17, .inr (.inl (fun j => lN (ds j))))), (t0, .inr (1, [.ref ta])), (ta, .inl (cJ, 17, .inr (.inl (fun j => lN (dt j)))))]) hD hS hA [0, 2, 3, 4, 5, 6] rfl
    refine va_calli (va_runV (As := [.int (nI N), .int (nI (N - X)), .int (nI lv)]) (rest := [.int 1000]) ⟨hx, hb, hml, hown, hts⟩ (c_fla_great l dC dI f0 c0 s0 sa t0 ta cJ (.ref hs) (.int (nI n)) v3 v4 v5 ds dt N (N - X) lv zs.heap.size hN48 (by omega) (by omega)) (cwV 3 hts gX3_bound_X3_greatestAbove rfl rfl rfl (by decide +kernel) ⟨Nat.le_of_ble_eq_true rfl, Nat.le_of_ble_eq_true rfl⟩) (fw_preVW hN hKc hPc hDc (ci := 3) (q0 := 0) rfl rfl) rfl rfl hl.1 rfl (lv_room (Nat.le_of_ble_eq_true rfl)) dX3_bound_61 ⟨Nat.le_of_ble_eq_true rfl, Nat.le_of_ble_eq_true rfl⟩) hS (fun q _ h => hFc q h) hFc (fun r_61 u zt H1 locs zht hvm hw hB hz1 hk1 hS => ?_)
    obtain ⟨e1, e2⟩ := u
    obtain ⟨J, hJ, hJis⟩ := hw
    obtain ⟨hP1, hK1, hD1⟩ := hB
    rw [zht] at hP1
    obtain ⟨hP, hD⟩ := va_join (wr := [(hs, .inl (cH, 12, .inr (.inr (.inr (.inr (hf)))))), (h0, .inr (2, [w0, w1, w2, w3, w4, .int (nI N), .int (nI X), w7, w8, w9, w10]))]) (w1 := [(f0, .inr (3, [.ref hs, .ref c0, .int (nI n), v3, v4, v5])), (c0, .inr (0, [.ref s0, .ref t0])), (s0, .inr (1, [.ref sa])), (sa, .inl (cJ, 17, .inr (.inl (fun j => lN (e1 j))))), (t0, .inr (1, [.ref ta])), (ta, .inl (cJ, 17, .inr (.inl (fun j => lN (e2 j)))))]) hP hD [0, 2, 3, 4, 5, 6] [1, 7] rfl rfl (by decide) (by decide) hk1 hFc hP1 hD1
    generalize H1 = H at hP hS ⊢
    have hP : va_P (dC, dI) vwCl [(hs, .inl (cH, 12, .inr (.inr (.inr (.inr (hf)))))), (h0, .inr (2, [w0, w1, w2, w3, w4, .int (nI N), .int (nI X), w7, w8, w9, w10])), (f0, .inr (3, [.ref hs, .ref c0, .int (nI n), v3, v4, v5])), (c0, .inr (0, [.ref s0, .ref t0])), (s0, .inr (1, [.ref sa])), (sa, .inl (cJ, 17, .inr (.inl (fun j => lN (e1 j))))), (t0, .inr (1, [.ref ta])), (ta, .inl (cJ, 17, .inr (.inl (fun j => lN (e2 j)))))] H := hP
    have hD : va_D A [(hs, .inl (cH, 12, .inr (.inr (.inr (.inr (hf)))))), (h0, .inr (2, [w0, w1, w2, w3, w4, .int (nI N), .int (nI X), w7, w8, w9, w10])), (f0, .inr (3, [.ref hs, .ref c0, .int (nI n), v3, v4, v5])), (c0, .inr (0, [.ref s0, .ref t0])), (s0, .inr (1, [.ref sa])), (sa, .inl (cJ, 17, .inr (.inl (fun j => lN (e1 j))))), (t0, .inr (1, [.ref ta])), (ta, .inl (cJ, 17, .inr (.inl (fun j => lN (e2 j)))))] := hD
    obtain rfl : r_61 = nI J := hJ
    refine lv_isub hx hb dX3_bound_64 ?_
    refine fw_i (x' := nI (1000 - J)) (pk_sub (a := 1000) hJis.1) ?_
    have hP9 := hP.sub (ws' := [(f0, .inr (3, [.ref hs, .ref c0, .int (nI n), v3, v4, v5])), (hs, .inl (cH, 12, .inr (.inr (.inr (.inr (hf)))))), (c0, .inr (0, [.ref s0, .ref t0])), (s0, .inr (1, [.ref sa])), (sa, .inl (cJ, 17, .inr (.inl (fun j => lN (e1 j))))), (t0, .inr (1, [.ref ta])), (ta, .inl (cJ, 17, .inr (.inl (fun j => lN (e2 j))))), (h0, .inr (2, [w0, w1, w2, w3, w4, .int (nI N), .int (nI X), w7, w8, w9, w10]))]) [2, 0, 3, 4, 5, 6, 7, 1] rfl
    have hD9 := hD.sub (ws' := [(f0, .inr (3, [.ref hs, .ref c0, .int (nI n), v3, v4, v5])), (hs, .inl (cH, 12, .inr (.inr (.inr (.inr (hf)))))), (c0, .inr (0, [.ref s0, .ref t0])), (s0, .inr (1, [.ref sa])), (sa, .inl (cJ, 17, .inr (.inl (fun j => lN (e1 j))))), (t0, .inr (1, [.ref ta])), (ta, .inl (cJ, 17, .inr (.inl (fun j => lN (e2 j))))), (h0, .inr (2, [w0, w1, w2, w3, w4, .int (nI N), .int (nI X), w7, w8, w9, w10]))]) [2, 0, 3, 4, 5, 6, 7, 1] (by decide) rfl
    have hK9 := hK.sub (tys' := [(cH, .object RX2), (cJ, .long)]) [0, 1] rfl
    exact W.iret (v := (nI (1000 - J))) hx hb hr (fun zt zht hW => ⟨⟨(nI (1000 - J)), (e1, e2), rfl, ⟨J, rfl, hJis⟩, by rw [zht]; exact hP9, va_K.moved hW.alike hK9, hD9⟩, hS.F zht⟩) hS.2.2 dX3_bound_65 hlocks
  · -- t
    refine lv_iload_n hx hb dX3_bound_35 rfl (lv_at hl 6 rfl) ?_
    refine lv_if_eq (tgt := 49) hx hb dX3_bound_36 (by decide) (fun c_36 => absurd c_36 (by decide)) (fun _ => ?_)
    refine lv_aload_n hx hb dX3_bound_39 rfl (lv_at hl 3 rfl) ?_
    refine lv_iload hx hb dX3_bound_40 (lv_at hl 1 rfl) ?_
    refine lv_iload hx hb dX3_bound_42 (lv_at hl 0 rfl) ?_
    refine lv_iload_n hx hb dX3_bound_44 rfl (lv_at hl 5 rfl) ?_
    have hPc := hP.sub (ws' := [(f0, .inr (3, [.ref hs, .ref c0, .int (nI n), v3, v4, v5])), (c0, .inr (0, [.ref s0, .ref t0])), (s0, .inr (1, [.ref sa])), (sa, .inl (cJ, 17, .inr (.inl (fun j => lN (ds j))))), (t0, .inr (1, [.ref ta])), (ta, .inl (cJ, 17, .inr (.inl (fun j => lN (dt j)))))]) [0, 2, 3, 4, 5, 6] rfl
    have hKc := hK.sub (tys' := [(cJ, .long)]) [1] rfl
    have hDc := hD.sub (ws' := [(f0, .inr (3, [.ref hs, .ref c0, .int (nI n), v3, v4, v5])), (c0, .inr (0, [.ref s0, .ref t0])), (s0, .inr (1, [.ref sa])), (sa, .inl (cJ, 17, .inr (.inl (fun j => lN (ds j))))), (t0, .inr (1, [.ref ta])), (ta, .inl (cJ, 17, .inr (.inl (fun j => lN (dt j)))))]) [0, 2, 3, 4, 5, 6] (by decide) rfl
    have hFc := va_free (wc := [(f0, .inr (3, [.ref hs, .ref c0, .int (nI n), v3, v4, v5])), (c0, .inr (0, [.ref s0, .ref t0])), (s0, .inr (1, [.ref sa])), (sa, .inl (cJ, 17, .inr (.inl (fun j => lN (ds j))))), (t0, .inr (1, [.ref ta])), (ta, .inl (cJ, 17, .inr (.inl (fun j => lN (dt j)))))]) hD hS hA [0, 2, 3, 4, 5, 6] rfl
    refine va_calli (va_runV (As := [.int (nI N), .int (nI X), .int (nI lv)]) (rest := []) ⟨hx, hb, hml, hown, hts⟩ (c_fla_great l dC dI f0 c0 s0 sa t0 ta cJ (.ref hs) (.int (nI n)) v3 v4 v5 ds dt N X lv zs.heap.size hN48 (by omega) (by omega)) (cwV 3 hts gX3_bound_X3_greatestAbove rfl rfl rfl (by decide +kernel) ⟨Nat.le_of_ble_eq_true rfl, Nat.le_of_ble_eq_true rfl⟩) (fw_preVW hN hKc hPc hDc (ci := 3) (q0 := 0) rfl rfl) rfl rfl hl.1 rfl (lv_room (Nat.le_of_ble_eq_true rfl)) dX3_bound_45 ⟨Nat.le_of_ble_eq_true rfl, Nat.le_of_ble_eq_true rfl⟩) hS (fun q _ h => hFc q h) hFc (fun r_45 u zt H1 locs zht hvm hw hB hz1 hk1 hS => ?_)
    obtain ⟨e1, e2⟩ := u
    obtain ⟨J, hJ, hJis⟩ := hw
    obtain ⟨hP1, hK1, hD1⟩ := hB
    rw [zht] at hP1
    obtain ⟨hP, hD⟩ := va_join (wr := [(hs, .inl (cH, 12, .inr (.inr (.inr (.inr (hf)))))), (h0, .inr (2, [w0, w1, w2, w3, w4, .int (nI N), .int (nI X), w7, w8, w9, w10]))]) (w1 := [(f0, .inr (3, [.ref hs, .ref c0, .int (nI n), v3, v4, v5])), (c0, .inr (0, [.ref s0, .ref t0])), (s0, .inr (1, [.ref sa])), (sa, .inl (cJ, 17, .inr (.inl (fun j => lN (e1 j))))), (t0, .inr (1, [.ref ta])), (ta, .inl (cJ, 17, .inr (.inl (fun j => lN (e2 j)))))]) hP hD [0, 2, 3, 4, 5, 6] [1, 7] rfl rfl (by decide) (by decide) hk1 hFc hP1 hD1
    generalize H1 = H at hP hS ⊢
    have hP : va_P (dC, dI) vwCl [(hs, .inl (cH, 12, .inr (.inr (.inr (.inr (hf)))))), (h0, .inr (2, [w0, w1, w2, w3, w4, .int (nI N), .int (nI X), w7, w8, w9, w10])), (f0, .inr (3, [.ref hs, .ref c0, .int (nI n), v3, v4, v5])), (c0, .inr (0, [.ref s0, .ref t0])), (s0, .inr (1, [.ref sa])), (sa, .inl (cJ, 17, .inr (.inl (fun j => lN (e1 j))))), (t0, .inr (1, [.ref ta])), (ta, .inl (cJ, 17, .inr (.inl (fun j => lN (e2 j)))))] H := hP
    have hD : va_D A [(hs, .inl (cH, 12, .inr (.inr (.inr (.inr (hf)))))), (h0, .inr (2, [w0, w1, w2, w3, w4, .int (nI N), .int (nI X), w7, w8, w9, w10])), (f0, .inr (3, [.ref hs, .ref c0, .int (nI n), v3, v4, v5])), (c0, .inr (0, [.ref s0, .ref t0])), (s0, .inr (1, [.ref sa])), (sa, .inl (cJ, 17, .inr (.inl (fun j => lN (e1 j))))), (t0, .inr (1, [.ref ta])), (ta, .inl (cJ, 17, .inr (.inl (fun j => lN (e2 j)))))] := hD
    obtain rfl : r_45 = nI J := hJ
    have hP9 := hP.sub (ws' := [(f0, .inr (3, [.ref hs, .ref c0, .int (nI n), v3, v4, v5])), (hs, .inl (cH, 12, .inr (.inr (.inr (.inr (hf)))))), (c0, .inr (0, [.ref s0, .ref t0])), (s0, .inr (1, [.ref sa])), (sa, .inl (cJ, 17, .inr (.inl (fun j => lN (e1 j))))), (t0, .inr (1, [.ref ta])), (ta, .inl (cJ, 17, .inr (.inl (fun j => lN (e2 j))))), (h0, .inr (2, [w0, w1, w2, w3, w4, .int (nI N), .int (nI X), w7, w8, w9, w10]))]) [2, 0, 3, 4, 5, 6, 7, 1] rfl
    have hD9 := hD.sub (ws' := [(f0, .inr (3, [.ref hs, .ref c0, .int (nI n), v3, v4, v5])), (hs, .inl (cH, 12, .inr (.inr (.inr (.inr (hf)))))), (c0, .inr (0, [.ref s0, .ref t0])), (s0, .inr (1, [.ref sa])), (sa, .inl (cJ, 17, .inr (.inl (fun j => lN (e1 j))))), (t0, .inr (1, [.ref ta])), (ta, .inl (cJ, 17, .inr (.inl (fun j => lN (e2 j))))), (h0, .inr (2, [w0, w1, w2, w3, w4, .int (nI N), .int (nI X), w7, w8, w9, w10]))]) [2, 0, 3, 4, 5, 6, 7, 1] (by decide) rfl
    have hK9 := hK.sub (tys' := [(cH, .object RX2), (cJ, .long)]) [0, 1] rfl
    exact W.iret (v := (nI J)) hx hb hr (fun zt zht hW => ⟨⟨(nI J), (e1, e2), rfl, ⟨J, rfl, hJis⟩, by rw [zht]; exact hP9, va_K.moved hW.alike hK9, hD9⟩, hS.F zht⟩) hS.2.2 dX3_bound_48 hlocks
set_option maxHeartbeats 4000000 in
set_option maxRecDepth 100000 in
theorem c_fla_share (l : Launch) (dC : Nat → ClassId) (dI : Nat → Nat → Nat) (f0 hs c0 s0 sa t0 ta h0 : Nat) (cH cJ : ClassId) (v3 v4 v5 w0 w1 w2 w3 w4 w7 w8 w9 w10 : Value) (ds dt : Nat → Nat) (n i : Nat) (hf : Nat → Option Nat) (N X : Nat) (j g : Nat) (most : Bool) (sz : Nat) (hn12 : n ≤ 12) (hin_ : i < n) (hfi : hf i = some h0) (hN48 : N ≤ 48) (hXN : X ≤ N) (hj : j ≤ 1000) (hg1 : 1 ≤ g) (hg : g ≤ 18) : Met l yX3_share wsX3_share ({ frames := 3, cells := 0, slots := 0, locals := 74 } : Room) (va_Pc [.ref f0, .int (nI i), .int (nI j), .int (zI most), .int (nI g)] (fw_pW (dC, dI) vwCl [(cH, .object RX2), (cJ, .long)] [(f0, .inr (3, [.ref hs, .ref c0, .int (nI n), v3, v4, v5])), (hs, .inl (cH, 12, .inr (.inr (.inr (.inr (hf)))))), (c0, .inr (0, [.ref s0, .ref t0])), (s0, .inr (1, [.ref sa])), (sa, .inl (cJ, 17, .inr (.inl (fun j => lN (ds j))))), (t0, .inr (1, [.ref ta])), (ta, .inl (cJ, 17, .inr (.inl (fun j => lN (dt j))))), (h0, .inr (2, [w0, w1, w2, w3, w4, .int (nI N), .int (nI X), w7, w8, w9, w10]))] sz)) (va_Ql (S := (Nat → Nat) × (Nat → Nat)) (fun r _ => r = lN ((pm_G N (if most = true then j else 1000 - j) N (if most = true then X else N - X) * 1000 ^ (48 - N)) / 1000000000 ^ 14 / 10 ^ (18 - g))) (fun u t => fw_q (dC, dI) vwCl [(cH, .object RX2), (cJ, .long)] (va_A [(f0, .inr (3, [.ref hs, .ref c0, .int (nI n), v3, v4, v5])), (hs, .inl (cH, 12, .inr (.inr (.inr (.inr (hf)))))), (c0, .inr (0, [.ref s0, .ref t0])), (s0, .inr (1, [.ref sa])), (sa, .inl (cJ, 17, .inr (.inl (fun j => lN (ds j))))), (t0, .inr (1, [.ref ta])), (ta, .inl (cJ, 17, .inr (.inl (fun j => lN (dt j))))), (h0, .inr (2, [w0, w1, w2, w3, w4, .int (nI N), .int (nI X), w7, w8, w9, w10]))] sz) [(f0, .inr (3, [.ref hs, .ref c0, .int (nI n), v3, v4, v5])), (hs, .inl (cH, 12, .inr (.inr (.inr (.inr (hf)))))), (c0, .inr (0, [.ref s0, .ref t0])), (s0, .inr (1, [.ref sa])), (sa, .inl (cJ, 17, .inr (.inl (fun j => lN (u.1 j))))), (t0, .inr (1, [.ref ta])), (ta, .inl (cJ, 17, .inr (.inl (fun j => lN (u.2 j))))), (h0, .inr (2, [w0, w1, w2, w3, w4, .int (nI N), .int (nI X), w7, w8, w9, w10]))] t) (va_A [(f0, .inr (3, [.ref hs, .ref c0, .int (nI n), v3, v4, v5])), (hs, .inl (cH, 12, .inr (.inr (.inr (.inr (hf)))))), (c0, .inr (0, [.ref s0, .ref t0])), (s0, .inr (1, [.ref sa])), (sa, .inl (cJ, 17, .inr (.inl (fun j => lN (ds j))))), (t0, .inr (1, [.ref ta])), (ta, .inl (cJ, 17, .inr (.inl (fun j => lN (dt j))))), (h0, .inr (2, [w0, w1, w2, w3, w4, .int (nI N), .int (nI X), w7, w8, w9, w10]))] sz)) 0 0 (va_A [(f0, .inr (3, [.ref hs, .ref c0, .int (nI n), v3, v4, v5])), (hs, .inl (cH, 12, .inr (.inr (.inr (.inr (hf)))))), (c0, .inr (0, [.ref s0, .ref t0])), (s0, .inr (1, [.ref sa])), (sa, .inl (cJ, 17, .inr (.inl (fun j => lN (ds j))))), (t0, .inr (1, [.ref ta])), (ta, .inl (cJ, 17, .inr (.inl (fun j => lN (dt j))))), (h0, .inr (2, [w0, w1, w2, w3, w4, .int (nI N), .int (nI X), w7, w8, w9, w10]))] sz) := by
  refine fw_metW (cc := cX3_share) (maxL := 7) (ret := (some .long)) (by decide) rfl (Nat.le_of_ble_eq_true rfl) ?_
  intro zp ze zs zm zbelow zmeth zc ls hx hb hr hts hown hlocks hml hin hN hsz hP hK hD hA hS hl
  generalize hAe : (va_A [(f0, .inr (3, [.ref hs, .ref c0, .int (nI n), v3, v4, v5])), (hs, .inl (cH, 12, .inr (.inr (.inr (.inr (hf)))))), (c0, .inr (0, [.ref s0, .ref t0])), (s0, .inr (1, [.ref sa])), (sa, .inl (cJ, 17, .inr (.inl (fun j => lN (ds j))))), (t0, .inr (1, [.ref ta])), (ta, .inl (cJ, 17, .inr (.inl (fun j => lN (dt j))))), (h0, .inr (2, [w0, w1, w2, w3, w4, .int (nI N), .int (nI X), w7, w8, w9, w10]))] sz) = A at hD hA hS ⊢
  have hown : zs.vm.findClass RX3 = some zm.cls := hown
  have hl : lv_has ls 7 [(0, .ref f0), (1, .int (nI i)), (2, .int (nI j)), (3, .int (zI most)), (4, .int (nI g))] := hl
  refine lv_aload_n hx hb dX3_share_0 rfl (lv_at hl 0 rfl) ?_
  refine lv_iload_n hx hb dX3_share_1 rfl (lv_at hl 1 rfl) ?_
  have hPc := hP.sub (ws' := [(f0, .inr (3, [.ref hs, .ref c0, .int (nI n), v3, v4, v5])), (hs, .inl (cH, 12, .inr (.inr (.inr (.inr (hf))))))]) [0, 1] rfl
  have hKc := hK.sub (tys' := [(cH, .object RX2)]) [0] rfl
  refine va_csq (va_runV (As := [.int (nI i)]) (rest := []) ⟨hx, hb, hml, hown, hts⟩ (c_fla_find l dC dI f0 hs cH (.ref c0) v3 v4 v5 n hf i h0 hn12 hin_ hfi) (cwV 1 hts gX3_share_X3_find rfl rfl rfl (by decide +kernel) ⟨Nat.le_of_ble_eq_true rfl, Nat.le_of_ble_eq_true rfl⟩) (fw_preVR hN hKc hPc (ci := 3) (q0 := 0) rfl rfl) rfl rfl hl.1 rfl (lv_room (Nat.le_of_ble_eq_true rfl)) dX3_share_2 ⟨Nat.le_of_ble_eq_true rfl, Nat.le_of_ble_eq_true rfl⟩).run (fun r_2 hr_2 => ?_)
  obtain rfl : r_2 = some h0 := hr_2
  refine W.eq (g2 := F0 zm 5 ls [.ref h0]) rfl ?_
  refine lv_astore (lv' := [(5, .ref h0), (0, .ref f0), (1, .int (nI i)), (2, .int (nI j)), (3, .int (zI most)), (4, .int (nI g))]) hx hb dX3_share_5 hl (by decide) rfl (fun ls hl => ?_)
  refine lv_aload hx hb dX3_share_7 (lv_at hl 0 rfl) ?_
  refine lv_ifnull hx hb dX3_share_9 ?_
  refine lv_iload_n hx hb dX3_share_12 rfl (lv_at hl 3 rfl) ?_
  have hPc := hP.sub (ws' := []) [] rfl
  have hKc := hK.sub (tys' := []) [] rfl
  refine vp_callSi (va_runS (As := [.int (nI j)]) (rest := []) ⟨hx, hb, hml, hown, hts⟩ (c_fla_isShare l dC dI (nI j)) (va_cwS 1 hts gX3_share_X3_isShare rfl rfl rfl (by decide +kernel) ⟨Nat.le_of_ble_eq_true rfl, Nat.le_of_ble_eq_true rfl⟩) (fw_preSR hN hKc hPc) rfl rfl hl.1 rfl (lv_room (Nat.le_of_ble_eq_true rfl)) dX3_share_13 ⟨Nat.le_of_ble_eq_true rfl, Nat.le_of_ble_eq_true rfl⟩).run (fun r_13 hr_13 => ?_)
  obtain rfl : r_13 = zI (fv_sh (nI j)) := hr_13
  refine lv_if_eq (tgt := 32) hx hb dX3_share_16 (by decide) (fun c_16 => absurd c_16 (by rw [fv_sh_nI hj]; decide)) (fun _ => ?_)
  refine lv_iload hx hb dX3_share_19 (lv_at hl 5 rfl) ?_
  refine lv_iconst (v := 1) hx hb dX3_share_21 (by decide) ?_
  refine lv_icmp_lt (tgt := 32) hx hb dX3_share_22 (by decide) (fun c_22 => absurd c_22 (nI_nlt (a := g) (b := 1) hg1 (by omega))) (fun _ => ?_)
  refine lv_iload hx hb dX3_share_25 (lv_at hl 5 rfl) ?_
  refine lv_bipush (v := 18) hx hb dX3_share_27 (by decide) ?_
  refine lv_icmp_le (tgt := 36) hx hb dX3_share_29 (by decide) (fun _ => ?_) (fun c_29 => absurd (nI_le (a := g) (b := 18) hg (by decide)) c_29)
  cases most
  · -- f
    refine lv_iload_n hx hb dX3_share_36 rfl (lv_at hl 4 rfl) ?_
    refine lv_if_eq (tgt := 50) hx hb dX3_share_37 (by decide) (fun _ => ?_) (fun c_37 => absurd (rfl) c_37)
    refine lv_aload_n hx hb dX3_share_50 rfl (lv_at hl 1 rfl) ?_
    refine lv_aload hx hb dX3_share_51 (lv_at hl 0 rfl) ?_
    refine lv_iload_n hx hb dX3_share_53 rfl (lv_at hl 3 rfl) ?_
    have hPc := hP.sub (ws' := [(f0, .inr (3, [.ref hs, .ref c0, .int (nI n), v3, v4, v5])), (c0, .inr (0, [.ref s0, .ref t0])), (s0, .inr (1, [.ref sa])), (sa, .inl (cJ, 17, .inr (.inl (fun j => lN (ds j))))), (t0, .inr (1, [.ref ta])), (ta, .inl (cJ, 17, .inr (.inl (fun j => lN (dt j))))), (h0, .inr (2, [w0, w1, w2, w3, w4, .int (nI N), .int (nI X), w7, w8, w9, w10]))]) [0, 2, 3, 4, 5, 6, 7] rfl
    have hKc := hK.sub (tys' := [(cJ, .long)]) [1] rfl
    have hDc := hD.sub (ws' := [(f0, .inr (3, [.ref hs, .ref c0, .int (nI n), v3, v4, v5])), (c0, .inr (0, [.ref s0, .ref t0])), (s0, .inr (1, [.ref sa])), (sa, .inl (cJ, 17, .inr (.inl (fun j => lN (ds j))))), (t0, .inr (1, [.ref ta])), (ta, .inl (cJ, 17, .inr (.inl (fun j => lN (dt j))))), (h0, .inr (2, [w0, w1, w2, w3, w4, .int (nI N), .int (nI X), w7, w8, w9, w10]))]) [0, 2, 3, 4, 5, 6, 7] (by decide) rfl
    have hFc := va_free (wc := [(f0, .inr (3, [.ref hs, .ref c0, .int (nI n), v3, v4, v5])), (c0, .inr (0, [.ref s0, .ref t0])), (s0, .inr (1, [.ref sa])), (sa, .inl (cJ, 17, .inr (.inl (fun j => lN (ds j))))), (t0, .inr (1, [.ref ta])), (ta, .inl (cJ, 17, .inr (.inl (fun j => lN (dt j))))), (h0, .inr (2, [w0, w1, w2, w3, w4, .int (nI N), .int (nI X), w7, w8, w9, w10]))]) hD hS hA [0, 2, 3, 4, 5, 6, 7] rfl
    refine va_callr (va_runV (As := [.ref h0, .int (nI j)]) (rest := []) ⟨hx, hb, hml, hown, hts⟩ (c_fla_least l dC dI f0 c0 s0 sa t0 ta h0 cJ (.ref hs) (.int (nI n)) v3 v4 v5 w0 w1 w2 w3 w4 w7 w8 w9 w10 ds dt N X j zs.heap.size hN48 hXN hj) (cwV 2 hts gX3_share_X3_atLeast rfl rfl rfl (by decide +kernel) ⟨Nat.le_of_ble_eq_true rfl, Nat.le_of_ble_eq_true rfl⟩) (fw_preVW hN hKc hPc hDc (ci := 3) (q0 := 0) rfl rfl) rfl rfl hl.1 rfl (lv_room (Nat.le_of_ble_eq_true rfl)) dX3_share_54 ⟨Nat.le_of_ble_eq_true rfl, Nat.le_of_ble_eq_true rfl⟩) hS (fun q _ h => hFc q h) hFc (fun u ra_54 zt H1 locs zht hvm hw hB hz1 hk1 hS => ?_)
    obtain ⟨e1, e2⟩ := u
    obtain ⟨ok_e1, v_e1⟩ := hw
    obtain ⟨era, hP1, hK1, hD1⟩ := hB
    rw [zht] at hP1
    have ok_e1 : pd_ok e1 := ok_e1
    have v_e1 : pd_v e1 17 = pm_G N (1000 - j) N (N - X) * 1000 ^ (48 - N) := v_e1
    have h1e : pd_v e1 17 ≤ 1000000000 ^ 16 := by rw [v_e1]; exact pm_le16 hN48 (by omega)
    obtain ⟨hP, hD⟩ := va_join (wr := [(hs, .inl (cH, 12, .inr (.inr (.inr (.inr (hf))))))]) (w1 := [(f0, .inr (3, [.ref hs, .ref c0, .int (nI n), v3, v4, v5])), (c0, .inr (0, [.ref s0, .ref t0])), (s0, .inr (1, [.ref sa])), (sa, .inl (cJ, 17, .inr (.inl (fun j => lN (e1 j))))), (t0, .inr (1, [.ref ta])), (ta, .inl (cJ, 17, .inr (.inl (fun j => lN (e2 j))))), (h0, .inr (2, [w0, w1, w2, w3, w4, .int (nI N), .int (nI X), w7, w8, w9, w10]))]) hP hD [0, 2, 3, 4, 5, 6, 7] [1] rfl rfl (by decide) (by decide) hk1 hFc hP1 hD1
    generalize H1 = H at hP hS ⊢
    have hP : va_P (dC, dI) vwCl [(hs, .inl (cH, 12, .inr (.inr (.inr (.inr (hf)))))), (f0, .inr (3, [.ref hs, .ref c0, .int (nI n), v3, v4, v5])), (c0, .inr (0, [.ref s0, .ref t0])), (s0, .inr (1, [.ref sa])), (sa, .inl (cJ, 17, .inr (.inl (fun j => lN (e1 j))))), (t0, .inr (1, [.ref ta])), (ta, .inl (cJ, 17, .inr (.inl (fun j => lN (e2 j))))), (h0, .inr (2, [w0, w1, w2, w3, w4, .int (nI N), .int (nI X), w7, w8, w9, w10]))] H := hP
    have hD : va_D A [(hs, .inl (cH, 12, .inr (.inr (.inr (.inr (hf)))))), (f0, .inr (3, [.ref hs, .ref c0, .int (nI n), v3, v4, v5])), (c0, .inr (0, [.ref s0, .ref t0])), (s0, .inr (1, [.ref sa])), (sa, .inl (cJ, 17, .inr (.inl (fun j => lN (e1 j))))), (t0, .inr (1, [.ref ta])), (ta, .inl (cJ, 17, .inr (.inl (fun j => lN (e2 j))))), (h0, .inr (2, [w0, w1, w2, w3, w4, .int (nI N), .int (nI X), w7, w8, w9, w10]))] := hD
    rw [era]
    refine lv_astore (lv' := [(6, .ref s0), (5, .ref h0), (0, .ref f0), (1, .int (nI i)), (2, .int (nI j)), (3, .int (zI false)), (4, .int (nI g))]) hx hb dX3_share_57 hl (by decide) rfl (fun ls hl => ?_)
    refine lv_aload hx hb dX3_share_59 (lv_at hl 0 rfl) ?_
    refine lv_iload hx hb dX3_share_61 (lv_at hl 6 rfl) ?_
    have hPc := hP.sub (ws' := [(s0, .inr (1, [.ref sa])), (sa, .inl (cJ, 17, .inr (.inl (fun j => lN (e1 j)))))]) [3, 4] rfl
    have hKc := hK.sub (tys' := [(cJ, .long)]) [1] rfl
    refine vp_callSl (va_runV (As := [.int (nI g)]) (rest := []) ⟨hx, hb, hml, hown, hts⟩ (c_dec_cut l dC dI s0 sa cJ e1 g ok_e1 h1e hg) (cwV 1 hts gX3_share_X1_cutTo rfl rfl rfl (by decide +kernel) ⟨Nat.le_of_ble_eq_true rfl, Nat.le_of_ble_eq_true rfl⟩) (fw_preVR hN hKc hPc (ci := 1) (q0 := 0) rfl rfl) rfl rfl hl.1 rfl (lv_room (Nat.le_of_ble_eq_true rfl)) dX3_share_63 ⟨Nat.le_of_ble_eq_true rfl, Nat.le_of_ble_eq_true rfl⟩).run (fun r_63 hr_63 => ?_)
    obtain rfl : r_63 = lN ((pm_G N (1000 - j) N (N - X)) * 1000 ^ (48 - N) / 1000000000 ^ 14 / 10 ^ (18 - g)) := by rw [hr_63, v_e1]
    have hP9 := hP.sub (ws' := [(f0, .inr (3, [.ref hs, .ref c0, .int (nI n), v3, v4, v5])), (hs, .inl (cH, 12, .inr (.inr (.inr (.inr (hf)))))), (c0, .inr (0, [.ref s0, .ref t0])), (s0, .inr (1, [.ref sa])), (sa, .inl (cJ, 17, .inr (.inl (fun j => lN (e1 j))))), (t0, .inr (1, [.ref ta])), (ta, .inl (cJ, 17, .inr (.inl (fun j => lN (e2 j))))), (h0, .inr (2, [w0, w1, w2, w3, w4, .int (nI N), .int (nI X), w7, w8, w9, w10]))]) [1, 0, 2, 3, 4, 5, 6, 7] rfl
    have hD9 := hD.sub (ws' := [(f0, .inr (3, [.ref hs, .ref c0, .int (nI n), v3, v4, v5])), (hs, .inl (cH, 12, .inr (.inr (.inr (.inr (hf)))))), (c0, .inr (0, [.ref s0, .ref t0])), (s0, .inr (1, [.ref sa])), (sa, .inl (cJ, 17, .inr (.inl (fun j => lN (e1 j))))), (t0, .inr (1, [.ref ta])), (ta, .inl (cJ, 17, .inr (.inl (fun j => lN (e2 j))))), (h0, .inr (2, [w0, w1, w2, w3, w4, .int (nI N), .int (nI X), w7, w8, w9, w10]))]) [1, 0, 2, 3, 4, 5, 6, 7] (by decide) rfl
    have hK9 := hK.sub (tys' := [(cH, .object RX2), (cJ, .long)]) [0, 1] rfl
    exact W.lret (v := (lN ((pm_G N (1000 - j) N (N - X)) * 1000 ^ (48 - N) / 1000000000 ^ 14 / 10 ^ (18 - g)))) hx hb hr (fun zt zht hW => ⟨⟨(lN ((pm_G N (1000 - j) N (N - X)) * 1000 ^ (48 - N) / 1000000000 ^ 14 / 10 ^ (18 - g))), (e1, e2), rfl, rfl, by rw [zht]; exact hP9, va_K.moved hW.alike hK9, hD9⟩, hS.F zht⟩) hS.2.2 dX3_share_66 hlocks
  · -- t
    refine lv_iload_n hx hb dX3_share_36 rfl (lv_at hl 4 rfl) ?_
    refine lv_if_eq (tgt := 50) hx hb dX3_share_37 (by decide) (fun c_37 => absurd c_37 (by decide)) (fun _ => ?_)
    refine lv_aload_n hx hb dX3_share_40 rfl (lv_at hl 1 rfl) ?_
    refine lv_aload hx hb dX3_share_41 (lv_at hl 0 rfl) ?_
    refine lv_iload_n hx hb dX3_share_43 rfl (lv_at hl 3 rfl) ?_
    have hPc := hP.sub (ws' := [(f0, .inr (3, [.ref hs, .ref c0, .int (nI n), v3, v4, v5])), (c0, .inr (0, [.ref s0, .ref t0])), (s0, .inr (1, [.ref sa])), (sa, .inl (cJ, 17, .inr (.inl (fun j => lN (ds j))))), (t0, .inr (1, [.ref ta])), (ta, .inl (cJ, 17, .inr (.inl (fun j => lN (dt j))))), (h0, .inr (2, [w0, w1, w2, w3, w4, .int (nI N), .int (nI X), w7, w8, w9, w10]))]) [0, 2, 3, 4, 5, 6, 7] rfl
    have hKc := hK.sub (tys' := [(cJ, .long)]) [1] rfl
    have hDc := hD.sub (ws' := [(f0, .inr (3, [.ref hs, .ref c0, .int (nI n), v3, v4, v5])), (c0, .inr (0, [.ref s0, .ref t0])), (s0, .inr (1, [.ref sa])), (sa, .inl (cJ, 17, .inr (.inl (fun j => lN (ds j))))), (t0, .inr (1, [.ref ta])), (ta, .inl (cJ, 17, .inr (.inl (fun j => lN (dt j))))), (h0, .inr (2, [w0, w1, w2, w3, w4, .int (nI N), .int (nI X), w7, w8, w9, w10]))]) [0, 2, 3, 4, 5, 6, 7] (by decide) rfl
    have hFc := va_free (wc := [(f0, .inr (3, [.ref hs, .ref c0, .int (nI n), v3, v4, v5])), (c0, .inr (0, [.ref s0, .ref t0])), (s0, .inr (1, [.ref sa])), (sa, .inl (cJ, 17, .inr (.inl (fun j => lN (ds j))))), (t0, .inr (1, [.ref ta])), (ta, .inl (cJ, 17, .inr (.inl (fun j => lN (dt j))))), (h0, .inr (2, [w0, w1, w2, w3, w4, .int (nI N), .int (nI X), w7, w8, w9, w10]))]) hD hS hA [0, 2, 3, 4, 5, 6, 7] rfl
    refine va_callr (va_runV (As := [.ref h0, .int (nI j)]) (rest := []) ⟨hx, hb, hml, hown, hts⟩ (c_fla_most l dC dI f0 c0 s0 sa t0 ta h0 cJ (.ref hs) (.int (nI n)) v3 v4 v5 w0 w1 w2 w3 w4 w7 w8 w9 w10 ds dt N X j zs.heap.size hN48 hXN hj) (cwV 2 hts gX3_share_X3_atMost rfl rfl rfl (by decide +kernel) ⟨Nat.le_of_ble_eq_true rfl, Nat.le_of_ble_eq_true rfl⟩) (fw_preVW hN hKc hPc hDc (ci := 3) (q0 := 0) rfl rfl) rfl rfl hl.1 rfl (lv_room (Nat.le_of_ble_eq_true rfl)) dX3_share_44 ⟨Nat.le_of_ble_eq_true rfl, Nat.le_of_ble_eq_true rfl⟩) hS (fun q _ h => hFc q h) hFc (fun u ra_44 zt H1 locs zht hvm hw hB hz1 hk1 hS => ?_)
    obtain ⟨e1, e2⟩ := u
    obtain ⟨ok_e1, v_e1⟩ := hw
    obtain ⟨era, hP1, hK1, hD1⟩ := hB
    rw [zht] at hP1
    have ok_e1 : pd_ok e1 := ok_e1
    have v_e1 : pd_v e1 17 = pm_G N j N X * 1000 ^ (48 - N) := v_e1
    have h1e : pd_v e1 17 ≤ 1000000000 ^ 16 := by rw [v_e1]; exact pm_le16 hN48 (by omega)
    obtain ⟨hP, hD⟩ := va_join (wr := [(hs, .inl (cH, 12, .inr (.inr (.inr (.inr (hf))))))]) (w1 := [(f0, .inr (3, [.ref hs, .ref c0, .int (nI n), v3, v4, v5])), (c0, .inr (0, [.ref s0, .ref t0])), (s0, .inr (1, [.ref sa])), (sa, .inl (cJ, 17, .inr (.inl (fun j => lN (e1 j))))), (t0, .inr (1, [.ref ta])), (ta, .inl (cJ, 17, .inr (.inl (fun j => lN (e2 j))))), (h0, .inr (2, [w0, w1, w2, w3, w4, .int (nI N), .int (nI X), w7, w8, w9, w10]))]) hP hD [0, 2, 3, 4, 5, 6, 7] [1] rfl rfl (by decide) (by decide) hk1 hFc hP1 hD1
    generalize H1 = H at hP hS ⊢
    have hP : va_P (dC, dI) vwCl [(hs, .inl (cH, 12, .inr (.inr (.inr (.inr (hf)))))), (f0, .inr (3, [.ref hs, .ref c0, .int (nI n), v3, v4, v5])), (c0, .inr (0, [.ref s0, .ref t0])), (s0, .inr (1, [.ref sa])), (sa, .inl (cJ, 17, .inr (.inl (fun j => lN (e1 j))))), (t0, .inr (1, [.ref ta])), (ta, .inl (cJ, 17, .inr (.inl (fun j => lN (e2 j))))), (h0, .inr (2, [w0, w1, w2, w3, w4, .int (nI N), .int (nI X), w7, w8, w9, w10]))] H := hP
    have hD : va_D A [(hs, .inl (cH, 12, .inr (.inr (.inr (.inr (hf)))))), (f0, .inr (3, [.ref hs, .ref c0, .int (nI n), v3, v4, v5])), (c0, .inr (0, [.ref s0, .ref t0])), (s0, .inr (1, [.ref sa])), (sa, .inl (cJ, 17, .inr (.inl (fun j => lN (e1 j))))), (t0, .inr (1, [.ref ta])), (ta, .inl (cJ, 17, .inr (.inl (fun j => lN (e2 j))))), (h0, .inr (2, [w0, w1, w2, w3, w4, .int (nI N), .int (nI X), w7, w8, w9, w10]))] := hD
    rw [era]
    refine lv_goto (tgt := 57) hx hb dX3_share_47 (by decide) ?_
    refine lv_astore (lv' := [(6, .ref s0), (5, .ref h0), (0, .ref f0), (1, .int (nI i)), (2, .int (nI j)), (3, .int (zI true)), (4, .int (nI g))]) hx hb dX3_share_57 hl (by decide) rfl (fun ls hl => ?_)
    refine lv_aload hx hb dX3_share_59 (lv_at hl 0 rfl) ?_
    refine lv_iload hx hb dX3_share_61 (lv_at hl 6 rfl) ?_
    have hPc := hP.sub (ws' := [(s0, .inr (1, [.ref sa])), (sa, .inl (cJ, 17, .inr (.inl (fun j => lN (e1 j)))))]) [3, 4] rfl
    have hKc := hK.sub (tys' := [(cJ, .long)]) [1] rfl
    refine vp_callSl (va_runV (As := [.int (nI g)]) (rest := []) ⟨hx, hb, hml, hown, hts⟩ (c_dec_cut l dC dI s0 sa cJ e1 g ok_e1 h1e hg) (cwV 1 hts gX3_share_X1_cutTo rfl rfl rfl (by decide +kernel) ⟨Nat.le_of_ble_eq_true rfl, Nat.le_of_ble_eq_true rfl⟩) (fw_preVR hN hKc hPc (ci := 1) (q0 := 0) rfl rfl) rfl rfl hl.1 rfl (lv_room (Nat.le_of_ble_eq_true rfl)) dX3_share_63 ⟨Nat.le_of_ble_eq_true rfl, Nat.le_of_ble_eq_true rfl⟩).run (fun r_63 hr_63 => ?_)
    obtain rfl : r_63 = lN ((pm_G N j N X) * 1000 ^ (48 - N) / 1000000000 ^ 14 / 10 ^ (18 - g)) := by rw [hr_63, v_e1]
    have hP9 := hP.sub (ws' := [(f0, .inr (3, [.ref hs, .ref c0, .int (nI n), v3, v4, v5])), (hs, .inl (cH, 12, .inr (.inr (.inr (.inr (hf)))))), (c0, .inr (0, [.ref s0, .ref t0])), (s0, .inr (1, [.ref sa])), (sa, .inl (cJ, 17, .inr (.inl (fun j => lN (e1 j))))), (t0, .inr (1, [.ref ta])), (ta, .inl (cJ, 17, .inr (.inl (fun j => lN (e2 j))))), (h0, .inr (2, [w0, w1, w2, w3, w4, .int (nI N), .int (nI X), w7, w8, w9, w10]))]) [1, 0, 2, 3, 4, 5, 6, 7] rfl
    have hD9 := hD.sub (ws' := [(f0, .inr (3, [.ref hs, .ref c0, .int (nI n), v3, v4, v5])), (hs, .inl (cH, 12, .inr (.inr (.inr (.inr (hf)))))), (c0, .inr (0, [.ref s0, .ref t0])), (s0, .inr (1, [.ref sa])), (sa, .inl (cJ, 17, .inr (.inl (fun j => lN (e1 j))))), (t0, .inr (1, [.ref ta])), (ta, .inl (cJ, 17, .inr (.inl (fun j => lN (e2 j))))), (h0, .inr (2, [w0, w1, w2, w3, w4, .int (nI N), .int (nI X), w7, w8, w9, w10]))]) [1, 0, 2, 3, 4, 5, 6, 7] (by decide) rfl
    have hK9 := hK.sub (tys' := [(cH, .object RX2), (cJ, .long)]) [0, 1] rfl
    exact W.lret (v := (lN ((pm_G N j N X) * 1000 ^ (48 - N) / 1000000000 ^ 14 / 10 ^ (18 - g)))) hx hb hr (fun zt zht hW => ⟨⟨(lN ((pm_G N j N X) * 1000 ^ (48 - N) / 1000000000 ^ 14 / 10 ^ (18 - g))), (e1, e2), rfl, rfl, by rw [zht]; exact hP9, va_K.moved hW.alike hK9, hD9⟩, hS.F zht⟩) hS.2.2 dX3_share_66 hlocks
set_option maxHeartbeats 4000000 in
set_option maxRecDepth 100000 in
theorem c_fla_test_no (l : Launch) (dC : Nat → ClassId) (dI : Nat → Nat → Nat) (f0 hs : Nat) (cH : ClassId) (v1 v3 v4 v5 : Value) (hf : Nat → Option Nat)  : Met l yX3_test wsX3_test ({ frames := 0, cells := 0, slots := 0, locals := 0 } : Room) (va_Pc [.ref f0] (fw_pR (dC, dI) vwCl [(cH, .object RX2)] [(f0, .inr (3, [.ref hs, v1, .int (nI 12), v3, v4, v5])), (hs, .inl (cH, 12, .inr (.inr (.inr (.inr (hf))))))])) (vp_Si (fun r => r = (-1))) 0 0 (fun _ => False) := by
  refine fw_metR (cc := cX3_test) (maxL := 1) (ret := (some .int)) (by decide) rfl (Nat.le_of_ble_eq_true rfl) ?_
  intro zp ze zs zm zbelow zmeth zc ls hx hb hr hts hown hlocks hml hin hN hP hK hl
  have hown : zs.vm.findClass RX3 = some zm.cls := hown
  have hl : lv_has ls 1 [(0, .ref f0)] := hl
  refine lv_aload_n hx hb dX3_test_0 rfl (lv_at hl 0 rfl) ?_
  refine va_get (D := (dC, dI)) (ci := 3) (v := .int (nI 12)) (C := RX3) (T := TX3) (N := 6) hx hb hts (by decide +kernel) hown hK hP 0 rfl rfl 2 (by decide) (hts (.fieldLink RX3 22 "FlakyBounds" "tests" "I") (by decide +kernel)) (fun _ h9 => h9) rfl dX3_test_1 ?_
  refine lv_aload_n hx hb dX3_test_4 rfl (lv_at hl 0 rfl) ?_
  refine va_get (D := (dC, dI)) (ci := 3) (v := .ref hs) (C := RX3) (T := TX3) (N := 6) hx hb hts (by decide +kernel) hown hK hP 0 rfl rfl 0 (by decide) (hts (.fieldLink RX3 11 "FlakyBounds" "histories" "[LFlakyBounds$History;") (by decide +kernel)) (fun _ h9 => h9) rfl dX3_test_5 ?_
  refine va_alen (v := 12) hx hb hK hP 1 0 rfl rfl rfl dX3_test_8 ?_
  refine lv_icmp_lt (tgt := 14) hx hb dX3_test_9 (by decide) (fun c_9 => absurd c_9 (by decide)) (fun _ => ?_)
  refine lv_iconst (v := (-1)) hx hb dX3_test_12 (by decide) ?_
  exact W.iret (v := (-1)) hx hb hr (fun zt zht _ => ⟨(-1), rfl, rfl, zht⟩) (fun q h => by cases h) dX3_test_13 hlocks
set_option maxHeartbeats 4000000 in
set_option maxRecDepth 100000 in
theorem c_fla_test (l : Launch) (dC : Nat → ClassId) (dI : Nat → Nat → Nat) (f0 hs : Nat) (cH : ClassId) (v1 v3 v4 v5 : Value) (n : Nat) (hf : Nat → Option Nat) (cI cZ : ClassId) (sz : Nat) (hn12 : n < 12) : Met l yX3_test wsX3_test ({ frames := 2, cells := 3, slots := 107, locals := 32 } : Room) (va_Pc [.ref f0] (fw_pW (dC, dI) vwCl [(cH, .object RX2), (cI, .int), (cZ, .boolean)] [(f0, .inr (3, [.ref hs, v1, .int (nI n), v3, v4, v5])), (hs, .inl (cH, 12, .inr (.inr (.inr (.inr (hf))))))] sz)) (va_Qi (S := Nat × Nat × Nat) (fun r _ => r = nI n) (fun u t => match u with | (q22, ea, pa) => fw_q (dC, dI) vwCl [(cH, .object RX2), (cI, .int), (cZ, .boolean)] (va_A [(f0, .inr (3, [.ref hs, v1, .int (nI n), v3, v4, v5])), (hs, .inl (cH, 12, .inr (.inr (.inr (.inr (hf))))))] sz) [(f0, .inr (3, [.ref hs, v1, .int (nI (n + 1)), v3, v4, v5])), (hs, .inl (cH, 12, .inr (.inr (.inr (.inr (va_up hf n (some q22))))))), (q22, .inr (2, [.ref ea, .ref pa, .int 0, .int 0, .int 0, .int 0, .int 0, .int 0, .int 0, .int (-1), .int 0])), (ea, .inl (cI, 48, .inl (fun _ => 0))), (pa, .inl (cZ, 48, .inl (fun _ => 0)))] t) (va_A [(f0, .inr (3, [.ref hs, v1, .int (nI n), v3, v4, v5])), (hs, .inl (cH, 12, .inr (.inr (.inr (.inr (hf))))))] sz)) 3 107 (va_A [(f0, .inr (3, [.ref hs, v1, .int (nI n), v3, v4, v5])), (hs, .inl (cH, 12, .inr (.inr (.inr (.inr (hf))))))] sz) := by
  refine fw_metW (cc := cX3_test) (maxL := 1) (ret := (some .int)) (by decide) rfl (Nat.le_of_ble_eq_true rfl) ?_
  intro zp ze zs zm zbelow zmeth zc ls hx hb hr hts hown hlocks hml hin hN hsz hP hK hD hA hS hl
  generalize hAe : (va_A [(f0, .inr (3, [.ref hs, v1, .int (nI n), v3, v4, v5])), (hs, .inl (cH, 12, .inr (.inr (.inr (.inr (hf))))))] sz) = A at hD hA hS ⊢
  have hown : zs.vm.findClass RX3 = some zm.cls := hown
  have hl : lv_has ls 1 [(0, .ref f0)] := hl
  refine lv_aload_n hx hb dX3_test_0 rfl (lv_at hl 0 rfl) ?_
  refine va_get (D := (dC, dI)) (ci := 3) (v := .int (nI n)) (C := RX3) (T := TX3) (N := 6) hx hb hts (by decide +kernel) hown hK hP 0 rfl rfl 2 (by decide) (hts (.fieldLink RX3 22 "FlakyBounds" "tests" "I") (by decide +kernel)) (fun _ h9 => h9) rfl dX3_test_1 ?_
  refine lv_aload_n hx hb dX3_test_4 rfl (lv_at hl 0 rfl) ?_
  refine va_get (D := (dC, dI)) (ci := 3) (v := .ref hs) (C := RX3) (T := TX3) (N := 6) hx hb hts (by decide +kernel) hown hK hP 0 rfl rfl 0 (by decide) (hts (.fieldLink RX3 11 "FlakyBounds" "histories" "[LFlakyBounds$History;") (by decide +kernel)) (fun _ h9 => h9) rfl dX3_test_5 ?_
  refine va_alen (v := 12) hx hb hK hP 1 0 rfl rfl rfl dX3_test_8 ?_
  refine lv_icmp_lt (tgt := 14) hx hb dX3_test_9 (by decide) (fun _ => ?_) (fun c_9 => absurd (nI_lt (a := n) (b := 12) hn12 (by decide)) c_9)
  refine lv_aload_n hx hb dX3_test_14 rfl (lv_at hl 0 rfl) ?_
  refine va_get (D := (dC, dI)) (ci := 3) (v := .ref hs) (C := RX3) (T := TX3) (N := 6) hx hb hts (by decide +kernel) hown hK hP 0 rfl rfl 0 (by decide) (hts (.fieldLink RX3 11 "FlakyBounds" "histories" "[LFlakyBounds$History;") (by decide +kernel)) (fun _ h9 => h9) rfl dX3_test_15 ?_
  refine lv_aload_n hx hb dX3_test_18 rfl (lv_at hl 0 rfl) ?_
  refine va_get (D := (dC, dI)) (ci := 3) (v := .int (nI n)) (C := RX3) (T := TX3) (N := 6) hx hb hts (by decide +kernel) hown hK hP 0 rfl rfl 2 (by decide) (hts (.fieldLink RX3 22 "FlakyBounds" "tests" "I") (by decide +kernel)) (fun _ h9 => h9) rfl dX3_test_19 ?_
  refine va_new (ci := 2) (fs := [.null, .null, .int 0, .int 0, .int 0, .int 0, .int 0, .int 0, .int 0, .int 0, .int 0]) (C := RX2) (T := TX2) (N := 11) hx hb hts (by decide +kernel) tyX2 tyX2_ok hown (hts (.classLink RX3 9 RX2) (by decide +kernel)) (hts (.instantiable RX2 11) (by decide +kernel)) (hts (.initialized RX2) (by decide +kernel)) hK hP hD hS hA rfl (by decide) (Nat.le_of_ble_eq_true rfl) (Nat.le_of_ble_eq_true rfl) dX3_test_22 (fun q22 H hP hD hS => ?_)
  have hP : va_P (dC, dI) vwCl [(f0, .inr (3, [.ref hs, v1, .int (nI n), v3, v4, v5])), (hs, .inl (cH, 12, .inr (.inr (.inr (.inr (hf)))))), (q22, .inr (2, [.null, .null, .int 0, .int 0, .int 0, .int 0, .int 0, .int 0, .int 0, .int 0, .int 0]))] H := hP
  have hD : va_D A [(f0, .inr (3, [.ref hs, v1, .int (nI n), v3, v4, v5])), (hs, .inl (cH, 12, .inr (.inr (.inr (.inr (hf)))))), (q22, .inr (2, [.null, .null, .int 0, .int 0, .int 0, .int 0, .int 0, .int 0, .int 0, .int 0, .int 0]))] := hD
  refine W.widen (k := 1) (n := 11) (by decide) (by decide) ?_
  refine lv_dup hx hb dX3_test_25 rfl ?_
  have hPc := hP.sub (ws' := [(q22, .inr (2, [.null, .null, .int 0, .int 0, .int 0, .int 0, .int 0, .int 0, .int 0, .int 0, .int 0]))]) [2] rfl
  have hKc := hK.sub (tys' := []) [] rfl
  have hDc := hD.sub (ws' := [(q22, .inr (2, [.null, .null, .int 0, .int 0, .int 0, .int 0, .int 0, .int 0, .int 0, .int 0, .int 0]))]) [2] (by decide) rfl
  have hFc := va_free (wc := [(q22, .inr (2, [.null, .null, .int 0, .int 0, .int 0, .int 0, .int 0, .int 0, .int 0, .int 0, .int 0]))]) hD hS hA [2] rfl
  refine va_callv (va_runI (As := []) (rest := [.ref q22, .int (nI n), .ref hs]) ⟨hx, hb, hml, hown, hts⟩ (c_his_init l dC dI q22 H.size) (cwI 0 hts gX3_test_X2_init rfl rfl rfl (hts (.initialized RX2) (by decide +kernel)) (hts (.methodLink RX3 35 yX2_init) (by decide +kernel)) (hts (.instanceMethod yX2_init) (by decide +kernel)) rfl (by decide +kernel) ⟨Nat.le_of_ble_eq_true rfl, Nat.le_of_ble_eq_true rfl⟩) (fw_preSW hN hKc hPc hDc) rfl rfl hl.1 rfl (lv_room (Nat.le_of_ble_eq_true rfl)) dX3_test_26 ⟨Nat.le_of_ble_eq_true rfl, Nat.le_of_ble_eq_true rfl⟩) hS (fun q _ h => hFc q h) hFc (fun u zt H1 locs zht hvm hw hB hz1 hk1 hS => ?_)
  obtain ⟨ea, pa, cI9, cZ9⟩ := u
  obtain ⟨hP1, hK1, hD1⟩ := hB
  rw [zht] at hP1
  obtain ⟨hP, hD⟩ := va_join (wr := [(f0, .inr (3, [.ref hs, v1, .int (nI n), v3, v4, v5])), (hs, .inl (cH, 12, .inr (.inr (.inr (.inr (hf))))))]) (w1 := [(q22, .inr (2, [.ref ea, .ref pa, .int 0, .int 0, .int 0, .int 0, .int 0, .int 0, .int 0, .int (-1), .int 0])), (ea, .inl (cI9, 48, .inl (fun _ => 0))), (pa, .inl (cZ9, 48, .inl (fun _ => 0)))]) hP hD [2] [0, 1] rfl rfl (by decide) (by decide) hk1 hFc hP1 hD1
  have hK := hK.app (va_K.moved hvm.symm hK1)
  have hK : va_K (dC, dI) vwCl [(cH, .object RX2), (cI, .int), (cZ, .boolean), (cI9, .int), (cZ9, .boolean)] zs := hK
  generalize H1 = H at hP hS ⊢
  have hP : va_P (dC, dI) vwCl [(f0, .inr (3, [.ref hs, v1, .int (nI n), v3, v4, v5])), (hs, .inl (cH, 12, .inr (.inr (.inr (.inr (hf)))))), (q22, .inr (2, [.ref ea, .ref pa, .int 0, .int 0, .int 0, .int 0, .int 0, .int 0, .int 0, .int (-1), .int 0])), (ea, .inl (cI9, 48, .inl (fun _ => 0))), (pa, .inl (cZ9, 48, .inl (fun _ => 0)))] H := hP
  have hD : va_D A [(f0, .inr (3, [.ref hs, v1, .int (nI n), v3, v4, v5])), (hs, .inl (cH, 12, .inr (.inr (.inr (.inr (hf)))))), (q22, .inr (2, [.ref ea, .ref pa, .int 0, .int 0, .int 0, .int 0, .int 0, .int 0, .int 0, .int (-1), .int 0])), (ea, .inl (cI9, 48, .inl (fun _ => 0))), (pa, .inl (cZ9, 48, .inl (fun _ => 0)))] := hD
  refine W.widen (k := 3) (n := 107) (by decide) (by decide) ?_
  have eI : cI9 = cI := Option.some.inj ((va_nm_int (hK.2 3 _ rfl).2).symm.trans (va_nm_int (hK.2 1 _ rfl).2))
  have eZ : cZ9 = cZ := Option.some.inj ((va_nm_boolean (hK.2 4 _ rfl).2).symm.trans (va_nm_boolean (hK.2 2 _ rfl).2))
  rw [eI, eZ] at hP hD
  refine va_astq hx hb hK hP hD hS 1 0 2 2 rfl rfl rfl rfl (vp_in_nI (by omega) (by decide)) dX3_test_29 (fun H locs hP hD hS => ?_)
  have e_st : va_up (hf) (nI n).toNatClampNeg (some q22) = va_up hf n (some q22) := by rw [nI_clamp (by omega)]
  rw [e_st] at hP hD
  have hP : va_P (dC, dI) vwCl [(f0, .inr (3, [.ref hs, v1, .int (nI n), v3, v4, v5])), (hs, .inl (cH, 12, .inr (.inr (.inr (.inr (va_up hf n (some q22))))))), (q22, .inr (2, [.ref ea, .ref pa, .int 0, .int 0, .int 0, .int 0, .int 0, .int 0, .int 0, .int (-1), .int 0])), (ea, .inl (cI, 48, .inl (fun _ => 0))), (pa, .inl (cZ, 48, .inl (fun _ => 0)))] H := hP
  have hD : va_D A [(f0, .inr (3, [.ref hs, v1, .int (nI n), v3, v4, v5])), (hs, .inl (cH, 12, .inr (.inr (.inr (.inr (va_up hf n (some q22))))))), (q22, .inr (2, [.ref ea, .ref pa, .int 0, .int 0, .int 0, .int 0, .int 0, .int 0, .int 0, .int (-1), .int 0])), (ea, .inl (cI, 48, .inl (fun _ => 0))), (pa, .inl (cZ, 48, .inl (fun _ => 0)))] := hD
  refine lv_aload_n hx hb dX3_test_30 rfl (lv_at hl 0 rfl) ?_
  refine lv_dup hx hb dX3_test_31 rfl ?_
  refine va_get (D := (dC, dI)) (ci := 3) (v := .int (nI n)) (C := RX3) (T := TX3) (N := 6) hx hb hts (by decide +kernel) hown hK hP 0 rfl rfl 2 (by decide) (hts (.fieldLink RX3 22 "FlakyBounds" "tests" "I") (by decide +kernel)) (fun _ h9 => h9) rfl dX3_test_32 ?_
  refine lv_iconst (v := 1) hx hb dX3_test_35 (by decide) ?_
  refine lv_iadd hx hb dX3_test_36 ?_
  refine fw_i (x' := nI (n + 1)) (nI_1 n) ?_
  refine va_put (D := (dC, dI)) (ci := 3) (v := .int (nI (n + 1))) (ty := .int) (C := RX3) (T := TX3) (N := 6) hx hb hts (by decide +kernel) tyX3 tyX3_ok nmX3 hown hK hP hD hS 0 rfl rfl 2 (by decide) (hts (.fieldLink RX3 22 "FlakyBounds" "tests" "I") (by decide +kernel)) (fun _ h9 => h9) rfl (by decide +kernel) rfl rfl (Nat.le_of_ble_eq_true rfl) dX3_test_37 (fun H locs hP hD hS => ?_)
  have hP : va_P (dC, dI) vwCl [(f0, .inr (3, [.ref hs, v1, .int (nI (n + 1)), v3, v4, v5])), (hs, .inl (cH, 12, .inr (.inr (.inr (.inr (va_up hf n (some q22))))))), (q22, .inr (2, [.ref ea, .ref pa, .int 0, .int 0, .int 0, .int 0, .int 0, .int 0, .int 0, .int (-1), .int 0])), (ea, .inl (cI, 48, .inl (fun _ => 0))), (pa, .inl (cZ, 48, .inl (fun _ => 0)))] H := hP
  have hD : va_D A [(f0, .inr (3, [.ref hs, v1, .int (nI (n + 1)), v3, v4, v5])), (hs, .inl (cH, 12, .inr (.inr (.inr (.inr (va_up hf n (some q22))))))), (q22, .inr (2, [.ref ea, .ref pa, .int 0, .int 0, .int 0, .int 0, .int 0, .int 0, .int 0, .int (-1), .int 0])), (ea, .inl (cI, 48, .inl (fun _ => 0))), (pa, .inl (cZ, 48, .inl (fun _ => 0)))] := hD
  refine lv_aload_n hx hb dX3_test_40 rfl (lv_at hl 0 rfl) ?_
  refine va_get (D := (dC, dI)) (ci := 3) (v := .int (nI (n + 1))) (C := RX3) (T := TX3) (N := 6) hx hb hts (by decide +kernel) hown hK hP 0 rfl rfl 2 (by decide) (hts (.fieldLink RX3 22 "FlakyBounds" "tests" "I") (by decide +kernel)) (fun _ h9 => h9) rfl dX3_test_41 ?_
  refine lv_iconst (v := 1) hx hb dX3_test_44 (by decide) ?_
  refine lv_isub hx hb dX3_test_45 ?_
  refine fw_i (x' := nI n) (nI_pred n) ?_
  have hP9 := hP.sub (ws' := [(f0, .inr (3, [.ref hs, v1, .int (nI (n + 1)), v3, v4, v5])), (hs, .inl (cH, 12, .inr (.inr (.inr (.inr (va_up hf n (some q22))))))), (q22, .inr (2, [.ref ea, .ref pa, .int 0, .int 0, .int 0, .int 0, .int 0, .int 0, .int 0, .int (-1), .int 0])), (ea, .inl (cI, 48, .inl (fun _ => 0))), (pa, .inl (cZ, 48, .inl (fun _ => 0)))]) [0, 1, 2, 3, 4] rfl
  have hD9 := hD.sub (ws' := [(f0, .inr (3, [.ref hs, v1, .int (nI (n + 1)), v3, v4, v5])), (hs, .inl (cH, 12, .inr (.inr (.inr (.inr (va_up hf n (some q22))))))), (q22, .inr (2, [.ref ea, .ref pa, .int 0, .int 0, .int 0, .int 0, .int 0, .int 0, .int 0, .int (-1), .int 0])), (ea, .inl (cI, 48, .inl (fun _ => 0))), (pa, .inl (cZ, 48, .inl (fun _ => 0)))]) [0, 1, 2, 3, 4] (by decide) rfl
  have hK9 := hK.sub (tys' := [(cH, .object RX2), (cI, .int), (cZ, .boolean)]) [0, 1, 2] rfl
  exact W.iret (v := (nI n)) hx hb hr (fun zt zht hW => ⟨⟨(nI n), (q22, ea, pa), rfl, rfl, by rw [zht]; exact hP9, va_K.moved hW.alike hK9, hD9⟩, hS.F zht⟩) hS.2.2 dX3_test_46 hlocks
set_option maxHeartbeats 4000000 in
set_option maxRecDepth 100000 in
theorem c_fla_init (l : Launch) (dC : Nat → ClassId) (dI : Nat → Nat → Nat) (f0 : Nat) (sz : Nat)  : Met l yX3_init wsX3_init ({ frames := 3, cells := 6, slots := 50, locals := 52 } : Room) (va_Pc [.ref f0] (fw_pW (dC, dI) vwCl [] [(f0, .inr (3, [.null, .null, .int 0, .int 0, .int 0, .int 0]))] sz)) (va_Qv (S := Nat × Nat × Nat × Nat × Nat × Nat × ClassId × ClassId) (fun _ => True) (fun u t => match u with | (q7, q14, s0, sa, t0, ta, cA7, cJ) => fw_q (dC, dI) vwCl [(cA7, .object RX2), (cJ, .long)] (va_A [(f0, .inr (3, [.null, .null, .int 0, .int 0, .int 0, .int 0]))] sz) [(f0, .inr (3, [.ref q7, .ref q14, .int 0, .int 50, .int 20, .int 5])), (q7, .inl (cA7, 12, .inr (.inr (.inr (.inr (fun _ => none)))))), (q14, .inr (0, [.ref s0, .ref t0])), (s0, .inr (1, [.ref sa])), (sa, .inl (cJ, 17, .inr (.inl (fun j => lN ((fun _ : Nat => 0) j))))), (t0, .inr (1, [.ref ta])), (ta, .inl (cJ, 17, .inr (.inl (fun j => lN ((fun _ : Nat => 0) j)))))] t) (va_A [(f0, .inr (3, [.null, .null, .int 0, .int 0, .int 0, .int 0]))] sz)) 6 50 (va_A [(f0, .inr (3, [.null, .null, .int 0, .int 0, .int 0, .int 0]))] sz) := by
  refine fw_metW (cc := cX3_init) (maxL := 1) (ret := none) (by decide) rfl (Nat.le_of_ble_eq_true rfl) ?_
  intro zp ze zs zm zbelow zmeth zc ls hx hb hr hts hown hlocks hml hin hN hsz hP hK hD hA hS hl
  generalize hAe : (va_A [(f0, .inr (3, [.null, .null, .int 0, .int 0, .int 0, .int 0]))] sz) = A at hD hA hS ⊢
  have hown : zs.vm.findClass RX3 = some zm.cls := hown
  have hin : zmeth.name = "<init>" := hin
  have hl : lv_has ls 1 [(0, .ref f0)] := hl
  refine lv_aload_n hx hb dX3_init_0 rfl (lv_at hl 0 rfl) ?_
  refine W.objInit hx hb hown (hts (.methodLink RX3 1 objectInit) (by decide +kernel)) (hts (.instanceMethod objectInit) (by decide +kernel)) (hts _ (by decide +kernel)) rfl (by rw [hml]; exact hl.1) rfl dX3_init_1 (Nat.le_of_ble_eq_true rfl) (Nat.le_of_ble_eq_true rfl) ?_
  refine W.eq (g2 := F0 zm 4 ls []) rfl ?_
  refine lv_aload_n hx hb dX3_init_4 rfl (lv_at hl 0 rfl) ?_
  refine lv_bipush (v := 12) hx hb dX3_init_5 (by decide) ?_
  refine va_newq (C := RX2) (N' := 12) hx hb hown (hts (.classLink RX3 9 RX2) (by decide +kernel)) hN.1 hK hP hD hS hA (by decide) (by decide) (by decide +kernel) (Nat.le_of_ble_eq_true rfl) (Nat.le_of_ble_eq_true rfl) dX3_init_7 (fun q7 cA7 H hK hP hD hS => ?_)
  have hK : va_K (dC, dI) vwCl [(cA7, .object RX2)] zs := hK
  have hP : va_P (dC, dI) vwCl [(f0, .inr (3, [.null, .null, .int 0, .int 0, .int 0, .int 0])), (q7, .inl (cA7, 12, .inr (.inr (.inr (.inr (fun _ => none))))))] H := hP
  have hD : va_D A [(f0, .inr (3, [.null, .null, .int 0, .int 0, .int 0, .int 0])), (q7, .inl (cA7, 12, .inr (.inr (.inr (.inr (fun _ => none))))))] := hD
  refine W.widen (k := 1) (n := 12) (by decide) (by decide) ?_
  refine va_putF (D := (dC, dI)) (ci := 3) (v := .ref q7) (ty := (.array (.object "FlakyBounds$History"))) (C := RX3) (T := TX3) (N := 6) hx hb hts (by decide +kernel) tyX3 tyX3_ok nmX3 hown hK hP hD hS 0 rfl rfl 0 (by decide) (hts (.fieldLink RX3 11 "FlakyBounds" "histories" "[LFlakyBounds$History;") (by decide +kernel)) (fun _ h9 => h9) rfl hin rfl (by decide +kernel) rfl rfl (Nat.le_of_ble_eq_true rfl) dX3_init_10 (fun H locs hP hD hS => ?_)
  have hP : va_P (dC, dI) vwCl [(f0, .inr (3, [.ref q7, .null, .int 0, .int 0, .int 0, .int 0])), (q7, .inl (cA7, 12, .inr (.inr (.inr (.inr (fun _ => none))))))] H := hP
  have hD : va_D A [(f0, .inr (3, [.ref q7, .null, .int 0, .int 0, .int 0, .int 0])), (q7, .inl (cA7, 12, .inr (.inr (.inr (.inr (fun _ => none))))))] := hD
  refine lv_aload_n hx hb dX3_init_13 rfl (lv_at hl 0 rfl) ?_
  refine va_new (ci := 0) (fs := [.null, .null]) (C := RX0) (T := TX0) (N := 2) hx hb hts (by decide +kernel) tyX0 tyX0_ok hown (hts (.classLink RX3 15 RX0) (by decide +kernel)) (hts (.instantiable RX0 2) (by decide +kernel)) (hts (.initialized RX0) (by decide +kernel)) hK hP hD hS hA rfl (by decide) (Nat.le_of_ble_eq_true rfl) (Nat.le_of_ble_eq_true rfl) dX3_init_14 (fun q14 H hP hD hS => ?_)
  have hP : va_P (dC, dI) vwCl [(f0, .inr (3, [.ref q7, .null, .int 0, .int 0, .int 0, .int 0])), (q7, .inl (cA7, 12, .inr (.inr (.inr (.inr (fun _ => none)))))), (q14, .inr (0, [.null, .null]))] H := hP
  have hD : va_D A [(f0, .inr (3, [.ref q7, .null, .int 0, .int 0, .int 0, .int 0])), (q7, .inl (cA7, 12, .inr (.inr (.inr (.inr (fun _ => none)))))), (q14, .inr (0, [.null, .null]))] := hD
  refine W.widen (k := 2) (n := 14) (by decide) (by decide) ?_
  refine lv_dup hx hb dX3_init_17 rfl ?_
  have hPc := hP.sub (ws' := [(q14, .inr (0, [.null, .null]))]) [2] rfl
  have hKc := hK.sub (tys' := []) [] rfl
  have hDc := hD.sub (ws' := [(q14, .inr (0, [.null, .null]))]) [2] (by decide) rfl
  have hFc := va_free (wc := [(q14, .inr (0, [.null, .null]))]) hD hS hA [2] rfl
  refine va_callv (va_runI (As := []) (rest := [.ref q14, .ref f0]) ⟨hx, hb, hml, hown, hts⟩ (c_cha_init l dC dI q14 H.size) (cwI 0 hts gX3_init_X0_init rfl rfl rfl (hts (.initialized RX0) (by decide +kernel)) (hts (.methodLink RX3 17 yX0_init) (by decide +kernel)) (hts (.instanceMethod yX0_init) (by decide +kernel)) rfl (by decide +kernel) ⟨Nat.le_of_ble_eq_true rfl, Nat.le_of_ble_eq_true rfl⟩) (fw_preSW hN hKc hPc hDc) rfl rfl hl.1 rfl (lv_room (Nat.le_of_ble_eq_true rfl)) dX3_init_18 ⟨Nat.le_of_ble_eq_true rfl, Nat.le_of_ble_eq_true rfl⟩) hS (fun q _ h => hFc q h) hFc (fun u zt H1 locs zht hvm hw hB hz1 hk1 hS => ?_)
  obtain ⟨s0, sa, t0, ta, cJ⟩ := u
  obtain ⟨hP1, hK1, hD1⟩ := hB
  rw [zht] at hP1
  obtain ⟨hP, hD⟩ := va_join (wr := [(f0, .inr (3, [.ref q7, .null, .int 0, .int 0, .int 0, .int 0])), (q7, .inl (cA7, 12, .inr (.inr (.inr (.inr (fun _ => none))))))]) (w1 := [(q14, .inr (0, [.ref s0, .ref t0])), (s0, .inr (1, [.ref sa])), (sa, .inl (cJ, 17, .inr (.inl (fun j => lN ((fun _ : Nat => 0) j))))), (t0, .inr (1, [.ref ta])), (ta, .inl (cJ, 17, .inr (.inl (fun j => lN ((fun _ : Nat => 0) j)))))]) hP hD [2] [0, 1] rfl rfl (by decide) (by decide) hk1 hFc hP1 hD1
  have hK := hK.app (va_K.moved hvm.symm hK1)
  have hK : va_K (dC, dI) vwCl [(cA7, .object RX2), (cJ, .long)] zs := hK
  generalize H1 = H at hP hS ⊢
  have hP : va_P (dC, dI) vwCl [(f0, .inr (3, [.ref q7, .null, .int 0, .int 0, .int 0, .int 0])), (q7, .inl (cA7, 12, .inr (.inr (.inr (.inr (fun _ => none)))))), (q14, .inr (0, [.ref s0, .ref t0])), (s0, .inr (1, [.ref sa])), (sa, .inl (cJ, 17, .inr (.inl (fun j => lN ((fun _ : Nat => 0) j))))), (t0, .inr (1, [.ref ta])), (ta, .inl (cJ, 17, .inr (.inl (fun j => lN ((fun _ : Nat => 0) j)))))] H := hP
  have hD : va_D A [(f0, .inr (3, [.ref q7, .null, .int 0, .int 0, .int 0, .int 0])), (q7, .inl (cA7, 12, .inr (.inr (.inr (.inr (fun _ => none)))))), (q14, .inr (0, [.ref s0, .ref t0])), (s0, .inr (1, [.ref sa])), (sa, .inl (cJ, 17, .inr (.inl (fun j => lN ((fun _ : Nat => 0) j))))), (t0, .inr (1, [.ref ta])), (ta, .inl (cJ, 17, .inr (.inl (fun j => lN ((fun _ : Nat => 0) j)))))] := hD
  refine W.widen (k := 6) (n := 50) (by decide) (by decide) ?_
  refine va_putF (D := (dC, dI)) (ci := 3) (v := .ref q14) (ty := (.object "FlakyBounds$Chance")) (C := RX3) (T := TX3) (N := 6) hx hb hts (by decide +kernel) tyX3 tyX3_ok nmX3 hown hK hP hD hS 0 rfl rfl 1 (by decide) (hts (.fieldLink RX3 18 "FlakyBounds" "chance" "LFlakyBounds$Chance;") (by decide +kernel)) (fun _ h9 => h9) rfl hin rfl (by decide +kernel) rfl rfl (Nat.le_of_ble_eq_true rfl) dX3_init_21 (fun H locs hP hD hS => ?_)
  have hP : va_P (dC, dI) vwCl [(f0, .inr (3, [.ref q7, .ref q14, .int 0, .int 0, .int 0, .int 0])), (q7, .inl (cA7, 12, .inr (.inr (.inr (.inr (fun _ => none)))))), (q14, .inr (0, [.ref s0, .ref t0])), (s0, .inr (1, [.ref sa])), (sa, .inl (cJ, 17, .inr (.inl (fun j => lN ((fun _ : Nat => 0) j))))), (t0, .inr (1, [.ref ta])), (ta, .inl (cJ, 17, .inr (.inl (fun j => lN ((fun _ : Nat => 0) j)))))] H := hP
  have hD : va_D A [(f0, .inr (3, [.ref q7, .ref q14, .int 0, .int 0, .int 0, .int 0])), (q7, .inl (cA7, 12, .inr (.inr (.inr (.inr (fun _ => none)))))), (q14, .inr (0, [.ref s0, .ref t0])), (s0, .inr (1, [.ref sa])), (sa, .inl (cJ, 17, .inr (.inl (fun j => lN ((fun _ : Nat => 0) j))))), (t0, .inr (1, [.ref ta])), (ta, .inl (cJ, 17, .inr (.inl (fun j => lN ((fun _ : Nat => 0) j)))))] := hD
  refine lv_aload_n hx hb dX3_init_24 rfl (lv_at hl 0 rfl) ?_
  refine lv_iconst (v := 0) hx hb dX3_init_25 (by decide) ?_
  refine va_put (D := (dC, dI)) (ci := 3) (v := .int 0) (ty := .int) (C := RX3) (T := TX3) (N := 6) hx hb hts (by decide +kernel) tyX3 tyX3_ok nmX3 hown hK hP hD hS 0 rfl rfl 2 (by decide) (hts (.fieldLink RX3 22 "FlakyBounds" "tests" "I") (by decide +kernel)) (fun _ h9 => h9) rfl (by decide +kernel) rfl rfl (Nat.le_of_ble_eq_true rfl) dX3_init_26 (fun H locs hP hD hS => ?_)
  have hP : va_P (dC, dI) vwCl [(f0, .inr (3, [.ref q7, .ref q14, .int 0, .int 0, .int 0, .int 0])), (q7, .inl (cA7, 12, .inr (.inr (.inr (.inr (fun _ => none)))))), (q14, .inr (0, [.ref s0, .ref t0])), (s0, .inr (1, [.ref sa])), (sa, .inl (cJ, 17, .inr (.inl (fun j => lN ((fun _ : Nat => 0) j))))), (t0, .inr (1, [.ref ta])), (ta, .inl (cJ, 17, .inr (.inl (fun j => lN ((fun _ : Nat => 0) j)))))] H := hP
  have hD : va_D A [(f0, .inr (3, [.ref q7, .ref q14, .int 0, .int 0, .int 0, .int 0])), (q7, .inl (cA7, 12, .inr (.inr (.inr (.inr (fun _ => none)))))), (q14, .inr (0, [.ref s0, .ref t0])), (s0, .inr (1, [.ref sa])), (sa, .inl (cJ, 17, .inr (.inl (fun j => lN ((fun _ : Nat => 0) j))))), (t0, .inr (1, [.ref ta])), (ta, .inl (cJ, 17, .inr (.inl (fun j => lN ((fun _ : Nat => 0) j)))))] := hD
  refine lv_aload_n hx hb dX3_init_29 rfl (lv_at hl 0 rfl) ?_
  refine lv_bipush (v := 50) hx hb dX3_init_30 (by decide) ?_
  refine va_put (D := (dC, dI)) (ci := 3) (v := .int 50) (ty := .int) (C := RX3) (T := TX3) (N := 6) hx hb hts (by decide +kernel) tyX3 tyX3_ok nmX3 hown hK hP hD hS 0 rfl rfl 3 (by decide) (hts (.fieldLink RX3 26 "FlakyBounds" "ruleLevel" "I") (by decide +kernel)) (fun _ h9 => h9) rfl (by decide +kernel) rfl rfl (Nat.le_of_ble_eq_true rfl) dX3_init_32 (fun H locs hP hD hS => ?_)
  have hP : va_P (dC, dI) vwCl [(f0, .inr (3, [.ref q7, .ref q14, .int 0, .int 50, .int 0, .int 0])), (q7, .inl (cA7, 12, .inr (.inr (.inr (.inr (fun _ => none)))))), (q14, .inr (0, [.ref s0, .ref t0])), (s0, .inr (1, [.ref sa])), (sa, .inl (cJ, 17, .inr (.inl (fun j => lN ((fun _ : Nat => 0) j))))), (t0, .inr (1, [.ref ta])), (ta, .inl (cJ, 17, .inr (.inl (fun j => lN ((fun _ : Nat => 0) j)))))] H := hP
  have hD : va_D A [(f0, .inr (3, [.ref q7, .ref q14, .int 0, .int 50, .int 0, .int 0])), (q7, .inl (cA7, 12, .inr (.inr (.inr (.inr (fun _ => none)))))), (q14, .inr (0, [.ref s0, .ref t0])), (s0, .inr (1, [.ref sa])), (sa, .inl (cJ, 17, .inr (.inl (fun j => lN ((fun _ : Nat => 0) j))))), (t0, .inr (1, [.ref ta])), (ta, .inl (cJ, 17, .inr (.inl (fun j => lN ((fun _ : Nat => 0) j)))))] := hD
  refine lv_aload_n hx hb dX3_init_35 rfl (lv_at hl 0 rfl) ?_
  refine lv_bipush (v := 20) hx hb dX3_init_36 (by decide) ?_
  refine va_put (D := (dC, dI)) (ci := 3) (v := .int 20) (ty := .int) (C := RX3) (T := TX3) (N := 6) hx hb hts (by decide +kernel) tyX3 tyX3_ok nmX3 hown hK hP hD hS 0 rfl rfl 4 (by decide) (hts (.fieldLink RX3 29 "FlakyBounds" "ruleMark" "I") (by decide +kernel)) (fun _ h9 => h9) rfl (by decide +kernel) rfl rfl (Nat.le_of_ble_eq_true rfl) dX3_init_38 (fun H locs hP hD hS => ?_)
  have hP : va_P (dC, dI) vwCl [(f0, .inr (3, [.ref q7, .ref q14, .int 0, .int 50, .int 20, .int 0])), (q7, .inl (cA7, 12, .inr (.inr (.inr (.inr (fun _ => none)))))), (q14, .inr (0, [.ref s0, .ref t0])), (s0, .inr (1, [.ref sa])), (sa, .inl (cJ, 17, .inr (.inl (fun j => lN ((fun _ : Nat => 0) j))))), (t0, .inr (1, [.ref ta])), (ta, .inl (cJ, 17, .inr (.inl (fun j => lN ((fun _ : Nat => 0) j)))))] H := hP
  have hD : va_D A [(f0, .inr (3, [.ref q7, .ref q14, .int 0, .int 50, .int 20, .int 0])), (q7, .inl (cA7, 12, .inr (.inr (.inr (.inr (fun _ => none)))))), (q14, .inr (0, [.ref s0, .ref t0])), (s0, .inr (1, [.ref sa])), (sa, .inl (cJ, 17, .inr (.inl (fun j => lN ((fun _ : Nat => 0) j))))), (t0, .inr (1, [.ref ta])), (ta, .inl (cJ, 17, .inr (.inl (fun j => lN ((fun _ : Nat => 0) j)))))] := hD
  refine lv_aload_n hx hb dX3_init_41 rfl (lv_at hl 0 rfl) ?_
  refine lv_iconst (v := 5) hx hb dX3_init_42 (by decide) ?_
  refine va_put (D := (dC, dI)) (ci := 3) (v := .int 5) (ty := .int) (C := RX3) (T := TX3) (N := 6) hx hb hts (by decide +kernel) tyX3 tyX3_ok nmX3 hown hK hP hD hS 0 rfl rfl 5 (by decide) (hts (.fieldLink RX3 32 "FlakyBounds" "ruleClear" "I") (by decide +kernel)) (fun _ h9 => h9) rfl (by decide +kernel) rfl rfl (Nat.le_of_ble_eq_true rfl) dX3_init_43 (fun H locs hP hD hS => ?_)
  have hP : va_P (dC, dI) vwCl [(f0, .inr (3, [.ref q7, .ref q14, .int 0, .int 50, .int 20, .int 5])), (q7, .inl (cA7, 12, .inr (.inr (.inr (.inr (fun _ => none)))))), (q14, .inr (0, [.ref s0, .ref t0])), (s0, .inr (1, [.ref sa])), (sa, .inl (cJ, 17, .inr (.inl (fun j => lN ((fun _ : Nat => 0) j))))), (t0, .inr (1, [.ref ta])), (ta, .inl (cJ, 17, .inr (.inl (fun j => lN ((fun _ : Nat => 0) j)))))] H := hP
  have hD : va_D A [(f0, .inr (3, [.ref q7, .ref q14, .int 0, .int 50, .int 20, .int 5])), (q7, .inl (cA7, 12, .inr (.inr (.inr (.inr (fun _ => none)))))), (q14, .inr (0, [.ref s0, .ref t0])), (s0, .inr (1, [.ref sa])), (sa, .inl (cJ, 17, .inr (.inl (fun j => lN ((fun _ : Nat => 0) j))))), (t0, .inr (1, [.ref ta])), (ta, .inl (cJ, 17, .inr (.inl (fun j => lN ((fun _ : Nat => 0) j)))))] := hD
  have hP9 := hP.sub (ws' := [(f0, .inr (3, [.ref q7, .ref q14, .int 0, .int 50, .int 20, .int 5])), (q7, .inl (cA7, 12, .inr (.inr (.inr (.inr (fun _ => none)))))), (q14, .inr (0, [.ref s0, .ref t0])), (s0, .inr (1, [.ref sa])), (sa, .inl (cJ, 17, .inr (.inl (fun j => lN ((fun _ : Nat => 0) j))))), (t0, .inr (1, [.ref ta])), (ta, .inl (cJ, 17, .inr (.inl (fun j => lN ((fun _ : Nat => 0) j)))))]) [0, 1, 2, 3, 4, 5, 6] rfl
  have hD9 := hD.sub (ws' := [(f0, .inr (3, [.ref q7, .ref q14, .int 0, .int 50, .int 20, .int 5])), (q7, .inl (cA7, 12, .inr (.inr (.inr (.inr (fun _ => none)))))), (q14, .inr (0, [.ref s0, .ref t0])), (s0, .inr (1, [.ref sa])), (sa, .inl (cJ, 17, .inr (.inl (fun j => lN ((fun _ : Nat => 0) j))))), (t0, .inr (1, [.ref ta])), (ta, .inl (cJ, 17, .inr (.inl (fun j => lN ((fun _ : Nat => 0) j)))))]) [0, 1, 2, 3, 4, 5, 6] (by decide) rfl
  have hK9 := hK.sub (tys' := [(cA7, .object RX2), (cJ, .long)]) [0, 1] rfl
  exact W.vret hx hb hr (fun zt zht hW => ⟨⟨(q7, q14, s0, sa, t0, ta, cA7, cJ), rfl, trivial, by rw [zht]; exact hP9, va_K.moved hW.alike hK9, hD9⟩, hS.F zht⟩) hS.2.2 dX3_init_46 hlocks
end
section
/-! THE CLASS'S STATE: a history's cells; the histories of all tests -/
abbrev FlR : Type := (Nat × Nat × Nat) × (Nat × Nat) × (Bool × Nat) × (Int32 × Nat) × (Nat → Int32) × (Nat → Bool)
def fl_c (cI cZ : ClassId) (r : FlR) : va_W := match r with
  | ((h0, ea, pa), (s, o), (mkd, tm), (je, jf), e, b) => [(h0, .inr (2, [.ref ea, .ref pa, .int (nI s), .int (nI o), .int (nI (hv_D e b s s)), .int (nI (hv_N e b s s)), .int (nI (hv_X e b s s)), .int (zI mkd), .int (nI tm), .int je, .int (nI jf)])), (ea, .inl (cI, 48, .inl (e))), (pa, .inl (cZ, 48, .inl (fun j => zI (b j))))]
def fl_cs (cI cZ : ClassId) (L : List FlR) : va_W := L.flatMap (fl_c cI cZ)
/-- a history as it must be -/
def fl_ok (r : FlR) : Prop := r.2.1.1 ≤ 48 ∧ r.2.1.2 < 48 ∧ r.2.2.2.1.2 ≤ 2
def fl_ref (L : List FlR) (hf : Nat → Option Nat) : Prop := ∀ i, i < 12 → hf i = (L[i]?).map (fun r => r.1.1)
theorem fl_in {cI cZ : ClassId} {L : List FlR} {i : Nat} {r : FlR} (h : L[i]? = some r) : ∀ q, q ∈ fl_c cI cZ r → q ∈ fl_cs cI cZ L := fun _ hq => List.mem_flatMap.mpr ⟨r, List.mem_of_getElem? h, hq⟩
theorem fl_split {cI cZ : ClassId} {L : List FlR} {i : Nat} {r : FlR} (h : L[i]? = some r) : (fl_cs cI cZ L).Perm (fl_c cI cZ r ++ fl_cs cI cZ (L.take i ++ L.drop (i + 1))) := by
  obtain ⟨hl, hg⟩ := List.getElem?_eq_some_iff.mp h
  have e : L = L.take i ++ r :: L.drop (i + 1) := by
    rw [← hg, List.getElem_cons_drop, List.take_append_drop]
  have h1 : fl_cs cI cZ L = fl_cs cI cZ (L.take i) ++ (fl_c cI cZ r ++ fl_cs cI cZ (L.drop (i + 1))) := by
    conv => lhs; rw [e]
    unfold fl_cs
    rw [List.flatMap_append, List.flatMap_cons]
  rw [h1]
  unfold fl_cs
  rw [List.flatMap_append]
  exact List.perm_append_comm_assoc _ _ _
theorem fl_set {cI cZ : ClassId} {L : List FlR} {i : Nat} (hi : i < L.length) (r2 : FlR) : (fl_c cI cZ r2 ++ fl_cs cI cZ (L.take i ++ L.drop (i + 1))).Perm (fl_cs cI cZ (L.set i r2)) := by
  have h1 : (L.set i r2)[i]? = some r2 := by rw [List.getElem?_set_self hi]
  have h2 := fl_split (cI := cI) (cZ := cZ) h1
  have e1 : (L.set i r2).take i = L.take i := by rw [List.take_set_of_le (Nat.le_refl i)]
  have e2 : (L.set i r2).drop (i + 1) = L.drop (i + 1) := by rw [List.drop_set_of_lt (Nat.lt_succ_self i)]
  rw [e1, e2] at h2
  exact h2.symm
/-- whether a test's fails at an edition are real -/
def fl_real (x : Int32) (r : FlR) : Bool := match r with
  | (_, (s, _), (mkd, _), _, e, b) => !mkd && (hv_has e b x false s && !hv_has e b x true s)
def fl_bits (x : Int32) (L : List FlR) : Nat → Int32
  | 0 => 0
  | i + 1 => match L[i]? with
    | some r => if fl_real x r = true then fl_bits x L i ||| ((1 : Int32) <<< (nI i &&& 31)) else fl_bits x L i
    | none => fl_bits x L i
end
section
set_option maxHeartbeats 4000000 in
set_option maxRecDepth 100000 in
theorem c_fla_broken (l : Launch) (dC : Nat → ClassId) (dI : Nat → Nat → Nat) (f0 hs : Nat) (cH cI cZ : ClassId) (v1 v3 v4 v5 : Value) (n : Nat) (hf : Nat → Option Nat) (L : List FlR) (x : Int32) (hn12 : n ≤ 12) (hLn : L.length = n) (href : fl_ref L hf) (hok : ∀ r, r ∈ L → fl_ok r) : Met l yX3_broken wsX3_broken ({ frames := 2, cells := 0, slots := 0, locals := 44 } : Room) (va_Pc [.ref f0, .int x] (fw_pR (dC, dI) vwCl [(cH, .object RX2), (cI, .int), (cZ, .boolean)] ([(f0, .inr (3, [.ref hs, v1, .int (nI n), v3, v4, v5])), (hs, .inl (cH, 12, .inr (.inr (.inr (.inr (hf))))))] ++ fl_cs cI cZ L))) (vp_Si (fun r => r = fl_bits x L 12)) 0 0 (fun _ => False) := by
  refine fw_metR (cc := cX3_broken) (maxL := 5) (ret := (some .int)) (by decide) rfl (Nat.le_of_ble_eq_true rfl) ?_
  intro zp ze zs zm zbelow zmeth zc ls hx hb hr hts hown hlocks hml hin hN hP hK hl
  have hown : zs.vm.findClass RX3 = some zm.cls := hown
  have hl : lv_has ls 5 [(0, .ref f0), (1, .int x)] := hl
  have hPA := hP
  have hP : va_P (dC, dI) vwCl [(f0, .inr (3, [.ref hs, v1, .int (nI n), v3, v4, v5])), (hs, .inl (cH, 12, .inr (.inr (.inr (.inr (hf))))))] zs.heap := fw_Pm hPA (fun q hq => List.mem_append_left _ hq)
  refine lv_iconst (v := 0) hx hb dX3_broken_0 (by decide) ?_
  refine lv_istore_n (lv' := [(2, .int 0), (0, .ref f0), (1, .int x)]) hx hb dX3_broken_1 rfl hl (by decide) rfl (fun ls hl => ?_)
  refine lv_iconst (v := 0) hx hb dX3_broken_2 (by decide) ?_
  refine lv_istore_n (lv' := [(3, .int 0), (2, .int 0), (0, .ref f0), (1, .int x)]) hx hb dX3_broken_3 rfl hl (by decide) rfl (fun ls hl => ?_)
  refine fw_loopR (σ := Nat) (I := fun zn u ls => match u with | i => zn = 12 - i ∧ (i ≤ 12) ∧ lv_has ls 5 [(0, .ref f0), (1, .int x), (2, .int (fl_bits x L i)), (3, .int (nI i))]) ?_ _ 0 _ ⟨rfl, by omega, lv_sub hl [2, 3, 1, 0] rfl⟩
  intro zn i ls hI ih_4
  obtain ⟨hzn, hi, hl⟩ := hI
  refine lv_iload_n hx hb dX3_broken_4 rfl (lv_at hl 3 rfl) ?_
  refine lv_bipush (v := 12) hx hb dX3_broken_5 (by decide) ?_
  refine lv_icmp_ge (tgt := 51) hx hb dX3_broken_7 (by decide) (fun c_7 => ?_) (fun c_7 => ?_)
  · -- then 7
    have hend : i = 12 := by have := (nI_leI (a := 12) (b := i) (by decide) (by omega)).mp c_7; omega
    subst hend
    refine lv_iload_n hx hb dX3_broken_51 rfl (lv_at hl 2 rfl) ?_
    exact W.iret (v := (fl_bits x L 12)) hx hb hr (fun zt zht _ => ⟨(fl_bits x L 12), rfl, rfl, zht⟩) (fun q h => by cases h) dX3_broken_52 hlocks
  · -- else 7
    have hlt : i < 12 := by
      rcases Nat.lt_or_ge i 12 with q9 | q9
      · exact q9
      · exact absurd (nI_le (a := 12) (b := i) q9 (by omega)) c_7
    cases hLi : L[i]?
    · -- none
      have hno : fv_no n (nI i) := Or.inr (nI_le (a := n) (b := i) (by have := List.getElem?_eq_none_iff.mp hLi; omega) (by omega))
      have hbs : fl_bits x L (i + 1) = fl_bits x L i := by rw [fl_bits, hLi]
      refine lv_aload_n hx hb dX3_broken_10 rfl (lv_at hl 0 rfl) ?_
      refine lv_iload_n hx hb dX3_broken_11 rfl (lv_at hl 3 rfl) ?_
      have hPc := hP.sub (ws' := [(f0, .inr (3, [.ref hs, v1, .int (nI n), v3, v4, v5])), (hs, .inl (cH, 12, .inr (.inr (.inr (.inr (hf))))))]) [0, 1] rfl
      have hKc := hK.sub (tys' := [(cH, .object RX2)]) [0] rfl
      refine va_csq (va_runV (As := [.int (nI i)]) (rest := []) ⟨hx, hb, hml, hown, hts⟩ (c_fla_find_no l dC dI f0 hs cH v1 v3 v4 v5 n hf (nI i) hn12 hno) (cwV 1 hts gX3_broken_X3_find rfl rfl rfl (by decide +kernel) ⟨Nat.le_of_ble_eq_true rfl, Nat.le_of_ble_eq_true rfl⟩) (fw_preVR hN hKc hPc (ci := 3) (q0 := 0) rfl rfl) rfl rfl hl.1 rfl (lv_room (Nat.le_of_ble_eq_true rfl)) dX3_broken_12 ⟨Nat.le_of_ble_eq_true rfl, Nat.le_of_ble_eq_true rfl⟩).run (fun r_12 hr_12 => ?_)
      obtain rfl : r_12 = none := hr_12
      refine W.eq (g2 := F0 zm 15 ls [.null]) rfl ?_
      refine lv_astoreN (lv' := [(4, .null), (0, .ref f0), (1, .int x), (2, .int (fl_bits x L i)), (3, .int (nI i))]) hx hb dX3_broken_15 hl (by decide) rfl (fun ls hl => ?_)
      refine lv_aloadN hx hb dX3_broken_17 (lv_at hl 0 rfl) ?_
      refine lv_ifnullN (tgt := 45) hx hb dX3_broken_19 (by decide) ?_
      refine lv_iinc (v := nI (i + 1)) (lv' := [(3, .int (nI (i + 1))), (4, .null), (0, .ref f0), (1, .int x), (2, .int (fl_bits x L i))]) hx hb dX3_broken_45 hl (k := 4) rfl (nI_1 i) (by decide) rfl (fun ls hl => ?_)
      refine lv_goto (tgt := 4) hx hb dX3_broken_48 (by decide) ?_
      rw [← hbs] at hl
      exact ih_4 _ (i + 1) _ (by omega) ⟨rfl, by omega, lv_sub hl [2, 3, 4, 0] rfl⟩
    · -- some
      rename_i r
      obtain ⟨⟨h0, ea, pa⟩, ⟨s, o⟩, ⟨mk, tm⟩, ⟨je, jf⟩, e, b⟩ := r
      have hok1 := (hok _ (List.mem_of_getElem? hLi)).1
      have hs48 : s ≤ 48 := hok1
      have hin_ : i < n := by have := (List.getElem?_eq_some_iff.mp hLi).1; omega
      have hfi : hf i = some h0 := by rw [href i (by omega), hLi]; rfl
      have hP : va_P (dC, dI) vwCl [(f0, .inr (3, [.ref hs, v1, .int (nI n), v3, v4, v5])), (hs, .inl (cH, 12, .inr (.inr (.inr (.inr (hf)))))), (h0, .inr (2, [.ref ea, .ref pa, .int (nI s), .int (nI o), .int (nI (hv_D e b s s)), .int (nI (hv_N e b s s)), .int (nI (hv_X e b s s)), .int (zI mk), .int (nI tm), .int je, .int (nI jf)])), (ea, .inl (cI, 48, .inl (e))), (pa, .inl (cZ, 48, .inl (fun j => zI (b j))))] zs.heap := fw_Pm hPA (fun q hq => by
        rcases List.mem_append.mp (show q ∈ [(f0, .inr (3, [.ref hs, v1, .int (nI n), v3, v4, v5])), (hs, .inl (cH, 12, .inr (.inr (.inr (.inr (hf))))))] ++ fl_c cI cZ ((h0, ea, pa), (s, o), (mk, tm), (je, jf), e, b) from hq) with h | h
        · exact List.mem_append_left _ h
        · exact List.mem_append_right _ (fl_in hLi q h))
      have hbs : fl_bits x L (i + 1) = if fl_real x ((h0, ea, pa), (s, o), (mk, tm), (je, jf), e, b) = true then fl_bits x L i ||| ((1 : Int32) <<< (nI i &&& 31)) else fl_bits x L i := by rw [fl_bits, hLi]
      refine lv_aload_n hx hb dX3_broken_10 rfl (lv_at hl 0 rfl) ?_
      refine lv_iload_n hx hb dX3_broken_11 rfl (lv_at hl 3 rfl) ?_
      have hPc := hP.sub (ws' := [(f0, .inr (3, [.ref hs, v1, .int (nI n), v3, v4, v5])), (hs, .inl (cH, 12, .inr (.inr (.inr (.inr (hf))))))]) [0, 1] rfl
      have hKc := hK.sub (tys' := [(cH, .object RX2)]) [0] rfl
      refine va_csq (va_runV (As := [.int (nI i)]) (rest := []) ⟨hx, hb, hml, hown, hts⟩ (c_fla_find l dC dI f0 hs cH v1 v3 v4 v5 n hf i h0 hn12 hin_ hfi) (cwV 1 hts gX3_broken_X3_find rfl rfl rfl (by decide +kernel) ⟨Nat.le_of_ble_eq_true rfl, Nat.le_of_ble_eq_true rfl⟩) (fw_preVR hN hKc hPc (ci := 3) (q0 := 0) rfl rfl) rfl rfl hl.1 rfl (lv_room (Nat.le_of_ble_eq_true rfl)) dX3_broken_12 ⟨Nat.le_of_ble_eq_true rfl, Nat.le_of_ble_eq_true rfl⟩).run (fun r_12 hr_12 => ?_)
      obtain rfl : r_12 = some h0 := hr_12
      refine W.eq (g2 := F0 zm 15 ls [.ref h0]) rfl ?_
      refine lv_astore (lv' := [(4, .ref h0), (0, .ref f0), (1, .int x), (2, .int (fl_bits x L i)), (3, .int (nI i))]) hx hb dX3_broken_15 hl (by decide) rfl (fun ls hl => ?_)
      refine lv_aload hx hb dX3_broken_17 (lv_at hl 0 rfl) ?_
      refine lv_ifnull hx hb dX3_broken_19 ?_
      refine lv_aload hx hb dX3_broken_22 (lv_at hl 0 rfl) ?_
      refine va_getN (D := (dC, dI)) (ci := 2) (v := .int (zI mk)) (C := RX2) (T := TX2) (N := 11) hx hb hts (by decide +kernel) hown hK hP 2 rfl rfl 7 (by decide) (va_Nw.use rfl (hN.2.2.2.2.2.1)) (fun _ h9 => h9) rfl dX3_broken_24 ?_
      refine lv_if_ne (tgt := 45) hx hb dX3_broken_27 (by decide) (fun c_27 => ?_) (fun c_27 => ?_)
      · -- then 27
        have h27 := zI_ne0.mp c_27
        refine lv_iinc (v := nI (i + 1)) (lv' := [(3, .int (nI (i + 1))), (4, .ref h0), (0, .ref f0), (1, .int x), (2, .int (fl_bits x L i))]) hx hb dX3_broken_45 hl (k := 4) rfl (nI_1 i) (by decide) rfl (fun ls hl => ?_)
        refine lv_goto (tgt := 4) hx hb dX3_broken_48 (by decide) ?_
        have hre : fl_real x ((h0, ea, pa), (s, o), (mk, tm), (je, jf), e, b) = false := by
          show (!mk && _) = false
          rw [h27]; rfl
        rw [hre, if_neg (by decide)] at hbs
        rw [← hbs] at hl
        exact ih_4 _ (i + 1) _ (by omega) ⟨rfl, by omega, lv_sub hl [2, 3, 4, 0] rfl⟩
      · -- else 27
        have h27 := zI_eq0.mp c_27
        refine lv_aload hx hb dX3_broken_30 (lv_at hl 0 rfl) ?_
        refine lv_iload_n hx hb dX3_broken_32 rfl (lv_at hl 2 rfl) ?_
        have hPc := hP.sub (ws' := [(h0, .inr (2, [.ref ea, .ref pa, .int (nI s), .int (nI o), .int (nI (hv_D e b s s)), .int (nI (hv_N e b s s)), .int (nI (hv_X e b s s)), .int (zI mk), .int (nI tm), .int je, .int (nI jf)])), (ea, .inl (cI, 48, .inl (e))), (pa, .inl (cZ, 48, .inl (fun j => zI (b j))))]) [2, 3, 4] rfl
        have hKc := hK.sub (tys' := [(cI, .int), (cZ, .boolean)]) [1, 2] rfl
        refine vp_callSi (va_runV (As := [.int x]) (rest := []) ⟨hx, hb, hml, hown, hts⟩ (c_his_only l dC dI h0 ea pa cI cZ s (.int (nI o)) (.int (nI (hv_D e b s s))) (.int (nI (hv_N e b s s))) (.int (nI (hv_X e b s s))) (.int (zI mk)) (.int (nI tm)) (.int je) (.int (nI jf)) e b x hs48) (cwV 1 hts gX3_broken_X2_hasOnlyFails rfl rfl rfl (by decide +kernel) ⟨Nat.le_of_ble_eq_true rfl, Nat.le_of_ble_eq_true rfl⟩) (fw_preVR hN hKc hPc (ci := 2) (q0 := 0) rfl rfl) rfl rfl hl.1 rfl (lv_room (Nat.le_of_ble_eq_true rfl)) dX3_broken_33 ⟨Nat.le_of_ble_eq_true rfl, Nat.le_of_ble_eq_true rfl⟩).run (fun r_33 hr_33 => ?_)
        obtain rfl : r_33 = zI (hv_has e b x false s && !hv_has e b x true s) := hr_33
        refine lv_if_eq (tgt := 45) hx hb dX3_broken_36 (by decide) (fun c_36 => ?_) (fun c_36 => ?_)
        · -- then 36
          have h36 := zI_eq0.mp c_36
          refine lv_iinc (v := nI (i + 1)) (lv' := [(3, .int (nI (i + 1))), (4, .ref h0), (0, .ref f0), (1, .int x), (2, .int (fl_bits x L i))]) hx hb dX3_broken_45 hl (k := 4) rfl (nI_1 i) (by decide) rfl (fun ls hl => ?_)
          refine lv_goto (tgt := 4) hx hb dX3_broken_48 (by decide) ?_
          have hre : fl_real x ((h0, ea, pa), (s, o), (mk, tm), (je, jf), e, b) = false := by
            show (!mk && (hv_has e b x false s && !hv_has e b x true s)) = false
            rw [h27, h36]; rfl
          rw [hre, if_neg (by decide)] at hbs
          rw [← hbs] at hl
          exact ih_4 _ (i + 1) _ (by omega) ⟨rfl, by omega, lv_sub hl [2, 3, 4, 0] rfl⟩
        · -- else 36
          have h36 := zI_ne0.mp c_36
          refine lv_iload_n hx hb dX3_broken_39 rfl (lv_at hl 3 rfl) ?_
          refine lv_iconst (v := 1) hx hb dX3_broken_40 (by decide) ?_
          refine lv_iload_n hx hb dX3_broken_41 rfl (lv_at hl 4 rfl) ?_
          refine lv_ishl hx hb dX3_broken_42 ?_
          refine lv_ior hx hb dX3_broken_43 ?_
          refine lv_istore_n (lv' := [(2, .int ((fl_bits x L i) ||| (1 <<< ((nI i) &&& 31)))), (4, .ref h0), (0, .ref f0), (1, .int x), (3, .int (nI i))]) hx hb dX3_broken_44 rfl hl (by decide) rfl (fun ls hl => ?_)
          refine lv_iinc (v := nI (i + 1)) (lv' := [(3, .int (nI (i + 1))), (2, .int ((fl_bits x L i) ||| (1 <<< ((nI i) &&& 31)))), (4, .ref h0), (0, .ref f0), (1, .int x)]) hx hb dX3_broken_45 hl (k := 4) rfl (nI_1 i) (by decide) rfl (fun ls hl => ?_)
          refine lv_goto (tgt := 4) hx hb dX3_broken_48 (by decide) ?_
          have hre : fl_real x ((h0, ea, pa), (s, o), (mk, tm), (je, jf), e, b) = true := by
            show (!mk && (hv_has e b x false s && !hv_has e b x true s)) = true
            rw [h27, h36]; rfl
          rw [hre, if_pos rfl] at hbs
          rw [← hbs] at hl
          exact ih_4 _ (i + 1) _ (by omega) ⟨rfl, by omega, lv_sub hl [3, 4, 1, 0] rfl⟩
end
section
/-! THE REFERENCE'S NUMBERS: 48 places of four digits, the last first -/
def rd_v (d : Nat → Nat) : Nat → Nat
  | 0 => 0
  | i + 1 => rd_v d i + d i * 10000 ^ i
theorem rd_v0 (d : Nat → Nat) : rd_v d 0 = 0 := rfl
theorem rd_vS (d : Nat → Nat) (i : Nat) : rd_v d (i + 1) = rd_v d i + d i * 10000 ^ i := rfl
def rd_ok (d : Nat → Nat) : Prop := ∀ j, j < 48 → d j < 10000
theorem rd_congr {d e : Nat → Nat} (i : Nat) (h : ∀ j, j < i → d j = e j) : rd_v d i = rd_v e i := by
  induction i with
  | zero => rfl
  | succ i ih => rw [rd_vS, rd_vS, ih (fun j hj => h j (by omega)), h i (by omega)]
theorem rd_lt {d : Nat → Nat} (i : Nat) (h : ∀ j, j < i → d j < 10000) : rd_v d i < 10000 ^ i := by
  induction i with
  | zero => rw [rd_v0, Nat.pow_zero]; omega
  | succ i ih =>
    have h1 := ih (fun j hj => h j (by omega))
    have h2 : d i + 1 ≤ 10000 := h i (by omega)
    have h3 := Nat.mul_le_mul_right (10000 ^ i) h2
    rw [rd_vS, Nat.pow_succ, Nat.mul_comm (10000 ^ i)]
    rw [Nat.add_mul, Nat.one_mul] at h3
    omega
theorem rd_up (d : Nat → Nat) (i x : Nat) : rd_v (va_up d i x) i = rd_v d i := rd_congr i (fun j hj => va_up_ne d x (by omega))
theorem rd_upS (d : Nat → Nat) (i x : Nat) : rd_v (va_up d i x) (i + 1) = rd_v d i + x * 10000 ^ i := by rw [rd_vS, rd_up, va_up_self]
theorem rd_0 (d : Nat → Nat) (i : Nat) (h : ∀ j, j < i → d j = 0) : rd_v d i = 0 := by
  induction i with
  | zero => rfl
  | succ i ih => rw [rd_vS, ih (fun j hj => h j (by omega)), h i (by omega), Nat.zero_mul]
theorem rd_mul {d d2 : Nat → Nat} {i f k : Nat} (hv : rd_v d2 i + k * 10000 ^ i = f * rd_v d i) : rd_v (va_up d2 i ((d i * f + k) % 10000)) (i + 1) + (d i * f + k) / 10000 * 10000 ^ (i + 1) = f * rd_v d (i + 1) := by
  rw [rd_upS, rd_vS, Nat.pow_succ]
  generalize 10000 ^ i = P at hv ⊢
  have e1 := Nat.mod_add_div (d i * f + k) 10000
  generalize (d i * f + k) % 10000 = r at e1 ⊢
  generalize (d i * f + k) / 10000 = q at e1 ⊢
  have e2 : r * P + q * (P * 10000) = (d i * f + k) * P := by
    rw [← e1, Nat.add_mul]
    simp only [Nat.mul_assoc, Nat.mul_comm, Nat.mul_left_comm]
  have e3 : f * (rd_v d i + d i * P) = f * rd_v d i + d i * f * P := by
    rw [Nat.mul_add]
    simp only [Nat.mul_assoc, Nat.mul_comm, Nat.mul_left_comm]
  rw [e3, ← hv]
  rw [Nat.add_mul] at e2
  omega
theorem rd_add {d d2 e : Nat → Nat} {i k : Nat} (hv : rd_v d2 i + k * 10000 ^ i = rd_v d i + rd_v e i) : rd_v (va_up d2 i ((d i + e i + k) % 10000)) (i + 1) + (d i + e i + k) / 10000 * 10000 ^ (i + 1) = rd_v d (i + 1) + rd_v e (i + 1) := by
  rw [rd_upS, rd_vS, rd_vS, Nat.pow_succ]
  generalize 10000 ^ i = P at hv ⊢
  have e1 := Nat.mod_add_div (d i + e i + k) 10000
  generalize (d i + e i + k) % 10000 = r at e1 ⊢
  generalize (d i + e i + k) / 10000 = q at e1 ⊢
  have e2 : r * P + q * (P * 10000) = (d i + e i + k) * P := by
    rw [← e1, Nat.add_mul]
    simp only [Nat.mul_assoc, Nat.mul_comm, Nat.mul_left_comm]
  simp only [Nat.add_mul] at e2
  omega
theorem rd_mulI {d d2 : Nat → Nat} {i f k : Nat} (hi : i < 48) (hd : rd_ok d) (hk : ∀ j, i ≤ j → d2 j = d j) (hlo : ∀ j, j < i → d2 j < 10000) (hv : rd_v d2 i + k * 10000 ^ i = f * rd_v d i) (hc : k ≤ f) :
    (∀ j, i + 1 ≤ j → va_up d2 i ((d i * f + k) % 10000) j = d j) ∧ (∀ j, j < i + 1 → va_up d2 i ((d i * f + k) % 10000) j < 10000) ∧ rd_v (va_up d2 i ((d i * f + k) % 10000)) (i + 1) + (d i * f + k) / 10000 * 10000 ^ (i + 1) = f * rd_v d (i + 1) ∧ (d i * f + k) / 10000 ≤ f := by
  refine ⟨fun j hj => by rw [va_up_ne _ _ (by omega)]; exact hk j (by omega), fun j hj => ?_, rd_mul hv, ?_⟩
  · by_cases h : j = i
    · rw [h, va_up_self]
      exact Nat.mod_lt _ (by decide)
    · rw [va_up_ne _ _ h]
      exact hlo j (by omega)
  · have h1 : d i + 1 ≤ 10000 := hd i hi
    have h2 := Nat.mul_le_mul_right f h1
    rw [Nat.add_mul, Nat.one_mul] at h2
    exact Nat.div_le_of_le_mul (by omega)
theorem rd_mulB {d : Nat → Nat} {i f k : Nat} (hi : i < 48) (hd : rd_ok d) (hf : f ≤ 300000000000000) (hc : k ≤ f) : d i * f + k < 2 ^ 63 := by
  have h1 := Nat.mul_le_mul (Nat.le_of_lt (hd i hi)) hf
  omega
theorem rd_addI {d d2 e : Nat → Nat} {i k : Nat} (hi : i < 48) (hd : rd_ok d) (he : rd_ok e) (hk : ∀ j, i ≤ j → d2 j = d j) (hlo : ∀ j, j < i → d2 j < 10000) (hv : rd_v d2 i + k * 10000 ^ i = rd_v d i + rd_v e i) (hc : k ≤ 1) :
    (∀ j, i + 1 ≤ j → va_up d2 i ((d i + e i + k) % 10000) j = d j) ∧ (∀ j, j < i + 1 → va_up d2 i ((d i + e i + k) % 10000) j < 10000) ∧ rd_v (va_up d2 i ((d i + e i + k) % 10000)) (i + 1) + (d i + e i + k) / 10000 * 10000 ^ (i + 1) = rd_v d (i + 1) + rd_v e (i + 1) ∧ (d i + e i + k) / 10000 ≤ 1 := by
  refine ⟨fun j hj => by rw [va_up_ne _ _ (by omega)]; exact hk j (by omega), fun j hj => ?_, rd_add hv, ?_⟩
  · by_cases h : j = i
    · rw [h, va_up_self]
      exact Nat.mod_lt _ (by decide)
    · rw [va_up_ne _ _ h]
      exact hlo j (by omega)
  · have h1 := hd i hi
    have h2 := he i hi
    omega
theorem rd_top {a b k : Nat} (h : a + k * 10000 ^ 48 = b) (hb : b < 10000 ^ 48) : a = b := by
  rcases Nat.eq_zero_or_pos k with q | q
  · rw [q] at h
    omega
  · have h2 := Nat.mul_le_mul_right (10000 ^ 48) q
    rw [h.symm] at hb
    rw [Nat.one_mul] at h2
    exact absurd (Nat.lt_of_lt_of_le hb (Nat.le_trans h2 (Nat.le_add_left _ _))) (Nat.lt_irrefl _)
theorem rd_one (x : Nat) : rd_v (va_up (fun _ => 0) 0 x) 48 = x := by
  have h : ∀ r, rd_v (va_up (fun _ => 0) 0 x) (r + 1) = x := by
    intro r
    induction r with
    | zero => rw [rd_upS, rd_v0, Nat.pow_zero, Nat.mul_one, Nat.zero_add]
    | succ r ih => rw [rd_vS, ih, va_up_ne _ _ (by omega), Nat.zero_mul, Nat.add_zero]
  exact h 47
/-- which is greater is seen at the first place from the top where they differ -/
theorem rd_cmp {a b : Nat → Nat} (i : Nat) (ha : ∀ j, j < i → a j < 10000) (hb : ∀ j, j < i → b j < 10000) : ∀ d, (∀ j, i < j → j < i + 1 + d → a j = b j) → (a i ≠ b i ∨ i = 0) → (rd_v b (i + 1 + d) < rd_v a (i + 1 + d) ↔ b i < a i) := by
  intro d
  induction d with
  | zero =>
    intro _ h
    show rd_v b (i + 1) < rd_v a (i + 1) ↔ _
    rw [rd_vS, rd_vS]
    have h1 := rd_lt i ha
    have h2 := rd_lt i hb
    rcases Nat.lt_trichotomy (a i) (b i) with q | q | q
    · have h3 := Nat.mul_le_mul_right (10000 ^ i) (show a i + 1 ≤ b i from q)
      rw [Nat.add_mul, Nat.one_mul] at h3
      constructor <;> intro _ <;> omega
    · rcases h with h | h
      · exact absurd q h
      · subst h
        rw [rd_v0, rd_v0, q]
        constructor <;> intro _ <;> omega
    · have h3 := Nat.mul_le_mul_right (10000 ^ i) (show b i + 1 ≤ a i from q)
      rw [Nat.add_mul, Nat.one_mul] at h3
      constructor <;> intro _ <;> omega
  | succ d ih =>
    intro he h
    have h1 := ih (fun j h1 h2 => he j h1 (by omega)) h
    rw [show i + 1 + (d + 1) = (i + 1 + d) + 1 by omega, rd_vS, rd_vS, he (i + 1 + d) (by omega) (by omega)]
    rw [← h1]
    omega
theorem ch_abs (m k : Nat) : (k + 1) * pm_ch (m + 1) (k + 1) = (m + 1) * pm_ch m k := by
  have h := pm_ch_mul m k
  rw [pm_chS]
  simp only [Nat.mul_add, Nat.add_mul, Nat.one_mul] at h ⊢
  omega
theorem ch_le (n : Nat) : ∀ k, pm_ch n k ≤ 2 ^ n := by
  induction n with
  | zero =>
    intro k
    cases k with
    | zero => rw [pm_ch0]; exact Nat.le_refl 1
    | succ k => rw [pm_ch00]; exact Nat.zero_le _
  | succ n ih =>
    intro k
    cases k with
    | zero => rw [pm_ch0]; exact Nat.pow_pos (by decide)
    | succ k =>
      have h1 := ih k
      have h2 := ih (k + 1)
      rw [pm_chS, Nat.pow_succ]
      omega
/-- one summand, and sums of k of them from a on -/
def pm_T (n j i : Nat) : Nat := pm_ch n i * (j ^ i * (1000 - j) ^ (n - i))
def pm_R (n j a : Nat) : Nat → Nat
  | 0 => 0
  | k + 1 => pm_R n j a k + pm_T n j (a + k)
theorem pm_R0 (n j a : Nat) : pm_R n j a 0 = 0 := rfl
theorem pm_RS (n j a k : Nat) : pm_R n j a (k + 1) = pm_R n j a k + pm_T n j (a + k) := rfl
theorem pm_R_G (n j k : Nat) : pm_R n j 0 (k + 1) = pm_G n j n k := by
  induction k with
  | zero =>
    rw [pm_RS, pm_R0, pm_G0]
    unfold pm_T
    rw [Nat.add_zero, pm_ch0, Nat.pow_zero, Nat.one_mul, Nat.one_mul, Nat.sub_zero, Nat.zero_add]
  | succ k ih =>
    rw [pm_RS, ih, pm_GS]
    unfold pm_T
    rw [Nat.zero_add, Nat.mul_assoc]
theorem pm_R_cat (n j a k d : Nat) : pm_R n j a (k + d) = pm_R n j a k + pm_R n j (a + k) d := by
  induction d with
  | zero => rfl
  | succ d ih => rw [← Nat.add_assoc, pm_RS, ih, pm_RS, Nat.add_assoc, Nat.add_assoc a]
theorem pm_R_le {n j a k : Nat} (hj : j ≤ 1000) : pm_R n j a k ≤ 1000 ^ n := by
  have h1 := pm_R_cat n j 0 a k
  rw [Nat.zero_add] at h1
  cases hm : a + k with
  | zero =>
    obtain rfl : k = 0 := by omega
    exact Nat.zero_le _
  | succ m =>
    rw [hm, pm_R_G] at h1
    have h2 := pm_P_le n m j hj
    omega
theorem pm_T_le {n j i : Nat} (hj : j ≤ 1000) : pm_T n j i ≤ 1000 ^ n := by
  have h1 := pm_R_le (n := n) (a := i) (k := 1) hj
  rw [pm_RS, pm_R0] at h1
  simpa using h1
theorem pm_compl (n h : Nat) (hh : h ≤ 1000) : ∀ a b, a + b + 1 = n → pm_G n h n a + pm_G n (1000 - h) n b = 1000 ^ n := by
  induction n with
  | zero => intro a b q; omega
  | succ n ih =>
    intro a b q
    cases a with
    | zero =>
      obtain rfl : b = n := by omega
      exact pm_compl0 b h hh
    | succ a =>
      cases b with
      | zero =>
        obtain rfl : n = a + 1 := by omega
        have h1 := pm_compl0 (a + 1) (1000 - h) (by omega)
        rw [show 1000 - (1000 - h) = h by omega] at h1
        omega
      | succ b =>
        have h1 := ih a (b + 1) (by omega)
        have h2 := ih (a + 1) b (by omega)
        rw [pm_G_pn, pm_G_pn, show 1000 - (1000 - h) = h by omega, Nat.pow_succ]
        generalize 1000 ^ n = T at h1 h2 ⊢
        generalize pm_G n h n a = p0 at h1 ⊢
        generalize pm_G n h n (a + 1) = p1 at h2 ⊢
        generalize pm_G n (1000 - h) n b = q0 at h2 ⊢
        generalize pm_G n (1000 - h) n (b + 1) = q1 at h1 ⊢
        have e1 : h * p0 + h * q1 = h * T := by rw [← Nat.mul_add, h1]
        have e2 : (1000 - h) * p1 + (1000 - h) * q0 = (1000 - h) * T := by rw [← Nat.mul_add, h2]
        have e3 : h * T + (1000 - h) * T = 1000 * T := by rw [← Nat.add_mul, show h + (1000 - h) = 1000 by omega]
        omega
/-- AT LEAST: the sum from x on is the sum seen from the misses -/
theorem pm_least {n x h : Nat} (hx : x ≤ n) (hh : h ≤ 1000) : pm_R n h x (n - x + 1) = pm_G n (1000 - h) n (n - x) := by
  have h1 := pm_R_cat n h 0 x (n - x + 1)
  rw [Nat.zero_add, show x + (n - x + 1) = n + 1 by omega, pm_R_G, pm_P_full n h hh] at h1
  cases x with
  | zero =>
    rw [pm_R0] at h1
    rw [Nat.sub_zero, pm_P_full n (1000 - h) (by omega)]
    rw [Nat.sub_zero] at h1
    omega
  | succ x =>
    rw [pm_R_G] at h1
    have h2 := pm_compl n h hh x (n - (x + 1)) (by omega)
    omega
theorem rd_set {d : Nat → Nat} {v : Nat} (hz : ∀ j, j < 48 → d j = 0) (hv : v < 10000) : rd_ok (va_up d 0 v) ∧ rd_v (va_up d 0 v) 48 = v := by
  refine ⟨fun j hj => ?_, ?_⟩
  · by_cases h : j = 0
    · rw [h, va_up_self]
      exact hv
    · rw [va_up_ne _ _ h, hz j hj]
      decide
  · rw [rd_congr (e := va_up (fun _ => 0) 0 v) 48 (fun j hj => ?_), rd_one]
    by_cases h : j = 0
    · rw [h, va_up_self, va_up_self]
    · rw [va_up_ne _ _ h, va_up_ne _ _ h, hz j hj]
theorem ch_step {n i q v : Nat} (hv : v = pm_ch (n - i + q) q) : v * (n - i + (q + 1)) / (q + 1) = pm_ch (n - i + (q + 1)) (q + 1) := by
  have h := ch_abs (n - i + q) q
  rw [hv, Nat.mul_comm, show n - i + (q + 1) = n - i + q + 1 by omega, ← h, Nat.mul_comm, Nat.mul_div_cancel _ (Nat.succ_pos q)]
theorem ch_bd {n i q v : Nat} (hv : v = pm_ch (n - i + q) q) (hn : n ≤ 48) (hi : i ≤ n) (hq : q + 1 ≤ i) : v * (n - i + (q + 1)) < 2 ^ 63 := by
  have h1 := ch_le (n - i + q) q
  rw [← hv] at h1
  have h2 : 2 ^ (n - i + q) ≤ 2 ^ 48 := Nat.pow_le_pow_right (by decide) (by omega)
  have h3 := Nat.mul_le_mul (Nat.le_trans h1 h2) (show n - i + (q + 1) ≤ 48 by omega)
  exact Nat.lt_of_le_of_lt h3 (by decide +kernel)
theorem ch_le3 {n i : Nat} (hn : n ≤ 48) : pm_ch n i ≤ 300000000000000 :=
  Nat.le_trans (ch_le n i) (Nat.le_trans (Nat.pow_le_pow_right (by decide) hn) (by decide +kernel))
/-- a power's next factor: i times j, then 1000 - j -/
def rp_v (j i k : Nat) : Nat := j ^ (min k i) * (1000 - j) ^ (k - min k i)
theorem rp_0 (j i : Nat) : rp_v j i 0 = 1 := by
  unfold rp_v
  rw [Nat.zero_min, Nat.pow_zero, Nat.sub_zero, Nat.pow_zero]
theorem rp_lo {j i k : Nat} (h : k < i) : rp_v j i (k + 1) = j * rp_v j i k := by
  unfold rp_v
  rw [Nat.min_eq_left (by omega), Nat.min_eq_left (by omega), Nat.sub_self, Nat.sub_self, Nat.pow_succ, Nat.pow_zero, Nat.mul_one, Nat.mul_one, Nat.mul_comm]
theorem rp_hi {j i k : Nat} (h : i ≤ k) : rp_v j i (k + 1) = (1000 - j) * rp_v j i k := by
  unfold rp_v
  rw [Nat.min_eq_right (by omega), Nat.min_eq_right (by omega), show k + 1 - i = (k - i) + 1 by omega, Nat.pow_succ]
  simp only [Nat.mul_assoc, Nat.mul_comm, Nat.mul_left_comm]
theorem rp_le {j i k : Nat} (hj : j ≤ 1000) : rp_v j i k ≤ 1000 ^ k := by
  unfold rp_v
  have h1 := Nat.mul_le_mul (Nat.pow_le_pow_left hj (min k i)) (Nat.pow_le_pow_left (show 1000 - j ≤ 1000 by omega) (k - min k i))
  rw [← Nat.pow_add, show min k i + (k - min k i) = k by omega] at h1
  exact h1
theorem rp_T {n j i : Nat} (hi : i ≤ n) : pm_ch n i * rp_v j i n = pm_T n j i := by
  unfold rp_v pm_T
  rw [Nat.min_eq_right hi]
theorem rb_1 {f v k : Nat} (hf : f ≤ 1000) (hv : v ≤ 1000 ^ k) (hk : k ≤ 49) : f * v < 10000 ^ 48 := by
  have h1 := Nat.mul_le_mul hf (Nat.le_trans hv (Nat.pow_le_pow_right (by decide) hk))
  exact Nat.lt_of_le_of_lt h1 (by decide +kernel)
theorem rb_2 {v n : Nat} (hv : v ≤ 1000 ^ n) (hn : n ≤ 48) : v < 10000 ^ 48 :=
  Nat.lt_of_le_of_lt (Nat.le_trans hv (Nat.pow_le_pow_right (by decide) hn)) (by decide +kernel)
/-- the reference's runs of a test: editions and outcomes, by their places -/
def re_e (rn : Nat → Nat) (t : Nat) : Nat → Int32 := fun k => nI (rn (48 * t + k) / 2)
def re_b (rn : Nat → Nat) (t : Nat) : Nat → Bool := fun k => decide (rn (48 * t + k) % 2 = 1)
theorem hv_has_self {e : Nat → Int32} {b : Nat → Bool} {k s : Nat} (hk : k < s) : hv_has e b (e k) (b k) s = true := hv_has_hit hk rfl rfl
/-- whether a run isn't at a bad edition -/
theorem hv_bad {e : Nat → Int32} {b : Nat → Bool} {k s : Nat} (hk : k < s) : (!(hv_has e b (e k) false s && !hv_has e b (e k) true s)) = (b k || hv_con e b s k) := by
  have h := hv_has_self (e := e) (b := b) hk
  unfold hv_con
  cases hb : b k with
  | false =>
    rw [hb] at h
    rw [h]
    simp
  | true =>
    rw [hb] at h
    rw [h]
    simp
end
section
set_option maxHeartbeats 4000000 in
set_option maxRecDepth 100000 in
theorem c_ref_isEdition (l : Launch) (dC : Nat → ClassId) (dI : Nat → Nat → Nat) (x : Int32)  : Met l yX4_isEdition wsX4_isEdition ({ frames := 0, cells := 0, slots := 0, locals := 0 } : Room) (va_Pc [.int x] (fw_pR (dC, dI) vwCl [] [])) (vp_Si (fun r => r = zI (fv_ed x))) 0 0 (fun _ => False) := by
  refine fw_metR (cc := cX4_isEdition) (maxL := 1) (ret := (some .boolean)) (by decide) rfl (Nat.le_of_ble_eq_true rfl) ?_
  intro zp ze zs zm zbelow zmeth zc ls hx hb hr hts hown hlocks hml hin hN hP hK hl
  have hown : zs.vm.findClass RX4 = some zm.cls := hown
  have hl : lv_has ls 1 [(0, .int x)] := hl
  refine lv_iload_n hx hb dX4_isEdition_0 rfl (lv_at hl 0 rfl) ?_
  refine lv_if_lt (tgt := 15) hx hb dX4_isEdition_1 (by decide) (fun c_1 => ?_) (fun c_1 => ?_)
  · -- then 1
    refine lv_iconst (v := 0) hx hb dX4_isEdition_15 (by decide) ?_
    exact W.zret (v := 0) (ty := .boolean) hx hb hr rfl (fun zt zht _ => ⟨0, rfl, by unfold fv_ed; rw [decide_eq_true c_1]; rfl, zht⟩) (fun q h => by cases h) dX4_isEdition_16 hlocks
  · -- else 1
    refine lv_iload_n hx hb dX4_isEdition_4 rfl (lv_at hl 0 rfl) ?_
    refine lv_sipush (v := 1000) hx hb dX4_isEdition_5 (by decide) ?_
    refine lv_icmp_ge (tgt := 15) hx hb dX4_isEdition_8 (by decide) (fun c_8 => ?_) (fun c_8 => ?_)
    · -- then 8
      refine lv_iconst (v := 0) hx hb dX4_isEdition_15 (by decide) ?_
      exact W.zret (v := 0) (ty := .boolean) hx hb hr rfl (fun zt zht _ => ⟨0, rfl, by unfold fv_ed; rw [decide_eq_false c_1, decide_eq_true c_8]; rfl, zht⟩) (fun q h => by cases h) dX4_isEdition_16 hlocks
    · -- else 8
      refine lv_iconst (v := 1) hx hb dX4_isEdition_11 (by decide) ?_
      refine lv_goto (tgt := 16) hx hb dX4_isEdition_12 (by decide) ?_
      exact W.zret (v := 1) (ty := .boolean) hx hb hr rfl (fun zt zht _ => ⟨1, rfl, by unfold fv_ed; rw [decide_eq_false c_1, decide_eq_false c_8]; rfl, zht⟩) (fun q h => by cases h) dX4_isEdition_16 hlocks
set_option maxHeartbeats 4000000 in
set_option maxRecDepth 100000 in
theorem c_ref_set (l : Launch) (dC : Nat → ClassId) (dI : Nat → Nat → Nat) (a0 : Nat) (cJ : ClassId) (d : Nat → Nat) (v : Nat) (sz : Nat) (hv : v < 10000) : Met l yX4_set wsX4_set ({ frames := 0, cells := 0, slots := 0, locals := 0 } : Room) (va_Pc [.ref a0, .long (lN v)] (fw_pW (dC, dI) vwCl [(cJ, .long)] [(a0, .inl (cJ, 48, .inr (.inl (fun j => lN (d j)))))] sz)) (va_Qv (S := Nat → Nat) (fun d2 => rd_ok d2 ∧ rd_v d2 48 = v) (fun u t => fw_q (dC, dI) vwCl [(cJ, .long)] (va_A [(a0, .inl (cJ, 48, .inr (.inl (fun j => lN (d j)))))] sz) [(a0, .inl (cJ, 48, .inr (.inl (fun j => lN (u j)))))] t) (va_A [(a0, .inl (cJ, 48, .inr (.inl (fun j => lN (d j)))))] sz)) 0 0 (va_A [(a0, .inl (cJ, 48, .inr (.inl (fun j => lN (d j)))))] sz) := by
  refine fw_metW (cc := cX4_set) (maxL := 4) (ret := none) (by decide) rfl (Nat.le_of_ble_eq_true rfl) ?_
  intro zp ze zs zm zbelow zmeth zc ls hx hb hr hts hown hlocks hml hin hN hsz hP hK hD hA hS hl
  generalize hAe : (va_A [(a0, .inl (cJ, 48, .inr (.inl (fun j => lN (d j)))))] sz) = A at hD hA hS ⊢
  have hown : zs.vm.findClass RX4 = some zm.cls := hown
  have hl : lv_has ls 4 [(0, .ref a0), (1, .long (lN v))] := hl
  refine lv_iconst (v := 0) hx hb dX4_set_0 (by decide) ?_
  refine lv_istore_n (lv' := [(3, .int 0), (0, .ref a0), (1, .long (lN v))]) hx hb dX4_set_1 rfl hl (by decide) rfl (fun ls hl => ?_)
  refine fw_loop (σ := Nat × (Nat → Nat)) (I := fun zn u H locs ls => match u with | (i, d2) => zn = 48 - i ∧ (i ≤ 48) ∧ (∀ j, j < i → d2 j = 0) ∧ va_P (dC, dI) vwCl [(a0, .inl (cJ, 48, .inr (.inl (fun j => lN (d2 j)))))] H ∧ va_D A [(a0, .inl (cJ, 48, .inr (.inl (fun j => lN (d2 j)))))] ∧ va_S A zs.heap H locs ∧ lv_has ls 4 [(0, .ref a0), (1, .long (lN v)), (3, .int (nI i))]) ?_ _ (0, d) _ _ _ ⟨rfl, by omega, fun j hj => by omega, hP.sub [0] rfl, hD.sub [0] (by decide) rfl, hS, lv_sub hl [1, 2, 0] rfl⟩
  intro zn u H locs ls hI ih_2
  obtain ⟨i, d2⟩ := u
  obtain ⟨hzn, hi, hz, hP, hD, hS, hl⟩ := hI
  refine lv_iload_n hx hb dX4_set_2 rfl (lv_at hl 2 rfl) ?_
  refine lv_bipush (v := 48) hx hb dX4_set_3 (by decide) ?_
  refine lv_icmp_ge (tgt := 18) hx hb dX4_set_5 (by decide) (fun c_5 => ?_) (fun c_5 => ?_)
  · -- then 5
    have hend : i = 48 := by have := (nI_leI (a := 48) (b := i) (by omega) (by omega)).mp c_5; omega
    subst hend
    refine lv_aload_n hx hb dX4_set_18 rfl (lv_at hl 0 rfl) ?_
    refine lv_iconst (v := 0) hx hb dX4_set_19 (by decide) ?_
    refine lv_lload_n hx hb dX4_set_20 rfl (lv_at hl 1 rfl) ?_
    refine va_last hx hb hK hP hD hS 0 0 rfl rfl (vp_in_nI (n := 0) (by decide) (by decide)) dX4_set_21 (fun H locs hP hD hS => ?_)
    have e_st : vp_updL (fun j => lN (d2 j)) (0 : Int32).toNatClampNeg (lN v) = fun j => lN (va_up d2 0 v j) := by rw [show (0 : Int32).toNatClampNeg = 0 by decide]; exact lN_st d2 0 v
    rw [e_st] at hP hD
    have hP : va_P (dC, dI) vwCl [(a0, .inl (cJ, 48, .inr (.inl (fun j => lN (va_up d2 0 v j)))))] H := hP
    have hD : va_D A [(a0, .inl (cJ, 48, .inr (.inl (fun j => lN (va_up d2 0 v j)))))] := hD
    have hP9 := hP.sub (ws' := [(a0, .inl (cJ, 48, .inr (.inl (fun j => lN ((va_up d2 0 v) j)))))]) [0] rfl
    have hD9 := hD.sub (ws' := [(a0, .inl (cJ, 48, .inr (.inl (fun j => lN ((va_up d2 0 v) j)))))]) [0] (by decide) rfl
    have hK9 := hK.sub (tys' := [(cJ, .long)]) [0] rfl
    exact W.vret hx hb hr (fun zt zht hW => ⟨⟨va_up d2 0 v, rfl, rd_set hz hv, by rw [zht]; exact hP9, va_K.moved hW.alike hK9, hD9⟩, hS.F zht⟩) hS.2.2 dX4_set_22 hlocks
  · -- else 5
    have hlt : i < 48 := by
      rcases Nat.lt_or_ge i 48 with q9 | q9
      · exact q9
      · exact absurd (nI_le (a := 48) (b := i) q9 (by omega)) c_5
    refine lv_aload_n hx hb dX4_set_8 rfl (lv_at hl 0 rfl) ?_
    refine lv_iload_n hx hb dX4_set_9 rfl (lv_at hl 2 rfl) ?_
    refine lv_lconst (v := 0) hx hb dX4_set_10 (by decide) ?_
    refine va_last hx hb hK hP hD hS 0 0 rfl rfl (vp_in_nI (by omega) (by decide)) dX4_set_11 (fun H locs hP hD hS => ?_)
    have e_st : vp_updL (fun j => lN (d2 j)) (nI i).toNatClampNeg 0 = fun j => lN (va_up d2 i 0 j) := by rw [nI_clamp (by omega)]; exact lN_st d2 i 0
    rw [e_st] at hP hD
    have hP : va_P (dC, dI) vwCl [(a0, .inl (cJ, 48, .inr (.inl (fun j => lN (va_up d2 i 0 j)))))] H := hP
    have hD : va_D A [(a0, .inl (cJ, 48, .inr (.inl (fun j => lN (va_up d2 i 0 j)))))] := hD
    refine lv_iinc (v := nI (i + 1)) (lv' := [(3, .int (nI (i + 1))), (0, .ref a0), (1, .long (lN v))]) hx hb dX4_set_12 hl (k := 2) rfl (nI_1 i) (by decide) rfl (fun ls hl => ?_)
    refine lv_goto (tgt := 2) hx hb dX4_set_15 (by decide) ?_
    have hz2 : ∀ j, j < i + 1 → va_up d2 i 0 j = 0 := by
      intro j hj
      by_cases h : j = i
      · rw [h, va_up_self]
      · rw [va_up_ne _ _ h]; exact hz j (by omega)
    exact ih_2 _ (i + 1, va_up d2 i 0) _ _ _ (by omega) ⟨rfl, by omega, hz2, hP.sub [0] rfl, hD.sub [0] (by decide) rfl, hS, lv_sub hl [1, 2, 0] rfl⟩
set_option maxHeartbeats 4000000 in
set_option maxRecDepth 100000 in
theorem c_ref_times (l : Launch) (dC : Nat → ClassId) (dI : Nat → Nat → Nat) (a0 : Nat) (cJ : ClassId) (d : Nat → Nat) (f : Nat) (sz : Nat) (hd : rd_ok d) (hf : f ≤ 300000000000000) (hm : f * rd_v d 48 < 10000 ^ 48) : Met l yX4_times wsX4_times ({ frames := 0, cells := 0, slots := 0, locals := 0 } : Room) (va_Pc [.ref a0, .long (lN f)] (fw_pW (dC, dI) vwCl [(cJ, .long)] [(a0, .inl (cJ, 48, .inr (.inl (fun j => lN (d j)))))] sz)) (va_Qv (S := Nat → Nat) (fun d2 => rd_ok d2 ∧ rd_v d2 48 = f * rd_v d 48) (fun u t => fw_q (dC, dI) vwCl [(cJ, .long)] (va_A [(a0, .inl (cJ, 48, .inr (.inl (fun j => lN (d j)))))] sz) [(a0, .inl (cJ, 48, .inr (.inl (fun j => lN (u j)))))] t) (va_A [(a0, .inl (cJ, 48, .inr (.inl (fun j => lN (d j)))))] sz)) 0 0 (va_A [(a0, .inl (cJ, 48, .inr (.inl (fun j => lN (d j)))))] sz) := by
  refine fw_metW (cc := cX4_times) (maxL := 8) (ret := none) (by decide) rfl (Nat.le_of_ble_eq_true rfl) ?_
  intro zp ze zs zm zbelow zmeth zc ls hx hb hr hts hown hlocks hml hin hN hsz hP hK hD hA hS hl
  generalize hAe : (va_A [(a0, .inl (cJ, 48, .inr (.inl (fun j => lN (d j)))))] sz) = A at hD hA hS ⊢
  have hown : zs.vm.findClass RX4 = some zm.cls := hown
  have hl : lv_has ls 8 [(0, .ref a0), (1, .long (lN f))] := hl
  refine lv_lconst (v := 0) hx hb dX4_times_0 (by decide) ?_
  refine lv_lstore_n (lv' := [(3, .long 0), (0, .ref a0), (1, .long (lN f))]) hx hb dX4_times_1 rfl hl (by decide) rfl (fun ls hl => ?_)
  refine lv_iconst (v := 0) hx hb dX4_times_2 (by decide) ?_
  refine lv_istore (lv' := [(5, .int 0), (3, .long 0), (0, .ref a0), (1, .long (lN f))]) hx hb dX4_times_3 hl (by decide) rfl (fun ls hl => ?_)
  refine fw_loop (σ := Nat × Nat × (Nat → Nat)) (I := fun zn u H locs ls => match u with | (i, k, d2) => zn = 48 - i ∧ (i ≤ 48) ∧ (∀ j, i ≤ j → d2 j = d j) ∧ (∀ j, j < i → d2 j < 10000) ∧ (rd_v d2 i + k * 10000 ^ i = f * rd_v d i) ∧ (k ≤ f) ∧ va_P (dC, dI) vwCl [(a0, .inl (cJ, 48, .inr (.inl (fun j => lN (d2 j)))))] H ∧ va_D A [(a0, .inl (cJ, 48, .inr (.inl (fun j => lN (d2 j)))))] ∧ va_S A zs.heap H locs ∧ lv_has ls 8 [(0, .ref a0), (1, .long (lN f)), (3, .long (lN k)), (5, .int (nI i))]) ?_ _ (0, 0, d) _ _ _ ⟨rfl, by omega, fun _ _ => rfl, fun j hj => by omega, by simp [rd_v0], by omega, hP.sub [0] rfl, hD.sub [0] (by decide) rfl, hS, lv_sub hl [2, 3, 1, 0] rfl⟩
  intro zn u H locs ls hI ih_5
  obtain ⟨i, k, d2⟩ := u
  obtain ⟨hzn, hi, hk, hlo, hv, hc, hP, hD, hS, hl⟩ := hI
  refine lv_iload hx hb dX4_times_5 (lv_at hl 3 rfl) ?_
  refine lv_bipush (v := 48) hx hb dX4_times_7 (by decide) ?_
  refine lv_icmp_ge (tgt := 45) hx hb dX4_times_9 (by decide) (fun c_9 => ?_) (fun c_9 => ?_)
  · -- then 9
    have hend : i = 48 := by have := (nI_leI (a := 48) (b := i) (by omega) (by omega)).mp c_9; omega
    subst hend
    have hP9 := hP.sub (ws' := [(a0, .inl (cJ, 48, .inr (.inl (fun j => lN (d2 j)))))]) [0] rfl
    have hD9 := hD.sub (ws' := [(a0, .inl (cJ, 48, .inr (.inl (fun j => lN (d2 j)))))]) [0] (by decide) rfl
    have hK9 := hK.sub (tys' := [(cJ, .long)]) [0] rfl
    exact W.vret hx hb hr (fun zt zht hW => ⟨⟨d2, rfl, ⟨fun j hj => hlo j hj, rd_top hv hm⟩, by rw [zht]; exact hP9, va_K.moved hW.alike hK9, hD9⟩, hS.F zht⟩) hS.2.2 dX4_times_45 hlocks
  · -- else 9
    have hlt : i < 48 := by
      rcases Nat.lt_or_ge i 48 with q9 | q9
      · exact q9
      · exact absurd (nI_le (a := 48) (b := i) q9 (by omega)) c_9
    have hbd : d i * f + k < 2 ^ 63 := rd_mulB hlt hd hf hc
    refine lv_aload_n hx hb dX4_times_12 rfl (lv_at hl 0 rfl) ?_
    refine lv_iload hx hb dX4_times_13 (lv_at hl 3 rfl) ?_
    refine va_lald hx hb hK hP 0 0 rfl rfl (vp_in_nI (by omega) (by decide)) dX4_times_15 ?_
    refine fw_l (x' := lN (d i)) (by rw [nI_clamp (by omega)]; show lN (d2 i) = _; rw [hk i (Nat.le_refl i)]) ?_
    refine lv_lload_n hx hb dX4_times_16 rfl (lv_at hl 1 rfl) ?_
    refine lv_lmul hx hb dX4_times_17 ?_
    refine fw_l (x' := lN (d i * f)) (lN_mul _ _) ?_
    refine lv_lload_n hx hb dX4_times_18 rfl (lv_at hl 2 rfl) ?_
    refine lv_ladd hx hb dX4_times_19 ?_
    refine fw_l (x' := lN (d i * f + k)) (lN_add _ _) ?_
    refine lv_lstore (lv' := [(6, .long (lN (d i * f + k))), (0, .ref a0), (1, .long (lN f)), (3, .long (lN k)), (5, .int (nI i))]) hx hb dX4_times_20 hl (by decide) rfl (fun ls hl => ?_)
    refine lv_aload_n hx hb dX4_times_22 rfl (lv_at hl 1 rfl) ?_
    refine lv_iload hx hb dX4_times_23 (lv_at hl 4 rfl) ?_
    refine lv_lload hx hb dX4_times_25 (lv_at hl 0 rfl) ?_
    refine lv_ldc2 (v := 10000) hx hb hown (hts (.constantLong RX4 55 10000) (by decide +kernel)) dX4_times_27 ?_
    refine lv_lrem hx hb dX4_times_30 (by decide) ?_
    refine fw_l (x' := lN ((d i * f + k) % 10000)) (pk_lRem (b := 10000) hbd (by decide) (by decide)) ?_
    refine va_last hx hb hK hP hD hS 0 0 rfl rfl (vp_in_nI (by omega) (by decide)) dX4_times_31 (fun H locs hP hD hS => ?_)
    have e_st : vp_updL (fun j => lN (d2 j)) (nI i).toNatClampNeg (lN ((d i * f + k) % 10000)) = fun j => lN (va_up d2 i ((d i * f + k) % 10000) j) := by rw [nI_clamp (by omega)]; exact lN_st _ _ _
    rw [e_st] at hP hD
    have hP : va_P (dC, dI) vwCl [(a0, .inl (cJ, 48, .inr (.inl (fun j => lN (va_up d2 i ((d i * f + k) % 10000) j)))))] H := hP
    have hD : va_D A [(a0, .inl (cJ, 48, .inr (.inl (fun j => lN (va_up d2 i ((d i * f + k) % 10000) j)))))] := hD
    refine lv_lload hx hb dX4_times_32 (lv_at hl 0 rfl) ?_
    refine lv_ldc2 (v := 10000) hx hb hown (hts (.constantLong RX4 55 10000) (by decide +kernel)) dX4_times_34 ?_
    refine lv_ldiv hx hb dX4_times_37 (by decide) ?_
    refine fw_l (x' := lN ((d i * f + k) / 10000)) (pk_lDiv (b := 10000) hbd (by decide) (by decide)) ?_
    refine lv_lstore_n (lv' := [(3, .long (lN ((d i * f + k) / 10000))), (6, .long (lN (d i * f + k))), (0, .ref a0), (1, .long (lN f)), (5, .int (nI i))]) hx hb dX4_times_38 rfl hl (by decide) rfl (fun ls hl => ?_)
    refine lv_iinc (v := nI (i + 1)) (lv' := [(5, .int (nI (i + 1))), (3, .long (lN ((d i * f + k) / 10000))), (6, .long (lN (d i * f + k))), (0, .ref a0), (1, .long (lN f))]) hx hb dX4_times_39 hl (k := 4) rfl (nI_1 i) (by decide) rfl (fun ls hl => ?_)
    refine lv_goto (tgt := 5) hx hb dX4_times_42 (by decide) ?_
    have hI2 := rd_mulI hlt hd hk hlo hv hc
    exact ih_5 _ (i + 1, (d i * f + k) / 10000, va_up d2 i ((d i * f + k) % 10000)) _ _ _ (by omega) ⟨rfl, by omega, hI2.1, hI2.2.1, hI2.2.2.1, hI2.2.2.2, hP.sub [0] rfl, hD.sub [0] (by decide) rfl, hS, lv_sub hl [3, 4, 1, 0] rfl⟩
set_option maxHeartbeats 4000000 in
set_option maxRecDepth 100000 in
theorem c_ref_plus (l : Launch) (dC : Nat → ClassId) (dI : Nat → Nat → Nat) (a0 a1 : Nat) (cJ : ClassId) (d e : Nat → Nat) (sz : Nat) (hd : rd_ok d) (he : rd_ok e) (hm : rd_v d 48 + rd_v e 48 < 10000 ^ 48) : Met l yX4_plus wsX4_plus ({ frames := 0, cells := 0, slots := 0, locals := 0 } : Room) (va_Pc [.ref a0, .ref a1] (fw_pW (dC, dI) vwCl [(cJ, .long)] [(a0, .inl (cJ, 48, .inr (.inl (fun j => lN (d j))))), (a1, .inl (cJ, 48, .inr (.inl (fun j => lN (e j)))))] sz)) (va_Qv (S := Nat → Nat) (fun d2 => rd_ok d2 ∧ rd_v d2 48 = rd_v d 48 + rd_v e 48) (fun u t => fw_q (dC, dI) vwCl [(cJ, .long)] (va_A [(a0, .inl (cJ, 48, .inr (.inl (fun j => lN (d j))))), (a1, .inl (cJ, 48, .inr (.inl (fun j => lN (e j)))))] sz) [(a0, .inl (cJ, 48, .inr (.inl (fun j => lN (u j))))), (a1, .inl (cJ, 48, .inr (.inl (fun j => lN (e j)))))] t) (va_A [(a0, .inl (cJ, 48, .inr (.inl (fun j => lN (d j))))), (a1, .inl (cJ, 48, .inr (.inl (fun j => lN (e j)))))] sz)) 0 0 (va_A [(a0, .inl (cJ, 48, .inr (.inl (fun j => lN (d j))))), (a1, .inl (cJ, 48, .inr (.inl (fun j => lN (e j)))))] sz) := by
  refine fw_metW (cc := cX4_plus) (maxL := 7) (ret := none) (by decide) rfl (Nat.le_of_ble_eq_true rfl) ?_
  intro zp ze zs zm zbelow zmeth zc ls hx hb hr hts hown hlocks hml hin hN hsz hP hK hD hA hS hl
  generalize hAe : (va_A [(a0, .inl (cJ, 48, .inr (.inl (fun j => lN (d j))))), (a1, .inl (cJ, 48, .inr (.inl (fun j => lN (e j)))))] sz) = A at hD hA hS ⊢
  have hown : zs.vm.findClass RX4 = some zm.cls := hown
  have hl : lv_has ls 7 [(0, .ref a0), (1, .ref a1)] := hl
  refine lv_lconst (v := 0) hx hb dX4_plus_0 (by decide) ?_
  refine lv_lstore_n (lv' := [(2, .long 0), (0, .ref a0), (1, .ref a1)]) hx hb dX4_plus_1 rfl hl (by decide) rfl (fun ls hl => ?_)
  refine lv_iconst (v := 0) hx hb dX4_plus_2 (by decide) ?_
  refine lv_istore (lv' := [(4, .int 0), (2, .long 0), (0, .ref a0), (1, .ref a1)]) hx hb dX4_plus_3 hl (by decide) rfl (fun ls hl => ?_)
  refine fw_loop (σ := Nat × Nat × (Nat → Nat)) (I := fun zn u H locs ls => match u with | (i, k, d2) => zn = 48 - i ∧ (i ≤ 48) ∧ (∀ j, i ≤ j → d2 j = d j) ∧ (∀ j, j < i → d2 j < 10000) ∧ (rd_v d2 i + k * 10000 ^ i = rd_v d i + rd_v e i) ∧ (k ≤ 1) ∧ va_P (dC, dI) vwCl [(a0, .inl (cJ, 48, .inr (.inl (fun j => lN (d2 j))))), (a1, .inl (cJ, 48, .inr (.inl (fun j => lN (e j)))))] H ∧ va_D A [(a0, .inl (cJ, 48, .inr (.inl (fun j => lN (d2 j))))), (a1, .inl (cJ, 48, .inr (.inl (fun j => lN (e j)))))] ∧ va_S A zs.heap H locs ∧ lv_has ls 7 [(0, .ref a0), (1, .ref a1), (2, .long (lN k)), (4, .int (nI i))]) ?_ _ (0, 0, d) _ _ _ ⟨rfl, by omega, fun _ _ => rfl, fun j hj => by omega, by simp [rd_v0], by omega, hP.sub [0, 1] rfl, hD.sub [0, 1] (by decide) rfl, hS, lv_sub hl [2, 3, 1, 0] rfl⟩
  intro zn u H locs ls hI ih_5
  obtain ⟨i, k, d2⟩ := u
  obtain ⟨hzn, hi, hk, hlo, hv, hc, hP, hD, hS, hl⟩ := hI
  refine lv_iload hx hb dX4_plus_5 (lv_at hl 3 rfl) ?_
  refine lv_bipush (v := 48) hx hb dX4_plus_7 (by decide) ?_
  refine lv_icmp_ge (tgt := 48) hx hb dX4_plus_9 (by decide) (fun c_9 => ?_) (fun c_9 => ?_)
  · -- then 9
    have hend : i = 48 := by have := (nI_leI (a := 48) (b := i) (by omega) (by omega)).mp c_9; omega
    subst hend
    have hP9 := hP.sub (ws' := [(a0, .inl (cJ, 48, .inr (.inl (fun j => lN (d2 j))))), (a1, .inl (cJ, 48, .inr (.inl (fun j => lN (e j)))))]) [0, 1] rfl
    have hD9 := hD.sub (ws' := [(a0, .inl (cJ, 48, .inr (.inl (fun j => lN (d2 j))))), (a1, .inl (cJ, 48, .inr (.inl (fun j => lN (e j)))))]) [0, 1] (by decide) rfl
    have hK9 := hK.sub (tys' := [(cJ, .long)]) [0] rfl
    exact W.vret hx hb hr (fun zt zht hW => ⟨⟨d2, rfl, ⟨fun j hj => hlo j hj, rd_top hv hm⟩, by rw [zht]; exact hP9, va_K.moved hW.alike hK9, hD9⟩, hS.F zht⟩) hS.2.2 dX4_plus_48 hlocks
  · -- else 9
    have hlt : i < 48 := by
      rcases Nat.lt_or_ge i 48 with q9 | q9
      · exact q9
      · exact absurd (nI_le (a := 48) (b := i) q9 (by omega)) c_9
    have hbd : d i + e i + k < 2 ^ 63 := by
      have h1 := hd i hlt
      have h2 := he i hlt
      omega
    refine lv_aload_n hx hb dX4_plus_12 rfl (lv_at hl 0 rfl) ?_
    refine lv_iload hx hb dX4_plus_13 (lv_at hl 3 rfl) ?_
    refine va_lald hx hb hK hP 0 0 rfl rfl (vp_in_nI (by omega) (by decide)) dX4_plus_15 ?_
    refine fw_l (x' := lN (d i)) (by rw [nI_clamp (by omega)]; show lN (d2 i) = _; rw [hk i (Nat.le_refl i)]) ?_
    refine lv_aload_n hx hb dX4_plus_16 rfl (lv_at hl 1 rfl) ?_
    refine lv_iload hx hb dX4_plus_17 (lv_at hl 3 rfl) ?_
    refine va_lald hx hb hK hP 1 0 rfl rfl (vp_in_nI (by omega) (by decide)) dX4_plus_19 ?_
    refine fw_l (x' := lN (e i)) (by rw [nI_clamp (by omega)]) ?_
    refine lv_ladd hx hb dX4_plus_20 ?_
    refine fw_l (x' := lN (d i + e i)) (lN_add _ _) ?_
    refine lv_lload_n hx hb dX4_plus_21 rfl (lv_at hl 2 rfl) ?_
    refine lv_ladd hx hb dX4_plus_22 ?_
    refine fw_l (x' := lN (d i + e i + k)) (lN_add _ _) ?_
    refine lv_lstore (lv' := [(5, .long (lN (d i + e i + k))), (0, .ref a0), (1, .ref a1), (2, .long (lN k)), (4, .int (nI i))]) hx hb dX4_plus_23 hl (by decide) rfl (fun ls hl => ?_)
    refine lv_aload_n hx hb dX4_plus_25 rfl (lv_at hl 1 rfl) ?_
    refine lv_iload hx hb dX4_plus_26 (lv_at hl 4 rfl) ?_
    refine lv_lload hx hb dX4_plus_28 (lv_at hl 0 rfl) ?_
    refine lv_ldc2 (v := 10000) hx hb hown (hts (.constantLong RX4 55 10000) (by decide +kernel)) dX4_plus_30 ?_
    refine lv_lrem hx hb dX4_plus_33 (by decide) ?_
    refine fw_l (x' := lN ((d i + e i + k) % 10000)) (pk_lRem (b := 10000) hbd (by decide) (by decide)) ?_
    refine va_last hx hb hK hP hD hS 0 0 rfl rfl (vp_in_nI (by omega) (by decide)) dX4_plus_34 (fun H locs hP hD hS => ?_)
    have e_st : vp_updL (fun j => lN (d2 j)) (nI i).toNatClampNeg (lN ((d i + e i + k) % 10000)) = fun j => lN (va_up d2 i ((d i + e i + k) % 10000) j) := by rw [nI_clamp (by omega)]; exact lN_st _ _ _
    rw [e_st] at hP hD
    have hP : va_P (dC, dI) vwCl [(a0, .inl (cJ, 48, .inr (.inl (fun j => lN (va_up d2 i ((d i + e i + k) % 10000) j))))), (a1, .inl (cJ, 48, .inr (.inl (fun j => lN (e j)))))] H := hP
    have hD : va_D A [(a0, .inl (cJ, 48, .inr (.inl (fun j => lN (va_up d2 i ((d i + e i + k) % 10000) j))))), (a1, .inl (cJ, 48, .inr (.inl (fun j => lN (e j)))))] := hD
    refine lv_lload hx hb dX4_plus_35 (lv_at hl 0 rfl) ?_
    refine lv_ldc2 (v := 10000) hx hb hown (hts (.constantLong RX4 55 10000) (by decide +kernel)) dX4_plus_37 ?_
    refine lv_ldiv hx hb dX4_plus_40 (by decide) ?_
    refine fw_l (x' := lN ((d i + e i + k) / 10000)) (pk_lDiv (b := 10000) hbd (by decide) (by decide)) ?_
    refine lv_lstore_n (lv' := [(2, .long (lN ((d i + e i + k) / 10000))), (5, .long (lN (d i + e i + k))), (0, .ref a0), (1, .ref a1), (4, .int (nI i))]) hx hb dX4_plus_41 rfl hl (by decide) rfl (fun ls hl => ?_)
    refine lv_iinc (v := nI (i + 1)) (lv' := [(4, .int (nI (i + 1))), (2, .long (lN ((d i + e i + k) / 10000))), (5, .long (lN (d i + e i + k))), (0, .ref a0), (1, .ref a1)]) hx hb dX4_plus_42 hl (k := 4) rfl (nI_1 i) (by decide) rfl (fun ls hl => ?_)
    refine lv_goto (tgt := 5) hx hb dX4_plus_45 (by decide) ?_
    have hI2 := rd_addI hlt hd he hk hlo hv hc
    exact ih_5 _ (i + 1, (d i + e i + k) / 10000, va_up d2 i ((d i + e i + k) % 10000)) _ _ _ (by omega) ⟨rfl, by omega, hI2.1, hI2.2.1, hI2.2.2.1, hI2.2.2.2, hP.sub [0, 1] rfl, hD.sub [0, 1] (by decide) rfl, hS, lv_sub hl [3, 4, 1, 0] rfl⟩
set_option maxHeartbeats 4000000 in
set_option maxRecDepth 100000 in
theorem c_ref_above (l : Launch) (dC : Nat → ClassId) (dI : Nat → Nat → Nat) (a0 a1 : Nat) (cJ : ClassId) (da db : Nat → Nat) (hd : rd_ok da) (he : rd_ok db) : Met l yX4_isAbove wsX4_isAbove ({ frames := 0, cells := 0, slots := 0, locals := 0 } : Room) (va_Pc [.ref a0, .ref a1] (fw_pR (dC, dI) vwCl [(cJ, .long)] [(a0, .inl (cJ, 48, .inr (.inl (fun j => lN (da j))))), (a1, .inl (cJ, 48, .inr (.inl (fun j => lN (db j)))))])) (vp_Si (fun r => r = zI (decide (rd_v db 48 < rd_v da 48)))) 0 0 (fun _ => False) := by
  refine fw_metR (cc := cX4_isAbove) (maxL := 3) (ret := (some .boolean)) (by decide) rfl (Nat.le_of_ble_eq_true rfl) ?_
  intro zp ze zs zm zbelow zmeth zc ls hx hb hr hts hown hlocks hml hin hN hP hK hl
  have hown : zs.vm.findClass RX4 = some zm.cls := hown
  have hl : lv_has ls 3 [(0, .ref a0), (1, .ref a1)] := hl
  refine lv_bipush (v := 47) hx hb dX4_isAbove_0 (by decide) ?_
  refine lv_istore_n (lv' := [(2, .int 47), (0, .ref a0), (1, .ref a1)]) hx hb dX4_isAbove_2 rfl hl (by decide) rfl (fun ls hl => ?_)
  refine fw_loopR (σ := Nat) (I := fun zn u ls => match u with | k => zn = k ∧ (k ≤ 47) ∧ (∀ j, k < j → j < 48 → da j = db j) ∧ lv_has ls 3 [(0, .ref a0), (1, .ref a1), (2, .int (nI k))]) ?_ _ 47 _ ⟨rfl, by omega, fun j h1 h2 => by omega, lv_sub hl [1, 2, 0] rfl⟩
  intro zn k ls hI ih_3
  obtain ⟨hzn, hk, heq, hl⟩ := hI
  refine lv_iload_n hx hb dX4_isAbove_3 rfl (lv_at hl 2 rfl) ?_
  refine lv_if_le (tgt := 23) hx hb dX4_isAbove_4 (by decide) (fun c_4 => ?_) (fun c_4 => ?_)
  · -- then 4
    have hda := hd k (by omega)
    have hdb := he k (by omega)
    have hne : da k ≠ db k ∨ k = 0 := by
      rcases Nat.eq_zero_or_pos k with q9 | q9
      · exact Or.inr q9
      · exact absurd c_4 (nI_nle q9 (by omega))
    refine lv_aload_n hx hb dX4_isAbove_23 rfl (lv_at hl 0 rfl) ?_
    refine lv_iload_n hx hb dX4_isAbove_24 rfl (lv_at hl 2 rfl) ?_
    refine va_lald hx hb hK hP 0 0 rfl rfl (vp_in_nI (by omega) (by decide)) dX4_isAbove_25 ?_
    refine fw_l (x' := lN (da k)) (by rw [nI_clamp (by omega)]) ?_
    refine lv_aload_n hx hb dX4_isAbove_26 rfl (lv_at hl 1 rfl) ?_
    refine lv_iload_n hx hb dX4_isAbove_27 rfl (lv_at hl 2 rfl) ?_
    refine va_lald hx hb hK hP 1 0 rfl rfl (vp_in_nI (by omega) (by decide)) dX4_isAbove_28 ?_
    refine fw_l (x' := lN (db k)) (by rw [nI_clamp (by omega)]) ?_
    refine W.lcmp hx hb dX4_isAbove_29 ?_
    refine lv_if_le (tgt := 37) hx hb dX4_isAbove_30 (by decide) (fun c_30 => ?_) (fun c_30 => ?_)
    · -- then 30
      have hfin : decide (rd_v db 48 < rd_v da 48) = false := decide_eq_false (fun q9 => by
        have h1 := (rd_cmp k (fun j hj => hd j (by omega)) (fun j hj => he j (by omega)) (47 - k) (fun j h1 h2 => heq j h1 (by omega)) hne).mp (by rw [show k + 1 + (47 - k) = 48 by omega]; exact q9)
        have h2 := (pk_lLE (by omega) (by omega)).mp ((lg_cmp_le _ _).mp c_30)
        omega)
      refine lv_iconst (v := 0) hx hb dX4_isAbove_37 (by decide) ?_
      exact W.zret (v := 0) (ty := .boolean) hx hb hr rfl (fun zt zht _ => ⟨0, rfl, by rw [hfin]; rfl, zht⟩) (fun q h => by cases h) dX4_isAbove_38 hlocks
    · -- else 30
      have hfin : decide (rd_v db 48 < rd_v da 48) = true := decide_eq_true (by
        have h0 : db k < da k := by
          rcases Nat.lt_or_ge (db k) (da k) with q9 | q9
          · exact q9
          · exact absurd ((lg_cmp_le _ _).mpr ((pk_lLE (by omega) (by omega)).mpr q9)) c_30
        have h1 := (rd_cmp k (fun j hj => hd j (by omega)) (fun j hj => he j (by omega)) (47 - k) (fun j h1 h2 => heq j h1 (by omega)) hne).mpr h0
        rw [show k + 1 + (47 - k) = 48 by omega] at h1
        exact h1)
      refine lv_iconst (v := 1) hx hb dX4_isAbove_33 (by decide) ?_
      refine lv_goto (tgt := 38) hx hb dX4_isAbove_34 (by decide) ?_
      exact W.zret (v := 1) (ty := .boolean) hx hb hr rfl (fun zt zht _ => ⟨1, rfl, by rw [hfin]; rfl, zht⟩) (fun q h => by cases h) dX4_isAbove_38 hlocks
  · -- else 4
    have hda := hd k (by omega)
    have hdb := he k (by omega)
    have hk0 : 0 < k := by
      rcases Nat.eq_zero_or_pos k with q9 | q9
      · subst q9
        exact absurd (by decide) c_4
      · exact q9
    refine lv_aload_n hx hb dX4_isAbove_7 rfl (lv_at hl 0 rfl) ?_
    refine lv_iload_n hx hb dX4_isAbove_8 rfl (lv_at hl 2 rfl) ?_
    refine va_lald hx hb hK hP 0 0 rfl rfl (vp_in_nI (by omega) (by decide)) dX4_isAbove_9 ?_
    refine fw_l (x' := lN (da k)) (by rw [nI_clamp (by omega)]) ?_
    refine lv_aload_n hx hb dX4_isAbove_10 rfl (lv_at hl 1 rfl) ?_
    refine lv_iload_n hx hb dX4_isAbove_11 rfl (lv_at hl 2 rfl) ?_
    refine va_lald hx hb hK hP 1 0 rfl rfl (vp_in_nI (by omega) (by decide)) dX4_isAbove_12 ?_
    refine fw_l (x' := lN (db k)) (by rw [nI_clamp (by omega)]) ?_
    refine W.lcmp hx hb dX4_isAbove_13 ?_
    refine lv_if_ne (tgt := 23) hx hb dX4_isAbove_14 (by decide) (fun c_14 => ?_) (fun c_14 => ?_)
    · -- then 14
      have hne : da k ≠ db k ∨ k = 0 := Or.inl (fun q9 => c_14 ((lg_cmp_eq _ _).mpr (by rw [q9])))
      refine lv_aload_n hx hb dX4_isAbove_23 rfl (lv_at hl 0 rfl) ?_
      refine lv_iload_n hx hb dX4_isAbove_24 rfl (lv_at hl 2 rfl) ?_
      refine va_lald hx hb hK hP 0 0 rfl rfl (vp_in_nI (by omega) (by decide)) dX4_isAbove_25 ?_
      refine fw_l (x' := lN (da k)) (by rw [nI_clamp (by omega)]) ?_
      refine lv_aload_n hx hb dX4_isAbove_26 rfl (lv_at hl 1 rfl) ?_
      refine lv_iload_n hx hb dX4_isAbove_27 rfl (lv_at hl 2 rfl) ?_
      refine va_lald hx hb hK hP 1 0 rfl rfl (vp_in_nI (by omega) (by decide)) dX4_isAbove_28 ?_
      refine fw_l (x' := lN (db k)) (by rw [nI_clamp (by omega)]) ?_
      refine W.lcmp hx hb dX4_isAbove_29 ?_
      refine lv_if_le (tgt := 37) hx hb dX4_isAbove_30 (by decide) (fun c_30 => ?_) (fun c_30 => ?_)
      · -- then 30
        have hfin : decide (rd_v db 48 < rd_v da 48) = false := decide_eq_false (fun q9 => by
          have h1 := (rd_cmp k (fun j hj => hd j (by omega)) (fun j hj => he j (by omega)) (47 - k) (fun j h1 h2 => heq j h1 (by omega)) hne).mp (by rw [show k + 1 + (47 - k) = 48 by omega]; exact q9)
          have h2 := (pk_lLE (by omega) (by omega)).mp ((lg_cmp_le _ _).mp c_30)
          omega)
        refine lv_iconst (v := 0) hx hb dX4_isAbove_37 (by decide) ?_
        exact W.zret (v := 0) (ty := .boolean) hx hb hr rfl (fun zt zht _ => ⟨0, rfl, by rw [hfin]; rfl, zht⟩) (fun q h => by cases h) dX4_isAbove_38 hlocks
      · -- else 30
        have hfin : decide (rd_v db 48 < rd_v da 48) = true := decide_eq_true (by
          have h0 : db k < da k := by
            rcases Nat.lt_or_ge (db k) (da k) with q9 | q9
            · exact q9
            · exact absurd ((lg_cmp_le _ _).mpr ((pk_lLE (by omega) (by omega)).mpr q9)) c_30
          have h1 := (rd_cmp k (fun j hj => hd j (by omega)) (fun j hj => he j (by omega)) (47 - k) (fun j h1 h2 => heq j h1 (by omega)) hne).mpr h0
          rw [show k + 1 + (47 - k) = 48 by omega] at h1
          exact h1)
        refine lv_iconst (v := 1) hx hb dX4_isAbove_33 (by decide) ?_
        refine lv_goto (tgt := 38) hx hb dX4_isAbove_34 (by decide) ?_
        exact W.zret (v := 1) (ty := .boolean) hx hb hr rfl (fun zt zht _ => ⟨1, rfl, by rw [hfin]; rfl, zht⟩) (fun q h => by cases h) dX4_isAbove_38 hlocks
    · -- else 14
      have hkk : da k = db k := (pk_lEQ (by omega) (by omega)).mp ((lg_cmp_eq _ _).mp c_14)
      refine lv_iinc (v := nI (k - 1)) (lv' := [(2, .int (nI (k - 1))), (0, .ref a0), (1, .ref a1)]) hx hb dX4_isAbove_17 hl (k := 2) rfl (sb_m1 hk0) (by decide) rfl (fun ls hl => ?_)
      refine lv_goto (tgt := 3) hx hb dX4_isAbove_20 (by decide) ?_
      have heq2 : ∀ j, k - 1 < j → j < 48 → da j = db j := by
        intro j h1 h2
        rcases Nat.lt_or_ge k j with q9 | q9
        · exact heq j q9 h2
        · obtain rfl : j = k := by omega
          exact hkk
      exact ih_3 _ (k - 1) _ (by omega) ⟨rfl, by omega, heq2, lv_sub hl [1, 2, 0] rfl⟩
set_option maxHeartbeats 4000000 in
set_option maxRecDepth 100000 in
theorem c_ref_over (l : Launch) (dC : Nat → ClassId) (dI : Nat → Nat → Nat) (n i : Nat) (hn : n ≤ 48) (hi : i ≤ n) : Met l yX4_over wsX4_over ({ frames := 0, cells := 0, slots := 0, locals := 0 } : Room) (va_Pc [.int (nI n), .int (nI i)] (fw_pR (dC, dI) vwCl [] [])) (vp_Sl (fun r => r = lN (pm_ch n i))) 0 0 (fun _ => False) := by
  refine fw_metR (cc := cX4_over) (maxL := 5) (ret := (some .long)) (by decide) rfl (Nat.le_of_ble_eq_true rfl) ?_
  intro zp ze zs zm zbelow zmeth zc ls hx hb hr hts hown hlocks hml hin hN hP hK hl
  have hown : zs.vm.findClass RX4 = some zm.cls := hown
  have hl : lv_has ls 5 [(0, .int (nI n)), (1, .int (nI i))] := hl
  refine lv_lconst (v := 1) hx hb dX4_over_0 (by decide) ?_
  refine lv_lstore_n (lv' := [(2, .long 1), (0, .int (nI n)), (1, .int (nI i))]) hx hb dX4_over_1 rfl hl (by decide) rfl (fun ls hl => ?_)
  refine lv_iconst (v := 1) hx hb dX4_over_2 (by decide) ?_
  refine lv_istore (lv' := [(4, .int 1), (2, .long 1), (0, .int (nI n)), (1, .int (nI i))]) hx hb dX4_over_3 hl (by decide) rfl (fun ls hl => ?_)
  refine fw_loopR (σ := Nat × Nat) (I := fun zn u ls => match u with | (q, v) => zn = i - q ∧ (q ≤ i) ∧ (v = pm_ch (n - i + q) q) ∧ lv_has ls 5 [(0, .int (nI n)), (1, .int (nI i)), (2, .long (lN v)), (4, .int (nI (q + 1)))]) ?_ _ (0, 1) _ ⟨rfl, by omega, (pm_ch0 _).symm, lv_sub hl [2, 3, 1, 0] rfl⟩
  intro zn u ls hI ih_5
  obtain ⟨q, v⟩ := u
  obtain ⟨hzn, hq, hv, hl⟩ := hI
  refine lv_iload hx hb dX4_over_5 (lv_at hl 3 rfl) ?_
  refine lv_iload_n hx hb dX4_over_7 rfl (lv_at hl 1 rfl) ?_
  refine lv_icmp_gt (tgt := 31) hx hb dX4_over_8 (by decide) (fun c_8 => ?_) (fun c_8 => ?_)
  · -- then 8
    have hend : q = i := by have := (nI_ltI (a := i) (b := q + 1) (by omega) (by omega)).mp c_8; omega
    refine lv_lload_n hx hb dX4_over_31 rfl (lv_at hl 2 rfl) ?_
    exact W.lret (v := (lN v)) hx hb hr (fun zt zht _ => ⟨(lN v), rfl, by rw [hv, hend, show n - i + i = n by omega], zht⟩) (fun q h => by cases h) dX4_over_32 hlocks
  · -- else 8
    have hlt : q < i := by
      rcases Nat.lt_or_ge q i with q9 | q9
      · exact q9
      · exact absurd (nI_lt (a := i) (b := q + 1) (by omega) (by omega)) c_8
    have hbd := ch_bd hv hn hi (by omega)
    refine lv_lload_n hx hb dX4_over_11 rfl (lv_at hl 2 rfl) ?_
    refine lv_iload_n hx hb dX4_over_12 rfl (lv_at hl 0 rfl) ?_
    refine lv_iload_n hx hb dX4_over_13 rfl (lv_at hl 1 rfl) ?_
    refine lv_isub hx hb dX4_over_14 ?_
    refine fw_i (x' := nI (n - i)) (pk_sub hi) ?_
    refine lv_iload hx hb dX4_over_15 (lv_at hl 3 rfl) ?_
    refine lv_iadd hx hb dX4_over_17 ?_
    refine fw_i (x' := nI (n - i + (q + 1))) (nI_add _ _) ?_
    refine lv_i2l (v := lN (n - i + (q + 1))) hx hb dX4_over_18 (nI_l (by omega)) ?_
    refine lv_lmul hx hb dX4_over_19 ?_
    refine fw_l (x' := lN (v * (n - i + (q + 1)))) (lN_mul _ _) ?_
    refine lv_iload hx hb dX4_over_20 (lv_at hl 3 rfl) ?_
    refine lv_i2l (v := lN (q + 1)) hx hb dX4_over_22 (nI_l (by omega)) ?_
    refine lv_ldiv hx hb dX4_over_23 (fun h => by have := (pk_lEQ (a := q + 1) (b := 0) (by omega) (by omega)).mp h; omega) ?_
    refine fw_l (x' := lN (v * (n - i + (q + 1)) / (q + 1))) (pk_lDiv hbd (by omega) (by omega)) ?_
    refine lv_lstore_n (lv' := [(2, .long (lN (v * (n - i + (q + 1)) / (q + 1)))), (0, .int (nI n)), (1, .int (nI i)), (4, .int (nI (q + 1)))]) hx hb dX4_over_24 rfl hl (by decide) rfl (fun ls hl => ?_)
    refine lv_iinc (v := nI (q + 1 + 1)) (lv' := [(4, .int (nI (q + 1 + 1))), (2, .long (lN (v * (n - i + (q + 1)) / (q + 1)))), (0, .int (nI n)), (1, .int (nI i))]) hx hb dX4_over_25 hl (k := 3) rfl (nI_1 _) (by decide) rfl (fun ls hl => ?_)
    refine lv_goto (tgt := 5) hx hb dX4_over_28 (by decide) ?_
    exact ih_5 _ (q + 1, v * (n - i + (q + 1)) / (q + 1)) _ (by omega) ⟨rfl, by omega, ch_step hv, lv_sub hl [2, 3, 1, 0] rfl⟩
end
section
/-! the reference's counts -/
def fv_te (n : Nat) (x : Int32) : Bool := !decide (x < 0) && !decide (nI n ≤ x)
theorem fv_te_no {n : Nat} {x : Int32} (h : fv_no n x) : fv_te n x = false := by
  unfold fv_te
  rcases h with h | h
  · rw [decide_eq_true h]; rfl
  · rw [decide_eq_true h, Bool.not_true, Bool.and_false]
theorem fv_te_nI {n i : Nat} (h : i < n) (hn : n < 2 ^ 31) : fv_te n (nI i) = true := by
  unfold fv_te
  rw [decide_eq_false (nI_pos (by omega)), decide_eq_false (nI_ge h hn)]
  rfl
def hs_s (e : Nat → Int32) (b : Nat → Bool) (x : Int32) (i : Nat) : Bool := hv_has e b x true i || hv_has e b x false i
def hs_a (e : Nat → Int32) (b : Nat → Bool) (x : Int32) (i : Nat) : Bool := !hv_has e b x true i
theorem hs_sS (e : Nat → Int32) (b : Nat → Bool) (x : Int32) (i : Nat) : hs_s e b x (i + 1) = (hs_s e b x i || decide (e i = x)) := by
  unfold hs_s
  rw [hv_hasS, hv_hasS]
  by_cases h : e i = x
  · rw [decide_eq_true h, h]
    cases b i <;> simp
  · rw [decide_eq_false h, beq_false_of_ne h]
    simp
theorem hs_aS (e : Nat → Int32) (b : Nat → Bool) (x : Int32) (i : Nat) : hs_a e b x (i + 1) = (hs_a e b x i && (!decide (e i = x) || !b i)) := by
  unfold hs_a
  rw [hv_hasS]
  by_cases h : e i = x
  · rw [decide_eq_true h, h]
    cases b i <;> simp
  · rw [decide_eq_false h, beq_false_of_ne h]
    simp
theorem hs_bad (e : Nat → Int32) (b : Nat → Bool) (x : Int32) (s : Nat) : (hs_s e b x s && hs_a e b x s) = (hv_has e b x false s && !hv_has e b x true s) := by
  unfold hs_s hs_a
  cases hv_has e b x true s <;> cases hv_has e b x false s <;> rfl
theorem hv_hasQ (e : Nat → Int32) (b : Nat → Bool) (x : Int32) (q : Bool) (i : Nat) : hv_has e b x q (i + 1) = (hv_has e b x q i || (decide (e i = x) && decide (b i = q))) := by
  rw [hv_hasS]
  congr 1
theorem re_ne {a c : Bool} : (decide (a = !c)) = !decide (a = c) := by cases a <;> cases c <;> rfl
end
section
set_option maxHeartbeats 4000000 in
set_option maxRecDepth 100000 in
theorem c_ref_isTest (l : Launch) (dC : Nat → ClassId) (dI : Nat → Nat → Nat) (m0 : Nat) (v0 v2 v3 v4 v5 v6 v7 v8 v9 v10 v11 v12 v13 : Value) (n : Nat) (x : Int32)  : Met l yX4_isTest wsX4_isTest ({ frames := 0, cells := 0, slots := 0, locals := 0 } : Room) (va_Pc [.ref m0, .int x] (fw_pR (dC, dI) vwCl [] [(m0, .inr (4, [v0, .int (nI n), v2, v3, v4, v5, v6, v7, v8, v9, v10, v11, v12, v13]))])) (vp_Si (fun r => r = zI (fv_te n x))) 0 0 (fun _ => False) := by
  refine fw_metR (cc := cX4_isTest) (maxL := 2) (ret := (some .boolean)) (by decide) rfl (Nat.le_of_ble_eq_true rfl) ?_
  intro zp ze zs zm zbelow zmeth zc ls hx hb hr hts hown hlocks hml hin hN hP hK hl
  have hown : zs.vm.findClass RX4 = some zm.cls := hown
  have hl : lv_has ls 2 [(0, .ref m0), (1, .int x)] := hl
  refine lv_iload_n hx hb dX4_isTest_0 rfl (lv_at hl 1 rfl) ?_
  refine lv_if_lt (tgt := 16) hx hb dX4_isTest_1 (by decide) (fun c_1 => ?_) (fun c_1 => ?_)
  · -- then 1
    refine lv_iconst (v := 0) hx hb dX4_isTest_16 (by decide) ?_
    exact W.zret (v := 0) (ty := .boolean) hx hb hr rfl (fun zt zht _ => ⟨0, rfl, by unfold fv_te; rw [decide_eq_true c_1]; rfl, zht⟩) (fun q h => by cases h) dX4_isTest_17 hlocks
  · -- else 1
    refine lv_iload_n hx hb dX4_isTest_4 rfl (lv_at hl 1 rfl) ?_
    refine lv_aload_n hx hb dX4_isTest_5 rfl (lv_at hl 0 rfl) ?_
    refine va_get (D := (dC, dI)) (ci := 4) (v := .int (nI n)) (C := RX4) (T := TX4) (N := 14) hx hb hts (by decide +kernel) hown hK hP 0 rfl rfl 1 (by decide) (hts (.fieldLink RX4 52 "FlakyBoundsModel" "tests" "I") (by decide +kernel)) (fun _ h9 => h9) rfl dX4_isTest_6 ?_
    refine lv_icmp_ge (tgt := 16) hx hb dX4_isTest_9 (by decide) (fun c_9 => ?_) (fun c_9 => ?_)
    · -- then 9
      refine lv_iconst (v := 0) hx hb dX4_isTest_16 (by decide) ?_
      exact W.zret (v := 0) (ty := .boolean) hx hb hr rfl (fun zt zht _ => ⟨0, rfl, by unfold fv_te; rw [decide_eq_false c_1, decide_eq_true c_9]; rfl, zht⟩) (fun q h => by cases h) dX4_isTest_17 hlocks
    · -- else 9
      refine lv_iconst (v := 1) hx hb dX4_isTest_12 (by decide) ?_
      refine lv_goto (tgt := 17) hx hb dX4_isTest_13 (by decide) ?_
      exact W.zret (v := 1) (ty := .boolean) hx hb hr rfl (fun zt zht _ => ⟨1, rfl, by unfold fv_te; rw [decide_eq_false c_1, decide_eq_false c_9]; rfl, zht⟩) (fun q h => by cases h) dX4_isTest_17 hlocks
set_option maxHeartbeats 4000000 in
set_option maxRecDepth 100000 in
theorem c_ref_edition (l : Launch) (dC : Nat → ClassId) (dI : Nat → Nat → Nat) (m0 pr : Nat) (cI : ClassId) (v0 v1 v2 v3 v4 v5 v7 v8 v9 v10 v11 v12 v13 : Value) (rn : Nat → Nat) (t k : Nat) (ht : t < 12) (hk : k < 48) (hrn : ∀ j, j < 576 → rn j < 2000) : Met l yX4_edition wsX4_edition ({ frames := 0, cells := 0, slots := 0, locals := 0 } : Room) (va_Pc [.ref m0, .int (nI t), .int (nI k)] (fw_pR (dC, dI) vwCl [(cI, .int)] [(m0, .inr (4, [v0, v1, v2, v3, v4, v5, .ref pr, v7, v8, v9, v10, v11, v12, v13])), (pr, .inl (cI, 576, .inl (fun j => nI (rn j))))])) (vp_Si (fun r => r = re_e rn t k)) 0 0 (fun _ => False) := by
  refine fw_metR (cc := cX4_edition) (maxL := 3) (ret := (some .int)) (by decide) rfl (Nat.le_of_ble_eq_true rfl) ?_
  intro zp ze zs zm zbelow zmeth zc ls hx hb hr hts hown hlocks hml hin hN hP hK hl
  have hown : zs.vm.findClass RX4 = some zm.cls := hown
  have hl : lv_has ls 3 [(0, .ref m0), (1, .int (nI t)), (2, .int (nI k))] := hl
  have hr1 := hrn (48 * t + k) (by omega)
  refine lv_aload_n hx hb dX4_edition_0 rfl (lv_at hl 0 rfl) ?_
  refine va_get (D := (dC, dI)) (ci := 4) (v := .ref pr) (C := RX4) (T := TX4) (N := 14) hx hb hts (by decide +kernel) hown hK hP 0 rfl rfl 6 (by decide) (hts (.fieldLink RX4 23 "FlakyBoundsModel" "runs" "[I") (by decide +kernel)) (fun _ h9 => h9) rfl dX4_edition_1 ?_
  refine lv_bipush (v := 48) hx hb dX4_edition_4 (by decide) ?_
  refine lv_iload_n hx hb dX4_edition_6 rfl (lv_at hl 1 rfl) ?_
  refine lv_imul hx hb dX4_edition_7 ?_
  refine fw_i (x' := nI (48 * t)) (pk_mul 48 t) ?_
  refine lv_iload_n hx hb dX4_edition_8 rfl (lv_at hl 2 rfl) ?_
  refine lv_iadd hx hb dX4_edition_9 ?_
  refine fw_i (x' := nI (48 * t + k)) (nI_add _ _) ?_
  refine va_iald hx hb hK hP 1 0 rfl rfl (vp_in_nI (by omega) (by decide)) dX4_edition_10 ?_
  refine fw_i (x' := nI (rn (48 * t + k))) (by rw [nI_clamp (by omega)]) ?_
  refine lv_iconst (v := 2) hx hb dX4_edition_11 (by decide) ?_
  refine lv_idiv hx hb dX4_edition_12 (by decide) ?_
  refine fw_i (x' := nI (rn (48 * t + k) / 2)) (pk_div (d := 2) (by omega) (by decide) (by decide)) ?_
  exact W.iret (v := (nI (rn (48 * t + k) / 2))) hx hb hr (fun zt zht _ => ⟨(nI (rn (48 * t + k) / 2)), rfl, rfl, zht⟩) (fun q h => by cases h) dX4_edition_13 hlocks
set_option maxHeartbeats 4000000 in
set_option maxRecDepth 100000 in
theorem c_ref_isPass (l : Launch) (dC : Nat → ClassId) (dI : Nat → Nat → Nat) (m0 pr : Nat) (cI : ClassId) (v0 v1 v2 v3 v4 v5 v7 v8 v9 v10 v11 v12 v13 : Value) (rn : Nat → Nat) (t k : Nat) (ht : t < 12) (hk : k < 48) (hrn : ∀ j, j < 576 → rn j < 2000) : Met l yX4_isPass wsX4_isPass ({ frames := 0, cells := 0, slots := 0, locals := 0 } : Room) (va_Pc [.ref m0, .int (nI t), .int (nI k)] (fw_pR (dC, dI) vwCl [(cI, .int)] [(m0, .inr (4, [v0, v1, v2, v3, v4, v5, .ref pr, v7, v8, v9, v10, v11, v12, v13])), (pr, .inl (cI, 576, .inl (fun j => nI (rn j))))])) (vp_Si (fun r => r = zI (re_b rn t k))) 0 0 (fun _ => False) := by
  refine fw_metR (cc := cX4_isPass) (maxL := 3) (ret := (some .boolean)) (by decide) rfl (Nat.le_of_ble_eq_true rfl) ?_
  intro zp ze zs zm zbelow zmeth zc ls hx hb hr hts hown hlocks hml hin hN hP hK hl
  have hown : zs.vm.findClass RX4 = some zm.cls := hown
  have hl : lv_has ls 3 [(0, .ref m0), (1, .int (nI t)), (2, .int (nI k))] := hl
  have hr1 := hrn (48 * t + k) (by omega)
  refine lv_aload_n hx hb dX4_isPass_0 rfl (lv_at hl 0 rfl) ?_
  refine va_get (D := (dC, dI)) (ci := 4) (v := .ref pr) (C := RX4) (T := TX4) (N := 14) hx hb hts (by decide +kernel) hown hK hP 0 rfl rfl 6 (by decide) (hts (.fieldLink RX4 23 "FlakyBoundsModel" "runs" "[I") (by decide +kernel)) (fun _ h9 => h9) rfl dX4_isPass_1 ?_
  refine lv_bipush (v := 48) hx hb dX4_isPass_4 (by decide) ?_
  refine lv_iload_n hx hb dX4_isPass_6 rfl (lv_at hl 1 rfl) ?_
  refine lv_imul hx hb dX4_isPass_7 ?_
  refine fw_i (x' := nI (48 * t)) (pk_mul 48 t) ?_
  refine lv_iload_n hx hb dX4_isPass_8 rfl (lv_at hl 2 rfl) ?_
  refine lv_iadd hx hb dX4_isPass_9 ?_
  refine fw_i (x' := nI (48 * t + k)) (nI_add _ _) ?_
  refine va_iald hx hb hK hP 1 0 rfl rfl (vp_in_nI (by omega) (by decide)) dX4_isPass_10 ?_
  refine fw_i (x' := nI (rn (48 * t + k))) (by rw [nI_clamp (by omega)]) ?_
  refine lv_iconst (v := 2) hx hb dX4_isPass_11 (by decide) ?_
  refine lv_irem hx hb dX4_isPass_12 (by decide) ?_
  refine fw_i (x' := nI (rn (48 * t + k) % 2)) (pk_rem (d := 2) (by omega) (by decide) (by decide)) ?_
  refine lv_iconst (v := 1) hx hb dX4_isPass_13 (by decide) ?_
  refine lv_icmp_ne (tgt := 21) hx hb dX4_isPass_14 (by decide) (fun c_14 => ?_) (fun c_14 => ?_)
  · -- then 14
    have h14 : ¬ rn (48 * t + k) % 2 = 1 := fun q9 => c_14 (by rw [q9]; rfl)
    refine lv_iconst (v := 0) hx hb dX4_isPass_21 (by decide) ?_
    exact W.zret (v := 0) (ty := .boolean) hx hb hr rfl (fun zt zht _ => ⟨0, rfl, by unfold re_b; rw [decide_eq_false h14]; rfl, zht⟩) (fun q h => by cases h) dX4_isPass_22 hlocks
  · -- else 14
    have h14 : rn (48 * t + k) % 2 = 1 := (nI_eq (b := 1) (by omega) (by decide)).mp c_14
    refine lv_iconst (v := 1) hx hb dX4_isPass_17 (by decide) ?_
    refine lv_goto (tgt := 22) hx hb dX4_isPass_18 (by decide) ?_
    exact W.zret (v := 1) (ty := .boolean) hx hb hr rfl (fun zt zht _ => ⟨1, rfl, by unfold re_b; rw [decide_eq_true h14]; rfl, zht⟩) (fun q h => by cases h) dX4_isPass_22 hlocks
set_option maxHeartbeats 4000000 in
set_option maxRecDepth 100000 in
theorem c_ref_isBad (l : Launch) (dC : Nat → ClassId) (dI : Nat → Nat → Nat) (m0 pz pr : Nat) (cI : ClassId) (v0 v1 v2 v3 v4 v7 v8 v9 v10 v11 v12 v13 : Value) (zf rn : Nat → Nat) (t : Nat) (x : Int32) (ht : t < 12) (hz48 : zf t ≤ 48) (hrn : ∀ j, j < 576 → rn j < 2000) : Met l yX4_isBadFor wsX4_isBadFor ({ frames := 1, cells := 0, slots := 0, locals := 22 } : Room) (va_Pc [.ref m0, .int (nI t), .int x] (fw_pR (dC, dI) vwCl [(cI, .int)] [(m0, .inr (4, [v0, v1, v2, v3, v4, .ref pz, .ref pr, v7, v8, v9, v10, v11, v12, v13])), (pz, .inl (cI, 12, .inl (fun j => nI (zf j)))), (pr, .inl (cI, 576, .inl (fun j => nI (rn j))))])) (vp_Si (fun r => r = zI (hv_has (re_e rn t) (re_b rn t) x false (zf t) && !hv_has (re_e rn t) (re_b rn t) x true (zf t)))) 0 0 (fun _ => False) := by
  refine fw_metR (cc := cX4_isBadFor) (maxL := 6) (ret := (some .boolean)) (by decide) rfl (Nat.le_of_ble_eq_true rfl) ?_
  intro zp ze zs zm zbelow zmeth zc ls hx hb hr hts hown hlocks hml hin hN hP hK hl
  have hown : zs.vm.findClass RX4 = some zm.cls := hown
  have hl : lv_has ls 6 [(0, .ref m0), (1, .int (nI t)), (2, .int x)] := hl
  refine lv_iconst (v := 0) hx hb dX4_isBadFor_0 (by decide) ?_
  refine lv_istore_n (lv' := [(3, .int 0), (0, .ref m0), (1, .int (nI t)), (2, .int x)]) hx hb dX4_isBadFor_1 rfl hl (by decide) rfl (fun ls hl => ?_)
  refine lv_iconst (v := 1) hx hb dX4_isBadFor_2 (by decide) ?_
  refine lv_istore (lv' := [(4, .int 1), (3, .int 0), (0, .ref m0), (1, .int (nI t)), (2, .int x)]) hx hb dX4_isBadFor_3 hl (by decide) rfl (fun ls hl => ?_)
  refine lv_iconst (v := 0) hx hb dX4_isBadFor_5 (by decide) ?_
  refine lv_istore (lv' := [(5, .int 0), (4, .int 1), (3, .int 0), (0, .ref m0), (1, .int (nI t)), (2, .int x)]) hx hb dX4_isBadFor_6 hl (by decide) rfl (fun ls hl => ?_)
  refine fw_loopR (σ := Nat) (I := fun zn u ls => match u with | i => zn = zf t - i ∧ (i ≤ zf t) ∧ lv_has ls 6 [(0, .ref m0), (1, .int (nI t)), (2, .int x), (3, .int (zI (hs_s (re_e rn t) (re_b rn t) x i))), (4, .int (zI (hs_a (re_e rn t) (re_b rn t) x i))), (5, .int (nI i))]) ?_ _ 0 _ ⟨rfl, by omega, lv_sub hl [3, 4, 5, 2, 1, 0] rfl⟩
  intro zn i ls hI ih_8
  obtain ⟨hzn, hi, hl⟩ := hI
  refine lv_iload hx hb dX4_isBadFor_8 (lv_at hl 5 rfl) ?_
  refine lv_aload_n hx hb dX4_isBadFor_10 rfl (lv_at hl 0 rfl) ?_
  refine va_get (D := (dC, dI)) (ci := 4) (v := .ref pz) (C := RX4) (T := TX4) (N := 14) hx hb hts (by decide +kernel) hown hK hP 0 rfl rfl 5 (by decide) (hts (.fieldLink RX4 19 "FlakyBoundsModel" "size" "[I") (by decide +kernel)) (fun _ h9 => h9) rfl dX4_isBadFor_11 ?_
  refine lv_iload_n hx hb dX4_isBadFor_14 rfl (lv_at hl 1 rfl) ?_
  refine va_iald hx hb hK hP 1 0 rfl rfl (vp_in_nI (by omega) (by decide)) dX4_isBadFor_15 ?_
  refine fw_i (x' := nI (zf t)) (by rw [nI_clamp (by omega)]) ?_
  refine lv_icmp_ge (tgt := 79) hx hb dX4_isBadFor_16 (by decide) (fun c_16 => ?_) (fun c_16 => ?_)
  · -- then 16
    have hend : i = zf t := by have := (nI_leI (a := zf t) (b := i) (by omega) (by omega)).mp c_16; omega
    refine lv_iload_n hx hb dX4_isBadFor_79 rfl (lv_at hl 3 rfl) ?_
    refine lv_if_eq (tgt := 92) hx hb dX4_isBadFor_80 (by decide) (fun c_80 => ?_) (fun c_80 => ?_)
    · -- then 80
      have h80 := zI_eq0.mp c_80
      refine lv_iconst (v := 0) hx hb dX4_isBadFor_92 (by decide) ?_
      rw [hend] at h80
      exact W.zret (v := 0) (ty := .boolean) hx hb hr rfl (fun zt zht _ => ⟨0, rfl, by rw [← hs_bad, h80]; rfl, zht⟩) (fun q h => by cases h) dX4_isBadFor_93 hlocks
    · -- else 80
      have h80 := zI_ne0.mp c_80
      refine lv_iload hx hb dX4_isBadFor_83 (lv_at hl 4 rfl) ?_
      refine lv_if_eq (tgt := 92) hx hb dX4_isBadFor_85 (by decide) (fun c_85 => ?_) (fun c_85 => ?_)
      · -- then 85
        have h85 := zI_eq0.mp c_85
        refine lv_iconst (v := 0) hx hb dX4_isBadFor_92 (by decide) ?_
        rw [hend] at h80 h85
        exact W.zret (v := 0) (ty := .boolean) hx hb hr rfl (fun zt zht _ => ⟨0, rfl, by rw [← hs_bad, h80, h85]; rfl, zht⟩) (fun q h => by cases h) dX4_isBadFor_93 hlocks
      · -- else 85
        have h85 := zI_ne0.mp c_85
        refine lv_iconst (v := 1) hx hb dX4_isBadFor_88 (by decide) ?_
        refine lv_goto (tgt := 93) hx hb dX4_isBadFor_89 (by decide) ?_
        rw [hend] at h80 h85
        exact W.zret (v := 1) (ty := .boolean) hx hb hr rfl (fun zt zht _ => ⟨1, rfl, by rw [← hs_bad, h80, h85]; rfl, zht⟩) (fun q h => by cases h) dX4_isBadFor_93 hlocks
  · -- else 16
    have hlt : i < zf t := by
      rcases Nat.lt_or_ge i (zf t) with q9 | q9
      · exact q9
      · exact absurd (nI_le (a := zf t) (b := i) q9 (by omega)) c_16
    refine lv_iload_n hx hb dX4_isBadFor_19 rfl (lv_at hl 3 rfl) ?_
    refine lv_if_ne (tgt := 34) hx hb dX4_isBadFor_20 (by decide) (fun c_20 => ?_) (fun c_20 => ?_)
    · -- then 20
      have h20 := zI_ne0.mp c_20
      refine lv_iconst (v := 1) hx hb dX4_isBadFor_34 (by decide) ?_
      refine lv_goto (tgt := 39) hx hb dX4_isBadFor_35 (by decide) ?_
      refine lv_istore_n (lv' := [(3, .int 1), (0, .ref m0), (1, .int (nI t)), (2, .int x), (4, .int (zI (hs_a (re_e rn t) (re_b rn t) x i))), (5, .int (nI i))]) hx hb dX4_isBadFor_39 rfl hl (by decide) rfl (fun ls hl => ?_)
      refine lv_iload hx hb dX4_isBadFor_40 (lv_at hl 4 rfl) ?_
      refine lv_if_eq (tgt := 70) hx hb dX4_isBadFor_42 (by decide) (fun c_42 => ?_) (fun c_42 => ?_)
      · -- then 42
        have h42 := zI_eq0.mp c_42
        refine lv_iconst (v := 0) hx hb dX4_isBadFor_70 (by decide) ?_
        refine lv_istore (lv' := [(4, .int 0), (3, .int 1), (0, .ref m0), (1, .int (nI t)), (2, .int x), (5, .int (nI i))]) hx hb dX4_isBadFor_71 hl (by decide) rfl (fun ls hl => ?_)
        refine lv_iinc (v := nI (i + 1)) (lv' := [(5, .int (nI (i + 1))), (4, .int 0), (3, .int 1), (0, .ref m0), (1, .int (nI t)), (2, .int x)]) hx hb dX4_isBadFor_73 hl (k := 5) rfl (nI_1 i) (by decide) rfl (fun ls hl => ?_)
        refine lv_goto (tgt := 8) hx hb dX4_isBadFor_76 (by decide) ?_
        have z1 : hs_s (re_e rn t) (re_b rn t) x (i + 1) = true := by rw [hs_sS, h20]; rfl
        have z2 : hs_a (re_e rn t) (re_b rn t) x (i + 1) = false := by rw [hs_aS, h42]; rfl
        exact ih_8 _ (i + 1) _ (by omega) ⟨rfl, by omega, by rw [z1, z2]; exact lv_sub hl [3, 4, 5, 2, 1, 0] rfl⟩
      · -- else 42
        have h42 := zI_ne0.mp c_42
        refine lv_aload_n hx hb dX4_isBadFor_45 rfl (lv_at hl 1 rfl) ?_
        refine lv_iload_n hx hb dX4_isBadFor_46 rfl (lv_at hl 2 rfl) ?_
        refine lv_iload hx hb dX4_isBadFor_47 (lv_at hl 5 rfl) ?_
        have hPc := hP.sub (ws' := [(m0, .inr (4, [v0, v1, v2, v3, v4, .ref pz, .ref pr, v7, v8, v9, v10, v11, v12, v13])), (pr, .inl (cI, 576, .inl (fun j => nI (rn j))))]) [0, 2] rfl
        have hKc := hK.sub (tys' := [(cI, .int)]) [0] rfl
        refine vp_callSi (va_runV (As := [.int (nI t), .int (nI i)]) (rest := []) ⟨hx, hb, hml, hown, hts⟩ (c_ref_edition l dC dI m0 pr cI v0 v1 v2 v3 v4 (.ref pz) v7 v8 v9 v10 v11 v12 v13 rn t i ht (by omega) hrn) (cwV 2 hts gX4_isBadFor_X4_edition rfl rfl rfl (by decide +kernel) ⟨Nat.le_of_ble_eq_true rfl, Nat.le_of_ble_eq_true rfl⟩) (fw_preVR hN hKc hPc (ci := 4) (q0 := 0) rfl rfl) rfl rfl hl.1 rfl (lv_room (Nat.le_of_ble_eq_true rfl)) dX4_isBadFor_49 ⟨Nat.le_of_ble_eq_true rfl, Nat.le_of_ble_eq_true rfl⟩).run (fun r_49 hr_49 => ?_)
        obtain rfl : r_49 = re_e rn t i := hr_49
        refine lv_iload_n hx hb dX4_isBadFor_52 rfl (lv_at hl 3 rfl) ?_
        refine lv_icmp_ne (tgt := 66) hx hb dX4_isBadFor_53 (by decide) (fun c_53 => ?_) (fun c_53 => ?_)
        · -- then 53
          have h53 := c_53
          refine lv_iconst (v := 1) hx hb dX4_isBadFor_66 (by decide) ?_
          refine lv_goto (tgt := 71) hx hb dX4_isBadFor_67 (by decide) ?_
          refine lv_istore (lv' := [(4, .int 1), (3, .int 1), (0, .ref m0), (1, .int (nI t)), (2, .int x), (5, .int (nI i))]) hx hb dX4_isBadFor_71 hl (by decide) rfl (fun ls hl => ?_)
          refine lv_iinc (v := nI (i + 1)) (lv' := [(5, .int (nI (i + 1))), (4, .int 1), (3, .int 1), (0, .ref m0), (1, .int (nI t)), (2, .int x)]) hx hb dX4_isBadFor_73 hl (k := 5) rfl (nI_1 i) (by decide) rfl (fun ls hl => ?_)
          refine lv_goto (tgt := 8) hx hb dX4_isBadFor_76 (by decide) ?_
          have z1 : hs_s (re_e rn t) (re_b rn t) x (i + 1) = true := by rw [hs_sS, h20]; rfl
          have z2 : hs_a (re_e rn t) (re_b rn t) x (i + 1) = true := by rw [hs_aS, h42, decide_eq_false h53]; rfl
          exact ih_8 _ (i + 1) _ (by omega) ⟨rfl, by omega, by rw [z1, z2]; exact lv_sub hl [3, 4, 5, 2, 1, 0] rfl⟩
        · -- else 53
          have h53 := c_53
          refine lv_aload_n hx hb dX4_isBadFor_56 rfl (lv_at hl 1 rfl) ?_
          refine lv_iload_n hx hb dX4_isBadFor_57 rfl (lv_at hl 2 rfl) ?_
          refine lv_iload hx hb dX4_isBadFor_58 (lv_at hl 5 rfl) ?_
          have hPc := hP.sub (ws' := [(m0, .inr (4, [v0, v1, v2, v3, v4, .ref pz, .ref pr, v7, v8, v9, v10, v11, v12, v13])), (pr, .inl (cI, 576, .inl (fun j => nI (rn j))))]) [0, 2] rfl
          have hKc := hK.sub (tys' := [(cI, .int)]) [0] rfl
          refine vp_callSi (va_runV (As := [.int (nI t), .int (nI i)]) (rest := []) ⟨hx, hb, hml, hown, hts⟩ (c_ref_isPass l dC dI m0 pr cI v0 v1 v2 v3 v4 (.ref pz) v7 v8 v9 v10 v11 v12 v13 rn t i ht (by omega) hrn) (cwV 2 hts gX4_isBadFor_X4_isPass rfl rfl rfl (by decide +kernel) ⟨Nat.le_of_ble_eq_true rfl, Nat.le_of_ble_eq_true rfl⟩) (fw_preVR hN hKc hPc (ci := 4) (q0 := 0) rfl rfl) rfl rfl hl.1 rfl (lv_room (Nat.le_of_ble_eq_true rfl)) dX4_isBadFor_60 ⟨Nat.le_of_ble_eq_true rfl, Nat.le_of_ble_eq_true rfl⟩).run (fun r_60 hr_60 => ?_)
          obtain rfl : r_60 = zI (re_b rn t i) := hr_60
          refine lv_if_ne (tgt := 70) hx hb dX4_isBadFor_63 (by decide) (fun c_63 => ?_) (fun c_63 => ?_)
          · -- then 63
            have h63 := zI_ne0.mp c_63
            refine lv_iconst (v := 0) hx hb dX4_isBadFor_70 (by decide) ?_
            refine lv_istore (lv' := [(4, .int 0), (3, .int 1), (0, .ref m0), (1, .int (nI t)), (2, .int x), (5, .int (nI i))]) hx hb dX4_isBadFor_71 hl (by decide) rfl (fun ls hl => ?_)
            refine lv_iinc (v := nI (i + 1)) (lv' := [(5, .int (nI (i + 1))), (4, .int 0), (3, .int 1), (0, .ref m0), (1, .int (nI t)), (2, .int x)]) hx hb dX4_isBadFor_73 hl (k := 5) rfl (nI_1 i) (by decide) rfl (fun ls hl => ?_)
            refine lv_goto (tgt := 8) hx hb dX4_isBadFor_76 (by decide) ?_
            have z1 : hs_s (re_e rn t) (re_b rn t) x (i + 1) = true := by rw [hs_sS, h20]; rfl
            have z2 : hs_a (re_e rn t) (re_b rn t) x (i + 1) = false := by rw [hs_aS, h42, decide_eq_true h53, h63]; rfl
            exact ih_8 _ (i + 1) _ (by omega) ⟨rfl, by omega, by rw [z1, z2]; exact lv_sub hl [3, 4, 5, 2, 1, 0] rfl⟩
          · -- else 63
            have h63 := zI_eq0.mp c_63
            refine lv_iconst (v := 1) hx hb dX4_isBadFor_66 (by decide) ?_
            refine lv_goto (tgt := 71) hx hb dX4_isBadFor_67 (by decide) ?_
            refine lv_istore (lv' := [(4, .int 1), (3, .int 1), (0, .ref m0), (1, .int (nI t)), (2, .int x), (5, .int (nI i))]) hx hb dX4_isBadFor_71 hl (by decide) rfl (fun ls hl => ?_)
            refine lv_iinc (v := nI (i + 1)) (lv' := [(5, .int (nI (i + 1))), (4, .int 1), (3, .int 1), (0, .ref m0), (1, .int (nI t)), (2, .int x)]) hx hb dX4_isBadFor_73 hl (k := 5) rfl (nI_1 i) (by decide) rfl (fun ls hl => ?_)
            refine lv_goto (tgt := 8) hx hb dX4_isBadFor_76 (by decide) ?_
            have z1 : hs_s (re_e rn t) (re_b rn t) x (i + 1) = true := by rw [hs_sS, h20]; rfl
            have z2 : hs_a (re_e rn t) (re_b rn t) x (i + 1) = true := by rw [hs_aS, h42, decide_eq_true h53, h63]; rfl
            exact ih_8 _ (i + 1) _ (by omega) ⟨rfl, by omega, by rw [z1, z2]; exact lv_sub hl [3, 4, 5, 2, 1, 0] rfl⟩
    · -- else 20
      have h20 := zI_eq0.mp c_20
      refine lv_aload_n hx hb dX4_isBadFor_23 rfl (lv_at hl 0 rfl) ?_
      refine lv_iload_n hx hb dX4_isBadFor_24 rfl (lv_at hl 1 rfl) ?_
      refine lv_iload hx hb dX4_isBadFor_25 (lv_at hl 5 rfl) ?_
      have hPc := hP.sub (ws' := [(m0, .inr (4, [v0, v1, v2, v3, v4, .ref pz, .ref pr, v7, v8, v9, v10, v11, v12, v13])), (pr, .inl (cI, 576, .inl (fun j => nI (rn j))))]) [0, 2] rfl
      have hKc := hK.sub (tys' := [(cI, .int)]) [0] rfl
      refine vp_callSi (va_runV (As := [.int (nI t), .int (nI i)]) (rest := []) ⟨hx, hb, hml, hown, hts⟩ (c_ref_edition l dC dI m0 pr cI v0 v1 v2 v3 v4 (.ref pz) v7 v8 v9 v10 v11 v12 v13 rn t i ht (by omega) hrn) (cwV 2 hts gX4_isBadFor_X4_edition rfl rfl rfl (by decide +kernel) ⟨Nat.le_of_ble_eq_true rfl, Nat.le_of_ble_eq_true rfl⟩) (fw_preVR hN hKc hPc (ci := 4) (q0 := 0) rfl rfl) rfl rfl hl.1 rfl (lv_room (Nat.le_of_ble_eq_true rfl)) dX4_isBadFor_27 ⟨Nat.le_of_ble_eq_true rfl, Nat.le_of_ble_eq_true rfl⟩).run (fun r_27 hr_27 => ?_)
      obtain rfl : r_27 = re_e rn t i := hr_27
      refine lv_iload_n hx hb dX4_isBadFor_30 rfl (lv_at hl 2 rfl) ?_
      refine lv_icmp_ne (tgt := 38) hx hb dX4_isBadFor_31 (by decide) (fun c_31 => ?_) (fun c_31 => ?_)
      · -- then 31
        have h31 := c_31
        refine lv_iconst (v := 0) hx hb dX4_isBadFor_38 (by decide) ?_
        refine lv_istore_n (lv' := [(3, .int 0), (0, .ref m0), (1, .int (nI t)), (2, .int x), (4, .int (zI (hs_a (re_e rn t) (re_b rn t) x i))), (5, .int (nI i))]) hx hb dX4_isBadFor_39 rfl hl (by decide) rfl (fun ls hl => ?_)
        refine lv_iload hx hb dX4_isBadFor_40 (lv_at hl 4 rfl) ?_
        refine lv_if_eq (tgt := 70) hx hb dX4_isBadFor_42 (by decide) (fun c_42 => ?_) (fun c_42 => ?_)
        · -- then 42
          have h42 := zI_eq0.mp c_42
          refine lv_iconst (v := 0) hx hb dX4_isBadFor_70 (by decide) ?_
          refine lv_istore (lv' := [(4, .int 0), (3, .int 0), (0, .ref m0), (1, .int (nI t)), (2, .int x), (5, .int (nI i))]) hx hb dX4_isBadFor_71 hl (by decide) rfl (fun ls hl => ?_)
          refine lv_iinc (v := nI (i + 1)) (lv' := [(5, .int (nI (i + 1))), (4, .int 0), (3, .int 0), (0, .ref m0), (1, .int (nI t)), (2, .int x)]) hx hb dX4_isBadFor_73 hl (k := 5) rfl (nI_1 i) (by decide) rfl (fun ls hl => ?_)
          refine lv_goto (tgt := 8) hx hb dX4_isBadFor_76 (by decide) ?_
          have z1 : hs_s (re_e rn t) (re_b rn t) x (i + 1) = false := by rw [hs_sS, h20, decide_eq_false h31]; rfl
          have z2 : hs_a (re_e rn t) (re_b rn t) x (i + 1) = false := by rw [hs_aS, h42]; rfl
          exact ih_8 _ (i + 1) _ (by omega) ⟨rfl, by omega, by rw [z1, z2]; exact lv_sub hl [3, 4, 5, 2, 1, 0] rfl⟩
        · -- else 42
          have h42 := zI_ne0.mp c_42
          refine lv_aload_n hx hb dX4_isBadFor_45 rfl (lv_at hl 1 rfl) ?_
          refine lv_iload_n hx hb dX4_isBadFor_46 rfl (lv_at hl 2 rfl) ?_
          refine lv_iload hx hb dX4_isBadFor_47 (lv_at hl 5 rfl) ?_
          have hPc := hP.sub (ws' := [(m0, .inr (4, [v0, v1, v2, v3, v4, .ref pz, .ref pr, v7, v8, v9, v10, v11, v12, v13])), (pr, .inl (cI, 576, .inl (fun j => nI (rn j))))]) [0, 2] rfl
          have hKc := hK.sub (tys' := [(cI, .int)]) [0] rfl
          refine vp_callSi (va_runV (As := [.int (nI t), .int (nI i)]) (rest := []) ⟨hx, hb, hml, hown, hts⟩ (c_ref_edition l dC dI m0 pr cI v0 v1 v2 v3 v4 (.ref pz) v7 v8 v9 v10 v11 v12 v13 rn t i ht (by omega) hrn) (cwV 2 hts gX4_isBadFor_X4_edition rfl rfl rfl (by decide +kernel) ⟨Nat.le_of_ble_eq_true rfl, Nat.le_of_ble_eq_true rfl⟩) (fw_preVR hN hKc hPc (ci := 4) (q0 := 0) rfl rfl) rfl rfl hl.1 rfl (lv_room (Nat.le_of_ble_eq_true rfl)) dX4_isBadFor_49 ⟨Nat.le_of_ble_eq_true rfl, Nat.le_of_ble_eq_true rfl⟩).run (fun r_49 hr_49 => ?_)
          obtain rfl : r_49 = re_e rn t i := hr_49
          refine lv_iload_n hx hb dX4_isBadFor_52 rfl (lv_at hl 3 rfl) ?_
          refine lv_icmp_ne (tgt := 66) hx hb dX4_isBadFor_53 (by decide) (fun c_53 => ?_) (fun c_53 => ?_)
          · -- then 53
            have h53 := c_53
            refine lv_iconst (v := 1) hx hb dX4_isBadFor_66 (by decide) ?_
            refine lv_goto (tgt := 71) hx hb dX4_isBadFor_67 (by decide) ?_
            refine lv_istore (lv' := [(4, .int 1), (3, .int 0), (0, .ref m0), (1, .int (nI t)), (2, .int x), (5, .int (nI i))]) hx hb dX4_isBadFor_71 hl (by decide) rfl (fun ls hl => ?_)
            refine lv_iinc (v := nI (i + 1)) (lv' := [(5, .int (nI (i + 1))), (4, .int 1), (3, .int 0), (0, .ref m0), (1, .int (nI t)), (2, .int x)]) hx hb dX4_isBadFor_73 hl (k := 5) rfl (nI_1 i) (by decide) rfl (fun ls hl => ?_)
            refine lv_goto (tgt := 8) hx hb dX4_isBadFor_76 (by decide) ?_
            have z1 : hs_s (re_e rn t) (re_b rn t) x (i + 1) = false := by rw [hs_sS, h20, decide_eq_false h31]; rfl
            have z2 : hs_a (re_e rn t) (re_b rn t) x (i + 1) = true := by rw [hs_aS, h42, decide_eq_false h53]; rfl
            exact ih_8 _ (i + 1) _ (by omega) ⟨rfl, by omega, by rw [z1, z2]; exact lv_sub hl [3, 4, 5, 2, 1, 0] rfl⟩
          · -- else 53
            have h53 := c_53
            refine lv_aload_n hx hb dX4_isBadFor_56 rfl (lv_at hl 1 rfl) ?_
            refine lv_iload_n hx hb dX4_isBadFor_57 rfl (lv_at hl 2 rfl) ?_
            refine lv_iload hx hb dX4_isBadFor_58 (lv_at hl 5 rfl) ?_
            have hPc := hP.sub (ws' := [(m0, .inr (4, [v0, v1, v2, v3, v4, .ref pz, .ref pr, v7, v8, v9, v10, v11, v12, v13])), (pr, .inl (cI, 576, .inl (fun j => nI (rn j))))]) [0, 2] rfl
            have hKc := hK.sub (tys' := [(cI, .int)]) [0] rfl
            refine vp_callSi (va_runV (As := [.int (nI t), .int (nI i)]) (rest := []) ⟨hx, hb, hml, hown, hts⟩ (c_ref_isPass l dC dI m0 pr cI v0 v1 v2 v3 v4 (.ref pz) v7 v8 v9 v10 v11 v12 v13 rn t i ht (by omega) hrn) (cwV 2 hts gX4_isBadFor_X4_isPass rfl rfl rfl (by decide +kernel) ⟨Nat.le_of_ble_eq_true rfl, Nat.le_of_ble_eq_true rfl⟩) (fw_preVR hN hKc hPc (ci := 4) (q0 := 0) rfl rfl) rfl rfl hl.1 rfl (lv_room (Nat.le_of_ble_eq_true rfl)) dX4_isBadFor_60 ⟨Nat.le_of_ble_eq_true rfl, Nat.le_of_ble_eq_true rfl⟩).run (fun r_60 hr_60 => ?_)
            obtain rfl : r_60 = zI (re_b rn t i) := hr_60
            refine lv_if_ne (tgt := 70) hx hb dX4_isBadFor_63 (by decide) (fun c_63 => ?_) (fun c_63 => ?_)
            · -- then 63
              have h63 := zI_ne0.mp c_63
              refine lv_iconst (v := 0) hx hb dX4_isBadFor_70 (by decide) ?_
              refine lv_istore (lv' := [(4, .int 0), (3, .int 0), (0, .ref m0), (1, .int (nI t)), (2, .int x), (5, .int (nI i))]) hx hb dX4_isBadFor_71 hl (by decide) rfl (fun ls hl => ?_)
              refine lv_iinc (v := nI (i + 1)) (lv' := [(5, .int (nI (i + 1))), (4, .int 0), (3, .int 0), (0, .ref m0), (1, .int (nI t)), (2, .int x)]) hx hb dX4_isBadFor_73 hl (k := 5) rfl (nI_1 i) (by decide) rfl (fun ls hl => ?_)
              refine lv_goto (tgt := 8) hx hb dX4_isBadFor_76 (by decide) ?_
              have z1 : hs_s (re_e rn t) (re_b rn t) x (i + 1) = false := by rw [hs_sS, h20, decide_eq_false h31]; rfl
              have z2 : hs_a (re_e rn t) (re_b rn t) x (i + 1) = false := by rw [hs_aS, h42, decide_eq_true h53, h63]; rfl
              exact ih_8 _ (i + 1) _ (by omega) ⟨rfl, by omega, by rw [z1, z2]; exact lv_sub hl [3, 4, 5, 2, 1, 0] rfl⟩
            · -- else 63
              have h63 := zI_eq0.mp c_63
              refine lv_iconst (v := 1) hx hb dX4_isBadFor_66 (by decide) ?_
              refine lv_goto (tgt := 71) hx hb dX4_isBadFor_67 (by decide) ?_
              refine lv_istore (lv' := [(4, .int 1), (3, .int 0), (0, .ref m0), (1, .int (nI t)), (2, .int x), (5, .int (nI i))]) hx hb dX4_isBadFor_71 hl (by decide) rfl (fun ls hl => ?_)
              refine lv_iinc (v := nI (i + 1)) (lv' := [(5, .int (nI (i + 1))), (4, .int 1), (3, .int 0), (0, .ref m0), (1, .int (nI t)), (2, .int x)]) hx hb dX4_isBadFor_73 hl (k := 5) rfl (nI_1 i) (by decide) rfl (fun ls hl => ?_)
              refine lv_goto (tgt := 8) hx hb dX4_isBadFor_76 (by decide) ?_
              have z1 : hs_s (re_e rn t) (re_b rn t) x (i + 1) = false := by rw [hs_sS, h20, decide_eq_false h31]; rfl
              have z2 : hs_a (re_e rn t) (re_b rn t) x (i + 1) = true := by rw [hs_aS, h42, decide_eq_true h53, h63]; rfl
              exact ih_8 _ (i + 1) _ (by omega) ⟨rfl, by omega, by rw [z1, z2]; exact lv_sub hl [3, 4, 5, 2, 1, 0] rfl⟩
      · -- else 31
        have h31 := c_31
        refine lv_iconst (v := 1) hx hb dX4_isBadFor_34 (by decide) ?_
        refine lv_goto (tgt := 39) hx hb dX4_isBadFor_35 (by decide) ?_
        refine lv_istore_n (lv' := [(3, .int 1), (0, .ref m0), (1, .int (nI t)), (2, .int x), (4, .int (zI (hs_a (re_e rn t) (re_b rn t) x i))), (5, .int (nI i))]) hx hb dX4_isBadFor_39 rfl hl (by decide) rfl (fun ls hl => ?_)
        refine lv_iload hx hb dX4_isBadFor_40 (lv_at hl 4 rfl) ?_
        refine lv_if_eq (tgt := 70) hx hb dX4_isBadFor_42 (by decide) (fun c_42 => ?_) (fun c_42 => ?_)
        · -- then 42
          have h42 := zI_eq0.mp c_42
          refine lv_iconst (v := 0) hx hb dX4_isBadFor_70 (by decide) ?_
          refine lv_istore (lv' := [(4, .int 0), (3, .int 1), (0, .ref m0), (1, .int (nI t)), (2, .int x), (5, .int (nI i))]) hx hb dX4_isBadFor_71 hl (by decide) rfl (fun ls hl => ?_)
          refine lv_iinc (v := nI (i + 1)) (lv' := [(5, .int (nI (i + 1))), (4, .int 0), (3, .int 1), (0, .ref m0), (1, .int (nI t)), (2, .int x)]) hx hb dX4_isBadFor_73 hl (k := 5) rfl (nI_1 i) (by decide) rfl (fun ls hl => ?_)
          refine lv_goto (tgt := 8) hx hb dX4_isBadFor_76 (by decide) ?_
          have z1 : hs_s (re_e rn t) (re_b rn t) x (i + 1) = true := by rw [hs_sS, h20, decide_eq_true h31]; rfl
          have z2 : hs_a (re_e rn t) (re_b rn t) x (i + 1) = false := by rw [hs_aS, h42]; rfl
          exact ih_8 _ (i + 1) _ (by omega) ⟨rfl, by omega, by rw [z1, z2]; exact lv_sub hl [3, 4, 5, 2, 1, 0] rfl⟩
        · -- else 42
          have h42 := zI_ne0.mp c_42
          refine lv_aload_n hx hb dX4_isBadFor_45 rfl (lv_at hl 1 rfl) ?_
          refine lv_iload_n hx hb dX4_isBadFor_46 rfl (lv_at hl 2 rfl) ?_
          refine lv_iload hx hb dX4_isBadFor_47 (lv_at hl 5 rfl) ?_
          have hPc := hP.sub (ws' := [(m0, .inr (4, [v0, v1, v2, v3, v4, .ref pz, .ref pr, v7, v8, v9, v10, v11, v12, v13])), (pr, .inl (cI, 576, .inl (fun j => nI (rn j))))]) [0, 2] rfl
          have hKc := hK.sub (tys' := [(cI, .int)]) [0] rfl
          refine vp_callSi (va_runV (As := [.int (nI t), .int (nI i)]) (rest := []) ⟨hx, hb, hml, hown, hts⟩ (c_ref_edition l dC dI m0 pr cI v0 v1 v2 v3 v4 (.ref pz) v7 v8 v9 v10 v11 v12 v13 rn t i ht (by omega) hrn) (cwV 2 hts gX4_isBadFor_X4_edition rfl rfl rfl (by decide +kernel) ⟨Nat.le_of_ble_eq_true rfl, Nat.le_of_ble_eq_true rfl⟩) (fw_preVR hN hKc hPc (ci := 4) (q0 := 0) rfl rfl) rfl rfl hl.1 rfl (lv_room (Nat.le_of_ble_eq_true rfl)) dX4_isBadFor_49 ⟨Nat.le_of_ble_eq_true rfl, Nat.le_of_ble_eq_true rfl⟩).run (fun r_49 hr_49 => ?_)
          obtain rfl : r_49 = re_e rn t i := hr_49
          refine lv_iload_n hx hb dX4_isBadFor_52 rfl (lv_at hl 3 rfl) ?_
          refine lv_icmp_ne (tgt := 66) hx hb dX4_isBadFor_53 (by decide) (fun c_53 => ?_) (fun c_53 => ?_)
          · -- then 53
            have h53 := c_53
            refine lv_iconst (v := 1) hx hb dX4_isBadFor_66 (by decide) ?_
            refine lv_goto (tgt := 71) hx hb dX4_isBadFor_67 (by decide) ?_
            refine lv_istore (lv' := [(4, .int 1), (3, .int 1), (0, .ref m0), (1, .int (nI t)), (2, .int x), (5, .int (nI i))]) hx hb dX4_isBadFor_71 hl (by decide) rfl (fun ls hl => ?_)
            refine lv_iinc (v := nI (i + 1)) (lv' := [(5, .int (nI (i + 1))), (4, .int 1), (3, .int 1), (0, .ref m0), (1, .int (nI t)), (2, .int x)]) hx hb dX4_isBadFor_73 hl (k := 5) rfl (nI_1 i) (by decide) rfl (fun ls hl => ?_)
            refine lv_goto (tgt := 8) hx hb dX4_isBadFor_76 (by decide) ?_
            have z1 : hs_s (re_e rn t) (re_b rn t) x (i + 1) = true := by rw [hs_sS, h20, decide_eq_true h31]; rfl
            have z2 : hs_a (re_e rn t) (re_b rn t) x (i + 1) = true := by rw [hs_aS, h42, decide_eq_false h53]; rfl
            exact ih_8 _ (i + 1) _ (by omega) ⟨rfl, by omega, by rw [z1, z2]; exact lv_sub hl [3, 4, 5, 2, 1, 0] rfl⟩
          · -- else 53
            have h53 := c_53
            refine lv_aload_n hx hb dX4_isBadFor_56 rfl (lv_at hl 1 rfl) ?_
            refine lv_iload_n hx hb dX4_isBadFor_57 rfl (lv_at hl 2 rfl) ?_
            refine lv_iload hx hb dX4_isBadFor_58 (lv_at hl 5 rfl) ?_
            have hPc := hP.sub (ws' := [(m0, .inr (4, [v0, v1, v2, v3, v4, .ref pz, .ref pr, v7, v8, v9, v10, v11, v12, v13])), (pr, .inl (cI, 576, .inl (fun j => nI (rn j))))]) [0, 2] rfl
            have hKc := hK.sub (tys' := [(cI, .int)]) [0] rfl
            refine vp_callSi (va_runV (As := [.int (nI t), .int (nI i)]) (rest := []) ⟨hx, hb, hml, hown, hts⟩ (c_ref_isPass l dC dI m0 pr cI v0 v1 v2 v3 v4 (.ref pz) v7 v8 v9 v10 v11 v12 v13 rn t i ht (by omega) hrn) (cwV 2 hts gX4_isBadFor_X4_isPass rfl rfl rfl (by decide +kernel) ⟨Nat.le_of_ble_eq_true rfl, Nat.le_of_ble_eq_true rfl⟩) (fw_preVR hN hKc hPc (ci := 4) (q0 := 0) rfl rfl) rfl rfl hl.1 rfl (lv_room (Nat.le_of_ble_eq_true rfl)) dX4_isBadFor_60 ⟨Nat.le_of_ble_eq_true rfl, Nat.le_of_ble_eq_true rfl⟩).run (fun r_60 hr_60 => ?_)
            obtain rfl : r_60 = zI (re_b rn t i) := hr_60
            refine lv_if_ne (tgt := 70) hx hb dX4_isBadFor_63 (by decide) (fun c_63 => ?_) (fun c_63 => ?_)
            · -- then 63
              have h63 := zI_ne0.mp c_63
              refine lv_iconst (v := 0) hx hb dX4_isBadFor_70 (by decide) ?_
              refine lv_istore (lv' := [(4, .int 0), (3, .int 1), (0, .ref m0), (1, .int (nI t)), (2, .int x), (5, .int (nI i))]) hx hb dX4_isBadFor_71 hl (by decide) rfl (fun ls hl => ?_)
              refine lv_iinc (v := nI (i + 1)) (lv' := [(5, .int (nI (i + 1))), (4, .int 0), (3, .int 1), (0, .ref m0), (1, .int (nI t)), (2, .int x)]) hx hb dX4_isBadFor_73 hl (k := 5) rfl (nI_1 i) (by decide) rfl (fun ls hl => ?_)
              refine lv_goto (tgt := 8) hx hb dX4_isBadFor_76 (by decide) ?_
              have z1 : hs_s (re_e rn t) (re_b rn t) x (i + 1) = true := by rw [hs_sS, h20, decide_eq_true h31]; rfl
              have z2 : hs_a (re_e rn t) (re_b rn t) x (i + 1) = false := by rw [hs_aS, h42, decide_eq_true h53, h63]; rfl
              exact ih_8 _ (i + 1) _ (by omega) ⟨rfl, by omega, by rw [z1, z2]; exact lv_sub hl [3, 4, 5, 2, 1, 0] rfl⟩
            · -- else 63
              have h63 := zI_eq0.mp c_63
              refine lv_iconst (v := 1) hx hb dX4_isBadFor_66 (by decide) ?_
              refine lv_goto (tgt := 71) hx hb dX4_isBadFor_67 (by decide) ?_
              refine lv_istore (lv' := [(4, .int 1), (3, .int 1), (0, .ref m0), (1, .int (nI t)), (2, .int x), (5, .int (nI i))]) hx hb dX4_isBadFor_71 hl (by decide) rfl (fun ls hl => ?_)
              refine lv_iinc (v := nI (i + 1)) (lv' := [(5, .int (nI (i + 1))), (4, .int 1), (3, .int 1), (0, .ref m0), (1, .int (nI t)), (2, .int x)]) hx hb dX4_isBadFor_73 hl (k := 5) rfl (nI_1 i) (by decide) rfl (fun ls hl => ?_)
              refine lv_goto (tgt := 8) hx hb dX4_isBadFor_76 (by decide) ?_
              have z1 : hs_s (re_e rn t) (re_b rn t) x (i + 1) = true := by rw [hs_sS, h20, decide_eq_true h31]; rfl
              have z2 : hs_a (re_e rn t) (re_b rn t) x (i + 1) = true := by rw [hs_aS, h42, decide_eq_true h53, h63]; rfl
              exact ih_8 _ (i + 1) _ (by omega) ⟨rfl, by omega, by rw [z1, z2]; exact lv_sub hl [3, 4, 5, 2, 1, 0] rfl⟩
set_option maxHeartbeats 4000000 in
set_option maxRecDepth 100000 in
theorem c_ref_throws (l : Launch) (dC : Nat → ClassId) (dI : Nat → Nat → Nat) (m0 pz pr : Nat) (cI : ClassId) (v0 v1 v2 v3 v4 v7 v8 v9 v10 v11 v12 v13 : Value) (zf rn : Nat → Nat) (t : Nat) (ht : t < 12) (hz48 : zf t ≤ 48) (hrn : ∀ j, j < 576 → rn j < 2000) : Met l yX4_throwsOf wsX4_throwsOf ({ frames := 2, cells := 0, slots := 0, locals := 47 } : Room) (va_Pc [.ref m0, .int (nI t)] (fw_pR (dC, dI) vwCl [(cI, .int)] [(m0, .inr (4, [v0, v1, v2, v3, v4, .ref pz, .ref pr, v7, v8, v9, v10, v11, v12, v13])), (pz, .inl (cI, 12, .inl (fun j => nI (zf j)))), (pr, .inl (cI, 576, .inl (fun j => nI (rn j))))])) (vp_Si (fun r => r = nI (hv_N (re_e rn t) (re_b rn t) (zf t) (zf t)))) 0 0 (fun _ => False) := by
  refine fw_metR (cc := cX4_throwsOf) (maxL := 4) (ret := (some .int)) (by decide) rfl (Nat.le_of_ble_eq_true rfl) ?_
  intro zp ze zs zm zbelow zmeth zc ls hx hb hr hts hown hlocks hml hin hN hP hK hl
  have hown : zs.vm.findClass RX4 = some zm.cls := hown
  have hl : lv_has ls 4 [(0, .ref m0), (1, .int (nI t))] := hl
  refine lv_iconst (v := 0) hx hb dX4_throwsOf_0 (by decide) ?_
  refine lv_istore_n (lv' := [(2, .int 0), (0, .ref m0), (1, .int (nI t))]) hx hb dX4_throwsOf_1 rfl hl (by decide) rfl (fun ls hl => ?_)
  refine lv_iconst (v := 0) hx hb dX4_throwsOf_2 (by decide) ?_
  refine lv_istore_n (lv' := [(3, .int 0), (2, .int 0), (0, .ref m0), (1, .int (nI t))]) hx hb dX4_throwsOf_3 rfl hl (by decide) rfl (fun ls hl => ?_)
  refine fw_loopR (σ := Nat) (I := fun zn u ls => match u with | i => zn = zf t - i ∧ (i ≤ zf t) ∧ lv_has ls 4 [(0, .ref m0), (1, .int (nI t)), (2, .int (nI (hv_N (re_e rn t) (re_b rn t) (zf t) i))), (3, .int (nI i))]) ?_ _ 0 _ ⟨rfl, by omega, lv_sub hl [2, 3, 1, 0] rfl⟩
  intro zn i ls hI ih_4
  obtain ⟨hzn, hi, hl⟩ := hI
  refine lv_iload_n hx hb dX4_throwsOf_4 rfl (lv_at hl 3 rfl) ?_
  refine lv_aload_n hx hb dX4_throwsOf_5 rfl (lv_at hl 0 rfl) ?_
  refine va_get (D := (dC, dI)) (ci := 4) (v := .ref pz) (C := RX4) (T := TX4) (N := 14) hx hb hts (by decide +kernel) hown hK hP 0 rfl rfl 5 (by decide) (hts (.fieldLink RX4 19 "FlakyBoundsModel" "size" "[I") (by decide +kernel)) (fun _ h9 => h9) rfl dX4_throwsOf_6 ?_
  refine lv_iload_n hx hb dX4_throwsOf_9 rfl (lv_at hl 1 rfl) ?_
  refine va_iald hx hb hK hP 1 0 rfl rfl (vp_in_nI (by omega) (by decide)) dX4_throwsOf_10 ?_
  refine fw_i (x' := nI (zf t)) (by rw [nI_clamp (by omega)]) ?_
  refine lv_icmp_ge (tgt := 42) hx hb dX4_throwsOf_11 (by decide) (fun c_11 => ?_) (fun c_11 => ?_)
  · -- then 11
    have hend : i = zf t := by have := (nI_leI (a := zf t) (b := i) (by omega) (by omega)).mp c_11; omega
    refine lv_iload_n hx hb dX4_throwsOf_42 rfl (lv_at hl 2 rfl) ?_
    exact W.iret (v := (nI (hv_N (re_e rn t) (re_b rn t) (zf t) i))) hx hb hr (fun zt zht _ => ⟨(nI (hv_N (re_e rn t) (re_b rn t) (zf t) i)), rfl, by rw [hend], zht⟩) (fun q h => by cases h) dX4_throwsOf_43 hlocks
  · -- else 11
    have hlt : i < zf t := by
      rcases Nat.lt_or_ge i (zf t) with q9 | q9
      · exact q9
      · exact absurd (nI_le (a := zf t) (b := i) q9 (by omega)) c_11
    refine lv_iload_n hx hb dX4_throwsOf_14 rfl (lv_at hl 2 rfl) ?_
    refine lv_aload_n hx hb dX4_throwsOf_15 rfl (lv_at hl 0 rfl) ?_
    refine lv_iload_n hx hb dX4_throwsOf_16 rfl (lv_at hl 1 rfl) ?_
    refine lv_aload_n hx hb dX4_throwsOf_17 rfl (lv_at hl 0 rfl) ?_
    refine lv_iload_n hx hb dX4_throwsOf_18 rfl (lv_at hl 1 rfl) ?_
    refine lv_iload_n hx hb dX4_throwsOf_19 rfl (lv_at hl 3 rfl) ?_
    have hPc := hP.sub (ws' := [(m0, .inr (4, [v0, v1, v2, v3, v4, .ref pz, .ref pr, v7, v8, v9, v10, v11, v12, v13])), (pr, .inl (cI, 576, .inl (fun j => nI (rn j))))]) [0, 2] rfl
    have hKc := hK.sub (tys' := [(cI, .int)]) [0] rfl
    refine vp_callSi (va_runV (As := [.int (nI t), .int (nI i)]) (rest := [.int (nI t), .ref m0, .int (nI (hv_N (re_e rn t) (re_b rn t) (zf t) i))]) ⟨hx, hb, hml, hown, hts⟩ (c_ref_edition l dC dI m0 pr cI v0 v1 v2 v3 v4 (.ref pz) v7 v8 v9 v10 v11 v12 v13 rn t i ht (by omega) hrn) (cwV 2 hts gX4_throwsOf_X4_edition rfl rfl rfl (by decide +kernel) ⟨Nat.le_of_ble_eq_true rfl, Nat.le_of_ble_eq_true rfl⟩) (fw_preVR hN hKc hPc (ci := 4) (q0 := 0) rfl rfl) rfl rfl hl.1 rfl (lv_room (Nat.le_of_ble_eq_true rfl)) dX4_throwsOf_20 ⟨Nat.le_of_ble_eq_true rfl, Nat.le_of_ble_eq_true rfl⟩).run (fun r_20 hr_20 => ?_)
    obtain rfl : r_20 = re_e rn t i := hr_20
    have hPc := hP.sub (ws' := [(m0, .inr (4, [v0, v1, v2, v3, v4, .ref pz, .ref pr, v7, v8, v9, v10, v11, v12, v13])), (pz, .inl (cI, 12, .inl (fun j => nI (zf j)))), (pr, .inl (cI, 576, .inl (fun j => nI (rn j))))]) [0, 1, 2] rfl
    have hKc := hK.sub (tys' := [(cI, .int)]) [0] rfl
    refine vp_callSi (va_runV (As := [.int (nI t), .int (re_e rn t i)]) (rest := [.int (nI (hv_N (re_e rn t) (re_b rn t) (zf t) i))]) ⟨hx, hb, hml, hown, hts⟩ (c_ref_isBad l dC dI m0 pz pr cI v0 v1 v2 v3 v4 v7 v8 v9 v10 v11 v12 v13 zf rn t (re_e rn t i) ht hz48 hrn) (cwV 2 hts gX4_throwsOf_X4_isBadFor rfl rfl rfl (by decide +kernel) ⟨Nat.le_of_ble_eq_true rfl, Nat.le_of_ble_eq_true rfl⟩) (fw_preVR hN hKc hPc (ci := 4) (q0 := 0) rfl rfl) rfl rfl hl.1 rfl (lv_room (Nat.le_of_ble_eq_true rfl)) dX4_throwsOf_23 ⟨Nat.le_of_ble_eq_true rfl, Nat.le_of_ble_eq_true rfl⟩).run (fun r_23 hr_23 => ?_)
    obtain rfl : r_23 = zI (hv_has (re_e rn t) (re_b rn t) (re_e rn t i) false (zf t) && !hv_has (re_e rn t) (re_b rn t) (re_e rn t i) true (zf t)) := hr_23
    refine lv_if_eq (tgt := 33) hx hb dX4_throwsOf_26 (by decide) (fun c_26 => ?_) (fun c_26 => ?_)
    · -- then 26
      have h26 := zI_eq0.mp c_26
      have hbc : ((re_b rn t) i || hv_con (re_e rn t) (re_b rn t) (zf t) i) = true := by rw [← hv_bad hlt, h26]; rfl
      refine lv_iconst (v := 1) hx hb dX4_throwsOf_33 (by decide) ?_
      refine lv_iadd hx hb dX4_throwsOf_34 ?_
      refine fw_i (x' := nI (hv_N (re_e rn t) (re_b rn t) (zf t) (i + 1))) (by rw [hv_NS, if_pos hbc]; exact nI_1 _) ?_
      refine lv_istore_n (lv' := [(2, .int (nI (hv_N (re_e rn t) (re_b rn t) (zf t) (i + 1)))), (0, .ref m0), (1, .int (nI t)), (3, .int (nI i))]) hx hb dX4_throwsOf_35 rfl hl (by decide) rfl (fun ls hl => ?_)
      refine lv_iinc (v := nI (i + 1)) (lv' := [(3, .int (nI (i + 1))), (2, .int (nI (hv_N (re_e rn t) (re_b rn t) (zf t) (i + 1)))), (0, .ref m0), (1, .int (nI t))]) hx hb dX4_throwsOf_36 hl (k := 3) rfl (nI_1 i) (by decide) rfl (fun ls hl => ?_)
      refine lv_goto (tgt := 4) hx hb dX4_throwsOf_39 (by decide) ?_
      exact ih_4 _ (i + 1) _ (by omega) ⟨rfl, by omega, lv_sub hl [2, 3, 1, 0] rfl⟩
    · -- else 26
      have h26 := zI_ne0.mp c_26
      have hbc : ((re_b rn t) i || hv_con (re_e rn t) (re_b rn t) (zf t) i) = false := by rw [← hv_bad hlt, h26]; rfl
      refine lv_iconst (v := 0) hx hb dX4_throwsOf_29 (by decide) ?_
      refine lv_goto (tgt := 34) hx hb dX4_throwsOf_30 (by decide) ?_
      refine lv_iadd hx hb dX4_throwsOf_34 ?_
      refine fw_i (x' := nI (hv_N (re_e rn t) (re_b rn t) (zf t) (i + 1))) (by rw [hv_NS, hbc, if_neg (by decide)]; exact nI_add _ 0) ?_
      refine lv_istore_n (lv' := [(2, .int (nI (hv_N (re_e rn t) (re_b rn t) (zf t) (i + 1)))), (0, .ref m0), (1, .int (nI t)), (3, .int (nI i))]) hx hb dX4_throwsOf_35 rfl hl (by decide) rfl (fun ls hl => ?_)
      refine lv_iinc (v := nI (i + 1)) (lv' := [(3, .int (nI (i + 1))), (2, .int (nI (hv_N (re_e rn t) (re_b rn t) (zf t) (i + 1)))), (0, .ref m0), (1, .int (nI t))]) hx hb dX4_throwsOf_36 hl (k := 3) rfl (nI_1 i) (by decide) rfl (fun ls hl => ?_)
      refine lv_goto (tgt := 4) hx hb dX4_throwsOf_39 (by decide) ?_
      exact ih_4 _ (i + 1) _ (by omega) ⟨rfl, by omega, lv_sub hl [2, 3, 1, 0] rfl⟩
set_option maxHeartbeats 4000000 in
set_option maxRecDepth 100000 in
theorem c_ref_hits (l : Launch) (dC : Nat → ClassId) (dI : Nat → Nat → Nat) (m0 pz pr : Nat) (cI : ClassId) (v0 v1 v2 v3 v4 v7 v8 v9 v10 v11 v12 v13 : Value) (zf rn : Nat → Nat) (t : Nat) (ht : t < 12) (hz48 : zf t ≤ 48) (hrn : ∀ j, j < 576 → rn j < 2000) : Met l yX4_hitsOf wsX4_hitsOf ({ frames := 2, cells := 0, slots := 0, locals := 47 } : Room) (va_Pc [.ref m0, .int (nI t)] (fw_pR (dC, dI) vwCl [(cI, .int)] [(m0, .inr (4, [v0, v1, v2, v3, v4, .ref pz, .ref pr, v7, v8, v9, v10, v11, v12, v13])), (pz, .inl (cI, 12, .inl (fun j => nI (zf j)))), (pr, .inl (cI, 576, .inl (fun j => nI (rn j))))])) (vp_Si (fun r => r = nI (hv_X (re_e rn t) (re_b rn t) (zf t) (zf t)))) 0 0 (fun _ => False) := by
  refine fw_metR (cc := cX4_hitsOf) (maxL := 4) (ret := (some .int)) (by decide) rfl (Nat.le_of_ble_eq_true rfl) ?_
  intro zp ze zs zm zbelow zmeth zc ls hx hb hr hts hown hlocks hml hin hN hP hK hl
  have hown : zs.vm.findClass RX4 = some zm.cls := hown
  have hl : lv_has ls 4 [(0, .ref m0), (1, .int (nI t))] := hl
  refine lv_iconst (v := 0) hx hb dX4_hitsOf_0 (by decide) ?_
  refine lv_istore_n (lv' := [(2, .int 0), (0, .ref m0), (1, .int (nI t))]) hx hb dX4_hitsOf_1 rfl hl (by decide) rfl (fun ls hl => ?_)
  refine lv_iconst (v := 0) hx hb dX4_hitsOf_2 (by decide) ?_
  refine lv_istore_n (lv' := [(3, .int 0), (2, .int 0), (0, .ref m0), (1, .int (nI t))]) hx hb dX4_hitsOf_3 rfl hl (by decide) rfl (fun ls hl => ?_)
  refine fw_loopR (σ := Nat) (I := fun zn u ls => match u with | i => zn = zf t - i ∧ (i ≤ zf t) ∧ lv_has ls 4 [(0, .ref m0), (1, .int (nI t)), (2, .int (nI (hv_X (re_e rn t) (re_b rn t) (zf t) i))), (3, .int (nI i))]) ?_ _ 0 _ ⟨rfl, by omega, lv_sub hl [2, 3, 1, 0] rfl⟩
  intro zn i ls hI ih_4
  obtain ⟨hzn, hi, hl⟩ := hI
  refine lv_iload_n hx hb dX4_hitsOf_4 rfl (lv_at hl 3 rfl) ?_
  refine lv_aload_n hx hb dX4_hitsOf_5 rfl (lv_at hl 0 rfl) ?_
  refine va_get (D := (dC, dI)) (ci := 4) (v := .ref pz) (C := RX4) (T := TX4) (N := 14) hx hb hts (by decide +kernel) hown hK hP 0 rfl rfl 5 (by decide) (hts (.fieldLink RX4 19 "FlakyBoundsModel" "size" "[I") (by decide +kernel)) (fun _ h9 => h9) rfl dX4_hitsOf_6 ?_
  refine lv_iload_n hx hb dX4_hitsOf_9 rfl (lv_at hl 1 rfl) ?_
  refine va_iald hx hb hK hP 1 0 rfl rfl (vp_in_nI (by omega) (by decide)) dX4_hitsOf_10 ?_
  refine fw_i (x' := nI (zf t)) (by rw [nI_clamp (by omega)]) ?_
  refine lv_icmp_ge (tgt := 51) hx hb dX4_hitsOf_11 (by decide) (fun c_11 => ?_) (fun c_11 => ?_)
  · -- then 11
    have hend : i = zf t := by have := (nI_leI (a := zf t) (b := i) (by omega) (by omega)).mp c_11; omega
    refine lv_iload_n hx hb dX4_hitsOf_51 rfl (lv_at hl 2 rfl) ?_
    exact W.iret (v := (nI (hv_X (re_e rn t) (re_b rn t) (zf t) i))) hx hb hr (fun zt zht _ => ⟨(nI (hv_X (re_e rn t) (re_b rn t) (zf t) i)), rfl, by rw [hend], zht⟩) (fun q h => by cases h) dX4_hitsOf_52 hlocks
  · -- else 11
    have hlt : i < zf t := by
      rcases Nat.lt_or_ge i (zf t) with q9 | q9
      · exact q9
      · exact absurd (nI_le (a := zf t) (b := i) q9 (by omega)) c_11
    refine lv_iload_n hx hb dX4_hitsOf_14 rfl (lv_at hl 2 rfl) ?_
    refine lv_aload_n hx hb dX4_hitsOf_15 rfl (lv_at hl 0 rfl) ?_
    refine lv_iload_n hx hb dX4_hitsOf_16 rfl (lv_at hl 1 rfl) ?_
    refine lv_aload_n hx hb dX4_hitsOf_17 rfl (lv_at hl 0 rfl) ?_
    refine lv_iload_n hx hb dX4_hitsOf_18 rfl (lv_at hl 1 rfl) ?_
    refine lv_iload_n hx hb dX4_hitsOf_19 rfl (lv_at hl 3 rfl) ?_
    have hPc := hP.sub (ws' := [(m0, .inr (4, [v0, v1, v2, v3, v4, .ref pz, .ref pr, v7, v8, v9, v10, v11, v12, v13])), (pr, .inl (cI, 576, .inl (fun j => nI (rn j))))]) [0, 2] rfl
    have hKc := hK.sub (tys' := [(cI, .int)]) [0] rfl
    refine vp_callSi (va_runV (As := [.int (nI t), .int (nI i)]) (rest := [.int (nI t), .ref m0, .int (nI (hv_X (re_e rn t) (re_b rn t) (zf t) i))]) ⟨hx, hb, hml, hown, hts⟩ (c_ref_edition l dC dI m0 pr cI v0 v1 v2 v3 v4 (.ref pz) v7 v8 v9 v10 v11 v12 v13 rn t i ht (by omega) hrn) (cwV 2 hts gX4_hitsOf_X4_edition rfl rfl rfl (by decide +kernel) ⟨Nat.le_of_ble_eq_true rfl, Nat.le_of_ble_eq_true rfl⟩) (fw_preVR hN hKc hPc (ci := 4) (q0 := 0) rfl rfl) rfl rfl hl.1 rfl (lv_room (Nat.le_of_ble_eq_true rfl)) dX4_hitsOf_20 ⟨Nat.le_of_ble_eq_true rfl, Nat.le_of_ble_eq_true rfl⟩).run (fun r_20 hr_20 => ?_)
    obtain rfl : r_20 = re_e rn t i := hr_20
    have hPc := hP.sub (ws' := [(m0, .inr (4, [v0, v1, v2, v3, v4, .ref pz, .ref pr, v7, v8, v9, v10, v11, v12, v13])), (pz, .inl (cI, 12, .inl (fun j => nI (zf j)))), (pr, .inl (cI, 576, .inl (fun j => nI (rn j))))]) [0, 1, 2] rfl
    have hKc := hK.sub (tys' := [(cI, .int)]) [0] rfl
    refine vp_callSi (va_runV (As := [.int (nI t), .int (re_e rn t i)]) (rest := [.int (nI (hv_X (re_e rn t) (re_b rn t) (zf t) i))]) ⟨hx, hb, hml, hown, hts⟩ (c_ref_isBad l dC dI m0 pz pr cI v0 v1 v2 v3 v4 v7 v8 v9 v10 v11 v12 v13 zf rn t (re_e rn t i) ht hz48 hrn) (cwV 2 hts gX4_hitsOf_X4_isBadFor rfl rfl rfl (by decide +kernel) ⟨Nat.le_of_ble_eq_true rfl, Nat.le_of_ble_eq_true rfl⟩) (fw_preVR hN hKc hPc (ci := 4) (q0 := 0) rfl rfl) rfl rfl hl.1 rfl (lv_room (Nat.le_of_ble_eq_true rfl)) dX4_hitsOf_23 ⟨Nat.le_of_ble_eq_true rfl, Nat.le_of_ble_eq_true rfl⟩).run (fun r_23 hr_23 => ?_)
    obtain rfl : r_23 = zI (hv_has (re_e rn t) (re_b rn t) (re_e rn t i) false (zf t) && !hv_has (re_e rn t) (re_b rn t) (re_e rn t i) true (zf t)) := hr_23
    refine lv_if_ne (tgt := 38) hx hb dX4_hitsOf_26 (by decide) (fun c_26 => ?_) (fun c_26 => ?_)
    · -- then 26
      have h26 := zI_ne0.mp c_26
      have hb0 : ((re_b rn t) i || hv_con (re_e rn t) (re_b rn t) (zf t) i) = false := by rw [← hv_bad hlt, h26]; rfl
      have hbc : (!(re_b rn t) i && hv_con (re_e rn t) (re_b rn t) (zf t) i) = false := by
        rw [Bool.or_eq_false_iff] at hb0
        rw [hb0.2, Bool.and_false]
      refine lv_iconst (v := 0) hx hb dX4_hitsOf_38 (by decide) ?_
      refine lv_goto (tgt := 43) hx hb dX4_hitsOf_39 (by decide) ?_
      refine lv_iadd hx hb dX4_hitsOf_43 ?_
      refine fw_i (x' := nI (hv_X (re_e rn t) (re_b rn t) (zf t) (i + 1))) (by rw [hv_XS, hbc, if_neg (by decide)]; exact nI_add _ 0) ?_
      refine lv_istore_n (lv' := [(2, .int (nI (hv_X (re_e rn t) (re_b rn t) (zf t) (i + 1)))), (0, .ref m0), (1, .int (nI t)), (3, .int (nI i))]) hx hb dX4_hitsOf_44 rfl hl (by decide) rfl (fun ls hl => ?_)
      refine lv_iinc (v := nI (i + 1)) (lv' := [(3, .int (nI (i + 1))), (2, .int (nI (hv_X (re_e rn t) (re_b rn t) (zf t) (i + 1)))), (0, .ref m0), (1, .int (nI t))]) hx hb dX4_hitsOf_45 hl (k := 3) rfl (nI_1 i) (by decide) rfl (fun ls hl => ?_)
      refine lv_goto (tgt := 4) hx hb dX4_hitsOf_48 (by decide) ?_
      exact ih_4 _ (i + 1) _ (by omega) ⟨rfl, by omega, lv_sub hl [2, 3, 1, 0] rfl⟩
    · -- else 26
      have h26 := zI_eq0.mp c_26
      have hb0 : ((re_b rn t) i || hv_con (re_e rn t) (re_b rn t) (zf t) i) = true := by rw [← hv_bad hlt, h26]; rfl
      refine lv_aload_n hx hb dX4_hitsOf_29 rfl (lv_at hl 0 rfl) ?_
      refine lv_iload_n hx hb dX4_hitsOf_30 rfl (lv_at hl 1 rfl) ?_
      refine lv_iload_n hx hb dX4_hitsOf_31 rfl (lv_at hl 3 rfl) ?_
      have hPc := hP.sub (ws' := [(m0, .inr (4, [v0, v1, v2, v3, v4, .ref pz, .ref pr, v7, v8, v9, v10, v11, v12, v13])), (pr, .inl (cI, 576, .inl (fun j => nI (rn j))))]) [0, 2] rfl
      have hKc := hK.sub (tys' := [(cI, .int)]) [0] rfl
      refine vp_callSi (va_runV (As := [.int (nI t), .int (nI i)]) (rest := [.int (nI (hv_X (re_e rn t) (re_b rn t) (zf t) i))]) ⟨hx, hb, hml, hown, hts⟩ (c_ref_isPass l dC dI m0 pr cI v0 v1 v2 v3 v4 (.ref pz) v7 v8 v9 v10 v11 v12 v13 rn t i ht (by omega) hrn) (cwV 2 hts gX4_hitsOf_X4_isPass rfl rfl rfl (by decide +kernel) ⟨Nat.le_of_ble_eq_true rfl, Nat.le_of_ble_eq_true rfl⟩) (fw_preVR hN hKc hPc (ci := 4) (q0 := 0) rfl rfl) rfl rfl hl.1 rfl (lv_room (Nat.le_of_ble_eq_true rfl)) dX4_hitsOf_32 ⟨Nat.le_of_ble_eq_true rfl, Nat.le_of_ble_eq_true rfl⟩).run (fun r_32 hr_32 => ?_)
      obtain rfl : r_32 = zI (re_b rn t i) := hr_32
      refine lv_if_eq (tgt := 42) hx hb dX4_hitsOf_35 (by decide) (fun c_35 => ?_) (fun c_35 => ?_)
      · -- then 35
        have h35 := zI_eq0.mp c_35
        have hbc : (!(re_b rn t) i && hv_con (re_e rn t) (re_b rn t) (zf t) i) = true := by
          rw [h35, Bool.false_or] at hb0
          rw [h35, hb0]; rfl
        refine lv_iconst (v := 1) hx hb dX4_hitsOf_42 (by decide) ?_
        refine lv_iadd hx hb dX4_hitsOf_43 ?_
        refine fw_i (x' := nI (hv_X (re_e rn t) (re_b rn t) (zf t) (i + 1))) (by rw [hv_XS, if_pos hbc]; exact nI_1 _) ?_
        refine lv_istore_n (lv' := [(2, .int (nI (hv_X (re_e rn t) (re_b rn t) (zf t) (i + 1)))), (0, .ref m0), (1, .int (nI t)), (3, .int (nI i))]) hx hb dX4_hitsOf_44 rfl hl (by decide) rfl (fun ls hl => ?_)
        refine lv_iinc (v := nI (i + 1)) (lv' := [(3, .int (nI (i + 1))), (2, .int (nI (hv_X (re_e rn t) (re_b rn t) (zf t) (i + 1)))), (0, .ref m0), (1, .int (nI t))]) hx hb dX4_hitsOf_45 hl (k := 3) rfl (nI_1 i) (by decide) rfl (fun ls hl => ?_)
        refine lv_goto (tgt := 4) hx hb dX4_hitsOf_48 (by decide) ?_
        exact ih_4 _ (i + 1) _ (by omega) ⟨rfl, by omega, lv_sub hl [2, 3, 1, 0] rfl⟩
      · -- else 35
        have h35 := zI_ne0.mp c_35
        have hbc : (!(re_b rn t) i && hv_con (re_e rn t) (re_b rn t) (zf t) i) = false := by rw [h35]; rfl
        refine lv_iconst (v := 0) hx hb dX4_hitsOf_38 (by decide) ?_
        refine lv_goto (tgt := 43) hx hb dX4_hitsOf_39 (by decide) ?_
        refine lv_iadd hx hb dX4_hitsOf_43 ?_
        refine fw_i (x' := nI (hv_X (re_e rn t) (re_b rn t) (zf t) (i + 1))) (by rw [hv_XS, hbc, if_neg (by decide)]; exact nI_add _ 0) ?_
        refine lv_istore_n (lv' := [(2, .int (nI (hv_X (re_e rn t) (re_b rn t) (zf t) (i + 1)))), (0, .ref m0), (1, .int (nI t)), (3, .int (nI i))]) hx hb dX4_hitsOf_44 rfl hl (by decide) rfl (fun ls hl => ?_)
        refine lv_iinc (v := nI (i + 1)) (lv' := [(3, .int (nI (i + 1))), (2, .int (nI (hv_X (re_e rn t) (re_b rn t) (zf t) (i + 1)))), (0, .ref m0), (1, .int (nI t))]) hx hb dX4_hitsOf_45 hl (k := 3) rfl (nI_1 i) (by decide) rfl (fun ls hl => ?_)
        refine lv_goto (tgt := 4) hx hb dX4_hitsOf_48 (by decide) ?_
        exact ih_4 _ (i + 1) _ (by omega) ⟨rfl, by omega, lv_sub hl [2, 3, 1, 0] rfl⟩
set_option maxHeartbeats 4000000 in
set_option maxRecDepth 100000 in
theorem c_ref_doubt (l : Launch) (dC : Nat → ClassId) (dI : Nat → Nat → Nat) (m0 pz pr : Nat) (cI : ClassId) (v0 v1 v2 v3 v4 v7 v8 v9 v10 v11 v12 v13 : Value) (zf rn : Nat → Nat) (t : Nat) (ht : t < 12) (hz48 : zf t ≤ 48) (hrn : ∀ j, j < 576 → rn j < 2000) : Met l yX4_doubtful wsX4_doubtful ({ frames := 1, cells := 0, slots := 0, locals := 22 } : Room) (va_Pc [.ref m0, .int (nI t)] (fw_pR (dC, dI) vwCl [(cI, .int)] [(m0, .inr (4, [v0, v1, v2, v3, v4, .ref pz, .ref pr, v7, v8, v9, v10, v11, v12, v13])), (pz, .inl (cI, 12, .inl (fun j => nI (zf j)))), (pr, .inl (cI, 576, .inl (fun j => nI (rn j))))])) (vp_Si (fun r => r = nI (hv_D (re_e rn t) (re_b rn t) (zf t) (zf t)))) 0 0 (fun _ => False) := by
  refine fw_metR (cc := cX4_doubtful) (maxL := 6) (ret := (some .int)) (by decide) rfl (Nat.le_of_ble_eq_true rfl) ?_
  intro zp ze zs zm zbelow zmeth zc ls hx hb hr hts hown hlocks hml hin hN hP hK hl
  have hown : zs.vm.findClass RX4 = some zm.cls := hown
  have hl : lv_has ls 6 [(0, .ref m0), (1, .int (nI t))] := hl
  refine lv_iconst (v := 0) hx hb dX4_doubtful_0 (by decide) ?_
  refine lv_istore_n (lv' := [(2, .int 0), (0, .ref m0), (1, .int (nI t))]) hx hb dX4_doubtful_1 rfl hl (by decide) rfl (fun ls hl => ?_)
  refine lv_iconst (v := 0) hx hb dX4_doubtful_2 (by decide) ?_
  refine lv_istore_n (lv' := [(3, .int 0), (2, .int 0), (0, .ref m0), (1, .int (nI t))]) hx hb dX4_doubtful_3 rfl hl (by decide) rfl (fun ls hl => ?_)
  refine fw_loopR (σ := Nat) (I := fun zn u ls => match u with | i => zn = zf t - i ∧ (i ≤ zf t) ∧ lv_has ls 6 [(0, .ref m0), (1, .int (nI t)), (2, .int (nI (hv_D (re_e rn t) (re_b rn t) (zf t) i))), (3, .int (nI i))]) ?_ _ 0 _ ⟨rfl, by omega, lv_sub hl [2, 3, 1, 0] rfl⟩
  intro zn i ls hI ih_4
  obtain ⟨hzn, hi, hl⟩ := hI
  refine lv_iload_n hx hb dX4_doubtful_4 rfl (lv_at hl 3 rfl) ?_
  refine lv_aload_n hx hb dX4_doubtful_5 rfl (lv_at hl 0 rfl) ?_
  refine va_get (D := (dC, dI)) (ci := 4) (v := .ref pz) (C := RX4) (T := TX4) (N := 14) hx hb hts (by decide +kernel) hown hK hP 0 rfl rfl 5 (by decide) (hts (.fieldLink RX4 19 "FlakyBoundsModel" "size" "[I") (by decide +kernel)) (fun _ h9 => h9) rfl dX4_doubtful_6 ?_
  refine lv_iload_n hx hb dX4_doubtful_9 rfl (lv_at hl 1 rfl) ?_
  refine va_iald hx hb hK hP 1 0 rfl rfl (vp_in_nI (by omega) (by decide)) dX4_doubtful_10 ?_
  refine fw_i (x' := nI (zf t)) (by rw [nI_clamp (by omega)]) ?_
  refine lv_icmp_ge (tgt := 100) hx hb dX4_doubtful_11 (by decide) (fun c_11 => ?_) (fun c_11 => ?_)
  · -- then 11
    have hend : i = zf t := by have := (nI_leI (a := zf t) (b := i) (by omega) (by omega)).mp c_11; omega
    refine lv_iload_n hx hb dX4_doubtful_100 rfl (lv_at hl 2 rfl) ?_
    exact W.iret (v := (nI (hv_D (re_e rn t) (re_b rn t) (zf t) i))) hx hb hr (fun zt zht _ => ⟨(nI (hv_D (re_e rn t) (re_b rn t) (zf t) i)), rfl, by rw [hend], zht⟩) (fun q h => by cases h) dX4_doubtful_101 hlocks
  · -- else 11
    have hlt : i < zf t := by
      rcases Nat.lt_or_ge i (zf t) with q9 | q9
      · exact q9
      · exact absurd (nI_le (a := zf t) (b := i) q9 (by omega)) c_11
    refine lv_iconst (v := 0) hx hb dX4_doubtful_14 (by decide) ?_
    refine lv_istore (lv' := [(4, .int 0), (0, .ref m0), (1, .int (nI t)), (2, .int (nI (hv_D (re_e rn t) (re_b rn t) (zf t) i))), (3, .int (nI i))]) hx hb dX4_doubtful_15 hl (by decide) rfl (fun ls hl => ?_)
    refine lv_iconst (v := 0) hx hb dX4_doubtful_17 (by decide) ?_
    refine lv_istore (lv' := [(5, .int 0), (4, .int 0), (0, .ref m0), (1, .int (nI t)), (2, .int (nI (hv_D (re_e rn t) (re_b rn t) (zf t) i))), (3, .int (nI i))]) hx hb dX4_doubtful_18 hl (by decide) rfl (fun ls hl => ?_)
    refine fw_loopR (σ := Nat) (I := fun zn u ls => match u with | q => zn = zf t - q ∧ (q ≤ zf t) ∧ lv_has ls 6 [(0, .ref m0), (1, .int (nI t)), (2, .int (nI (hv_D (re_e rn t) (re_b rn t) (zf t) i))), (3, .int (nI i)), (4, .int (zI (hv_has (re_e rn t) (re_b rn t) (re_e rn t i) (!re_b rn t i) q))), (5, .int (nI q))]) ?_ _ 0 _ ⟨rfl, by omega, lv_sub hl [2, 3, 4, 5, 1, 0] rfl⟩
    intro zn q ls hI ih_20
    obtain ⟨hzn, hq, hl⟩ := hI
    refine lv_iload hx hb dX4_doubtful_20 (lv_at hl 5 rfl) ?_
    refine lv_aload_n hx hb dX4_doubtful_22 rfl (lv_at hl 0 rfl) ?_
    refine va_get (D := (dC, dI)) (ci := 4) (v := .ref pz) (C := RX4) (T := TX4) (N := 14) hx hb hts (by decide +kernel) hown hK hP 0 rfl rfl 5 (by decide) (hts (.fieldLink RX4 19 "FlakyBoundsModel" "size" "[I") (by decide +kernel)) (fun _ h9 => h9) rfl dX4_doubtful_23 ?_
    refine lv_iload_n hx hb dX4_doubtful_26 rfl (lv_at hl 1 rfl) ?_
    refine va_iald hx hb hK hP 1 0 rfl rfl (vp_in_nI (by omega) (by decide)) dX4_doubtful_27 ?_
    refine fw_i (x' := nI (zf t)) (by rw [nI_clamp (by omega)]) ?_
    refine lv_icmp_ge (tgt := 81) hx hb dX4_doubtful_28 (by decide) (fun c_28 => ?_) (fun c_28 => ?_)
    · -- then 28
      have hend2 : q = zf t := by have := (nI_leI (a := zf t) (b := q) (by omega) (by omega)).mp c_28; omega
      refine lv_iload_n hx hb dX4_doubtful_81 rfl (lv_at hl 2 rfl) ?_
      refine lv_iload hx hb dX4_doubtful_82 (lv_at hl 4 rfl) ?_
      refine lv_if_eq (tgt := 91) hx hb dX4_doubtful_84 (by decide) (fun c_84 => ?_) (fun c_84 => ?_)
      · -- then 84
        have h84 := zI_eq0.mp c_84
        rw [hend2] at h84
        have hcn : hv_con (re_e rn t) (re_b rn t) (zf t) i = false := h84
        refine lv_iconst (v := 0) hx hb dX4_doubtful_91 (by decide) ?_
        refine lv_iadd hx hb dX4_doubtful_92 ?_
        refine fw_i (x' := nI (hv_D (re_e rn t) (re_b rn t) (zf t) (i + 1))) (by rw [hv_DS, hcn, if_neg (by decide)]; exact nI_add _ 0) ?_
        refine lv_istore_n (lv' := [(2, .int (nI (hv_D (re_e rn t) (re_b rn t) (zf t) (i + 1)))), (0, .ref m0), (1, .int (nI t)), (3, .int (nI i)), (4, .int (zI (hv_has (re_e rn t) (re_b rn t) (re_e rn t i) (!re_b rn t i) q))), (5, .int (nI q))]) hx hb dX4_doubtful_93 rfl hl (by decide) rfl (fun ls hl => ?_)
        refine lv_iinc (v := nI (i + 1)) (lv' := [(3, .int (nI (i + 1))), (2, .int (nI (hv_D (re_e rn t) (re_b rn t) (zf t) (i + 1)))), (0, .ref m0), (1, .int (nI t)), (4, .int (zI (hv_has (re_e rn t) (re_b rn t) (re_e rn t i) (!re_b rn t i) q))), (5, .int (nI q))]) hx hb dX4_doubtful_94 hl (k := 3) rfl (nI_1 i) (by decide) rfl (fun ls hl => ?_)
        refine lv_goto (tgt := 4) hx hb dX4_doubtful_97 (by decide) ?_
        exact ih_4 _ (i + 1) _ (by omega) ⟨rfl, by omega, lv_sub hl [2, 3, 1, 0] rfl⟩
      · -- else 84
        have h84 := zI_ne0.mp c_84
        rw [hend2] at h84
        have hcn : hv_con (re_e rn t) (re_b rn t) (zf t) i = true := h84
        refine lv_iconst (v := 1) hx hb dX4_doubtful_87 (by decide) ?_
        refine lv_goto (tgt := 92) hx hb dX4_doubtful_88 (by decide) ?_
        refine lv_iadd hx hb dX4_doubtful_92 ?_
        refine fw_i (x' := nI (hv_D (re_e rn t) (re_b rn t) (zf t) (i + 1))) (by rw [hv_DS, hcn, if_pos rfl]; exact nI_1 _) ?_
        refine lv_istore_n (lv' := [(2, .int (nI (hv_D (re_e rn t) (re_b rn t) (zf t) (i + 1)))), (0, .ref m0), (1, .int (nI t)), (3, .int (nI i)), (4, .int (zI (hv_has (re_e rn t) (re_b rn t) (re_e rn t i) (!re_b rn t i) q))), (5, .int (nI q))]) hx hb dX4_doubtful_93 rfl hl (by decide) rfl (fun ls hl => ?_)
        refine lv_iinc (v := nI (i + 1)) (lv' := [(3, .int (nI (i + 1))), (2, .int (nI (hv_D (re_e rn t) (re_b rn t) (zf t) (i + 1)))), (0, .ref m0), (1, .int (nI t)), (4, .int (zI (hv_has (re_e rn t) (re_b rn t) (re_e rn t i) (!re_b rn t i) q))), (5, .int (nI q))]) hx hb dX4_doubtful_94 hl (k := 3) rfl (nI_1 i) (by decide) rfl (fun ls hl => ?_)
        refine lv_goto (tgt := 4) hx hb dX4_doubtful_97 (by decide) ?_
        exact ih_4 _ (i + 1) _ (by omega) ⟨rfl, by omega, lv_sub hl [2, 3, 1, 0] rfl⟩
    · -- else 28
      have hlt2 : q < zf t := by
        rcases Nat.lt_or_ge q (zf t) with q9 | q9
        · exact q9
        · exact absurd (nI_le (a := zf t) (b := q) q9 (by omega)) c_28
      refine lv_iload hx hb dX4_doubtful_31 (lv_at hl 4 rfl) ?_
      refine lv_if_ne (tgt := 68) hx hb dX4_doubtful_33 (by decide) (fun c_33 => ?_) (fun c_33 => ?_)
      · -- then 33
        have h33 := zI_ne0.mp c_33
        refine lv_iconst (v := 1) hx hb dX4_doubtful_68 (by decide) ?_
        refine lv_goto (tgt := 73) hx hb dX4_doubtful_69 (by decide) ?_
        refine lv_istore (lv' := [(4, .int 1), (0, .ref m0), (1, .int (nI t)), (2, .int (nI (hv_D (re_e rn t) (re_b rn t) (zf t) i))), (3, .int (nI i)), (5, .int (nI q))]) hx hb dX4_doubtful_73 hl (by decide) rfl (fun ls hl => ?_)
        refine lv_iinc (v := nI (q + 1)) (lv' := [(5, .int (nI (q + 1))), (4, .int 1), (0, .ref m0), (1, .int (nI t)), (2, .int (nI (hv_D (re_e rn t) (re_b rn t) (zf t) i))), (3, .int (nI i))]) hx hb dX4_doubtful_75 hl (k := 5) rfl (nI_1 q) (by decide) rfl (fun ls hl => ?_)
        refine lv_goto (tgt := 20) hx hb dX4_doubtful_78 (by decide) ?_
        have z1 : hv_has (re_e rn t) (re_b rn t) (re_e rn t i) (!re_b rn t i) (q + 1) = true := by rw [hv_hasQ, h33]; rfl
        exact ih_20 _ (q + 1) _ (by omega) ⟨rfl, by omega, by rw [z1]; exact lv_sub hl [2, 3, 4, 5, 1, 0] rfl⟩
      · -- else 33
        have h33 := zI_eq0.mp c_33
        refine lv_aload_n hx hb dX4_doubtful_36 rfl (lv_at hl 0 rfl) ?_
        refine lv_iload_n hx hb dX4_doubtful_37 rfl (lv_at hl 1 rfl) ?_
        refine lv_iload hx hb dX4_doubtful_38 (lv_at hl 5 rfl) ?_
        have hPc := hP.sub (ws' := [(m0, .inr (4, [v0, v1, v2, v3, v4, .ref pz, .ref pr, v7, v8, v9, v10, v11, v12, v13])), (pr, .inl (cI, 576, .inl (fun j => nI (rn j))))]) [0, 2] rfl
        have hKc := hK.sub (tys' := [(cI, .int)]) [0] rfl
        refine vp_callSi (va_runV (As := [.int (nI t), .int (nI q)]) (rest := []) ⟨hx, hb, hml, hown, hts⟩ (c_ref_edition l dC dI m0 pr cI v0 v1 v2 v3 v4 (.ref pz) v7 v8 v9 v10 v11 v12 v13 rn t q ht (by omega) hrn) (cwV 2 hts gX4_doubtful_X4_edition rfl rfl rfl (by decide +kernel) ⟨Nat.le_of_ble_eq_true rfl, Nat.le_of_ble_eq_true rfl⟩) (fw_preVR hN hKc hPc (ci := 4) (q0 := 0) rfl rfl) rfl rfl hl.1 rfl (lv_room (Nat.le_of_ble_eq_true rfl)) dX4_doubtful_40 ⟨Nat.le_of_ble_eq_true rfl, Nat.le_of_ble_eq_true rfl⟩).run (fun r_40 hr_40 => ?_)
        obtain rfl : r_40 = re_e rn t q := hr_40
        refine lv_aload_n hx hb dX4_doubtful_43 rfl (lv_at hl 0 rfl) ?_
        refine lv_iload_n hx hb dX4_doubtful_44 rfl (lv_at hl 1 rfl) ?_
        refine lv_iload_n hx hb dX4_doubtful_45 rfl (lv_at hl 3 rfl) ?_
        have hPc := hP.sub (ws' := [(m0, .inr (4, [v0, v1, v2, v3, v4, .ref pz, .ref pr, v7, v8, v9, v10, v11, v12, v13])), (pr, .inl (cI, 576, .inl (fun j => nI (rn j))))]) [0, 2] rfl
        have hKc := hK.sub (tys' := [(cI, .int)]) [0] rfl
        refine vp_callSi (va_runV (As := [.int (nI t), .int (nI i)]) (rest := [.int (re_e rn t q)]) ⟨hx, hb, hml, hown, hts⟩ (c_ref_edition l dC dI m0 pr cI v0 v1 v2 v3 v4 (.ref pz) v7 v8 v9 v10 v11 v12 v13 rn t i ht (by omega) hrn) (cwV 2 hts gX4_doubtful_X4_edition rfl rfl rfl (by decide +kernel) ⟨Nat.le_of_ble_eq_true rfl, Nat.le_of_ble_eq_true rfl⟩) (fw_preVR hN hKc hPc (ci := 4) (q0 := 0) rfl rfl) rfl rfl hl.1 rfl (lv_room (Nat.le_of_ble_eq_true rfl)) dX4_doubtful_46 ⟨Nat.le_of_ble_eq_true rfl, Nat.le_of_ble_eq_true rfl⟩).run (fun r_46 hr_46 => ?_)
        obtain rfl : r_46 = re_e rn t i := hr_46
        refine lv_icmp_ne (tgt := 72) hx hb dX4_doubtful_49 (by decide) (fun c_49 => ?_) (fun c_49 => ?_)
        · -- then 49
          have h49 := c_49
          refine lv_iconst (v := 0) hx hb dX4_doubtful_72 (by decide) ?_
          refine lv_istore (lv' := [(4, .int 0), (0, .ref m0), (1, .int (nI t)), (2, .int (nI (hv_D (re_e rn t) (re_b rn t) (zf t) i))), (3, .int (nI i)), (5, .int (nI q))]) hx hb dX4_doubtful_73 hl (by decide) rfl (fun ls hl => ?_)
          refine lv_iinc (v := nI (q + 1)) (lv' := [(5, .int (nI (q + 1))), (4, .int 0), (0, .ref m0), (1, .int (nI t)), (2, .int (nI (hv_D (re_e rn t) (re_b rn t) (zf t) i))), (3, .int (nI i))]) hx hb dX4_doubtful_75 hl (k := 5) rfl (nI_1 q) (by decide) rfl (fun ls hl => ?_)
          refine lv_goto (tgt := 20) hx hb dX4_doubtful_78 (by decide) ?_
          have z1 : hv_has (re_e rn t) (re_b rn t) (re_e rn t i) (!re_b rn t i) (q + 1) = false := by rw [hv_hasQ, h33, decide_eq_false h49]; rfl
          exact ih_20 _ (q + 1) _ (by omega) ⟨rfl, by omega, by rw [z1]; exact lv_sub hl [2, 3, 4, 5, 1, 0] rfl⟩
        · -- else 49
          have h49 := c_49
          refine lv_aload_n hx hb dX4_doubtful_52 rfl (lv_at hl 0 rfl) ?_
          refine lv_iload_n hx hb dX4_doubtful_53 rfl (lv_at hl 1 rfl) ?_
          refine lv_iload hx hb dX4_doubtful_54 (lv_at hl 5 rfl) ?_
          have hPc := hP.sub (ws' := [(m0, .inr (4, [v0, v1, v2, v3, v4, .ref pz, .ref pr, v7, v8, v9, v10, v11, v12, v13])), (pr, .inl (cI, 576, .inl (fun j => nI (rn j))))]) [0, 2] rfl
          have hKc := hK.sub (tys' := [(cI, .int)]) [0] rfl
          refine vp_callSi (va_runV (As := [.int (nI t), .int (nI q)]) (rest := []) ⟨hx, hb, hml, hown, hts⟩ (c_ref_isPass l dC dI m0 pr cI v0 v1 v2 v3 v4 (.ref pz) v7 v8 v9 v10 v11 v12 v13 rn t q ht (by omega) hrn) (cwV 2 hts gX4_doubtful_X4_isPass rfl rfl rfl (by decide +kernel) ⟨Nat.le_of_ble_eq_true rfl, Nat.le_of_ble_eq_true rfl⟩) (fw_preVR hN hKc hPc (ci := 4) (q0 := 0) rfl rfl) rfl rfl hl.1 rfl (lv_room (Nat.le_of_ble_eq_true rfl)) dX4_doubtful_56 ⟨Nat.le_of_ble_eq_true rfl, Nat.le_of_ble_eq_true rfl⟩).run (fun r_56 hr_56 => ?_)
          obtain rfl : r_56 = zI (re_b rn t q) := hr_56
          refine lv_aload_n hx hb dX4_doubtful_59 rfl (lv_at hl 0 rfl) ?_
          refine lv_iload_n hx hb dX4_doubtful_60 rfl (lv_at hl 1 rfl) ?_
          refine lv_iload_n hx hb dX4_doubtful_61 rfl (lv_at hl 3 rfl) ?_
          have hPc := hP.sub (ws' := [(m0, .inr (4, [v0, v1, v2, v3, v4, .ref pz, .ref pr, v7, v8, v9, v10, v11, v12, v13])), (pr, .inl (cI, 576, .inl (fun j => nI (rn j))))]) [0, 2] rfl
          have hKc := hK.sub (tys' := [(cI, .int)]) [0] rfl
          refine vp_callSi (va_runV (As := [.int (nI t), .int (nI i)]) (rest := [.int (zI (re_b rn t q))]) ⟨hx, hb, hml, hown, hts⟩ (c_ref_isPass l dC dI m0 pr cI v0 v1 v2 v3 v4 (.ref pz) v7 v8 v9 v10 v11 v12 v13 rn t i ht (by omega) hrn) (cwV 2 hts gX4_doubtful_X4_isPass rfl rfl rfl (by decide +kernel) ⟨Nat.le_of_ble_eq_true rfl, Nat.le_of_ble_eq_true rfl⟩) (fw_preVR hN hKc hPc (ci := 4) (q0 := 0) rfl rfl) rfl rfl hl.1 rfl (lv_room (Nat.le_of_ble_eq_true rfl)) dX4_doubtful_62 ⟨Nat.le_of_ble_eq_true rfl, Nat.le_of_ble_eq_true rfl⟩).run (fun r_62 hr_62 => ?_)
          obtain rfl : r_62 = zI (re_b rn t i) := hr_62
          refine lv_icmp_eq (tgt := 72) hx hb dX4_doubtful_65 (by decide) (fun c_65 => ?_) (fun c_65 => ?_)
          · -- then 65
            have h65 := zI_inj.mp c_65
            refine lv_iconst (v := 0) hx hb dX4_doubtful_72 (by decide) ?_
            refine lv_istore (lv' := [(4, .int 0), (0, .ref m0), (1, .int (nI t)), (2, .int (nI (hv_D (re_e rn t) (re_b rn t) (zf t) i))), (3, .int (nI i)), (5, .int (nI q))]) hx hb dX4_doubtful_73 hl (by decide) rfl (fun ls hl => ?_)
            refine lv_iinc (v := nI (q + 1)) (lv' := [(5, .int (nI (q + 1))), (4, .int 0), (0, .ref m0), (1, .int (nI t)), (2, .int (nI (hv_D (re_e rn t) (re_b rn t) (zf t) i))), (3, .int (nI i))]) hx hb dX4_doubtful_75 hl (k := 5) rfl (nI_1 q) (by decide) rfl (fun ls hl => ?_)
            refine lv_goto (tgt := 20) hx hb dX4_doubtful_78 (by decide) ?_
            have z1 : hv_has (re_e rn t) (re_b rn t) (re_e rn t i) (!re_b rn t i) (q + 1) = false := by rw [hv_hasQ, h33, re_ne, decide_eq_true h65, Bool.not_true, Bool.and_false]; rfl
            exact ih_20 _ (q + 1) _ (by omega) ⟨rfl, by omega, by rw [z1]; exact lv_sub hl [2, 3, 4, 5, 1, 0] rfl⟩
          · -- else 65
            have h65 : ¬ re_b rn t q = re_b rn t i := fun q9 => c_65 (by rw [q9])
            refine lv_iconst (v := 1) hx hb dX4_doubtful_68 (by decide) ?_
            refine lv_goto (tgt := 73) hx hb dX4_doubtful_69 (by decide) ?_
            refine lv_istore (lv' := [(4, .int 1), (0, .ref m0), (1, .int (nI t)), (2, .int (nI (hv_D (re_e rn t) (re_b rn t) (zf t) i))), (3, .int (nI i)), (5, .int (nI q))]) hx hb dX4_doubtful_73 hl (by decide) rfl (fun ls hl => ?_)
            refine lv_iinc (v := nI (q + 1)) (lv' := [(5, .int (nI (q + 1))), (4, .int 1), (0, .ref m0), (1, .int (nI t)), (2, .int (nI (hv_D (re_e rn t) (re_b rn t) (zf t) i))), (3, .int (nI i))]) hx hb dX4_doubtful_75 hl (k := 5) rfl (nI_1 q) (by decide) rfl (fun ls hl => ?_)
            refine lv_goto (tgt := 20) hx hb dX4_doubtful_78 (by decide) ?_
            have z1 : hv_has (re_e rn t) (re_b rn t) (re_e rn t i) (!re_b rn t i) (q + 1) = true := by rw [hv_hasQ, h33, re_ne, decide_eq_false h65, decide_eq_true h49]; rfl
            exact ih_20 _ (q + 1) _ (by omega) ⟨rfl, by omega, by rw [z1]; exact lv_sub hl [2, 3, 4, 5, 1, 0] rfl⟩
end

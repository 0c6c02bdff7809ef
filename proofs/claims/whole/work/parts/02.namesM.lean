/-! NAMES of the reference and of the law's calls (the printed names leave them out) -/
def RX4 : String := "FlakyBoundsModel"
def TX4 : u_T := fun k => match k with
  | 0 => ("FlakyBoundsModel", "thrown", "I", false)
  | 1 => ("FlakyBoundsModel", "tests", "I", false)
  | 2 => ("FlakyBoundsModel", "level", "I", false)
  | 3 => ("FlakyBoundsModel", "mark", "I", false)
  | 4 => ("FlakyBoundsModel", "clear", "I", false)
  | 5 => ("FlakyBoundsModel", "size", "[I", true)
  | 6 => ("FlakyBoundsModel", "runs", "[I", true)
  | 7 => ("FlakyBoundsModel", "isMarked", "[Z", true)
  | 8 => ("FlakyBoundsModel", "marks", "[I", true)
  | 9 => ("FlakyBoundsModel", "judged", "[I", true)
  | 10 => ("FlakyBoundsModel", "fails", "[I", true)
  | 11 => ("FlakyBoundsModel", "sum", "[J", true)
  | 12 => ("FlakyBoundsModel", "term", "[J", true)
  | _ => ("FlakyBoundsModel", "whole", "[J", true)
def tyX4 : Nat → FieldType := fun k => match k with
  | 0 => .int
  | 1 => .int
  | 2 => .int
  | 3 => .int
  | 4 => .int
  | 5 => .array .int
  | 6 => .array .int
  | 7 => .array .boolean
  | 8 => .array .int
  | 9 => .array .int
  | 10 => .array .int
  | 11 => .array .long
  | 12 => .array .long
  | _ => .array .long
abbrev wsX40 : List Cond := u_ws RX4 TX4 14
theorem nmX4 : ∀ a, a < 14 → ∀ b, b < 14 → a ≠ b → (TX4 a).2.1 ≠ (TX4 b).2.1 := by decide +kernel
theorem tyX4_ok : ∀ k, k < 14 → parseFieldDescriptor (TX4 k).2.2.1 = some (tyX4 k) := by decide +kernel
abbrev cX4_init : ByteArray := prog_6_method_1_code
def yX4_init : MethodName := ⟨RX4, "<init>", "()V"⟩
abbrev cX4_isTest : ByteArray := prog_6_method_3_code
def yX4_isTest : MethodName := ⟨RX4, "isTest", "(I)Z"⟩
abbrev cX4_isEdition : ByteArray := prog_6_method_4_code
def yX4_isEdition : MethodName := ⟨RX4, "isEdition", "(I)Z"⟩
abbrev cX4_set : ByteArray := prog_6_method_5_code
def yX4_set : MethodName := ⟨RX4, "set", "([JJ)V"⟩
abbrev cX4_times : ByteArray := prog_6_method_6_code
def yX4_times : MethodName := ⟨RX4, "times", "([JJ)V"⟩
abbrev cX4_plus : ByteArray := prog_6_method_7_code
def yX4_plus : MethodName := ⟨RX4, "plus", "([J[J)V"⟩
abbrev cX4_isAbove : ByteArray := prog_6_method_8_code
def yX4_isAbove : MethodName := ⟨RX4, "isAbove", "([J[J)Z"⟩
abbrev cX4_over : ByteArray := prog_6_method_9_code
def yX4_over : MethodName := ⟨RX4, "over", "(II)J"⟩
abbrev cX4_add : ByteArray := prog_6_method_10_code
def yX4_add : MethodName := ⟨RX4, "add", "(IIII)V"⟩
abbrev cX4_shareOf : ByteArray := prog_6_method_11_code
def yX4_shareOf : MethodName := ⟨RX4, "shareOf", "(IIZ)V"⟩
abbrev cX4_isAboveLevel : ByteArray := prog_6_method_12_code
def yX4_isAboveLevel : MethodName := ⟨RX4, "isAboveLevel", "(II)Z"⟩
abbrev cX4_boundOf : ByteArray := prog_6_method_13_code
def yX4_boundOf : MethodName := ⟨RX4, "boundOf", "(IIZ)I"⟩
abbrev cX4_edition : ByteArray := prog_6_method_14_code
def yX4_edition : MethodName := ⟨RX4, "edition", "(II)I"⟩
abbrev cX4_isPass : ByteArray := prog_6_method_15_code
def yX4_isPass : MethodName := ⟨RX4, "isPass", "(II)Z"⟩
abbrev cX4_isBadFor : ByteArray := prog_6_method_16_code
def yX4_isBadFor : MethodName := ⟨RX4, "isBadFor", "(II)Z"⟩
abbrev cX4_throwsOf : ByteArray := prog_6_method_17_code
def yX4_throwsOf : MethodName := ⟨RX4, "throwsOf", "(I)I"⟩
abbrev cX4_hitsOf : ByteArray := prog_6_method_18_code
def yX4_hitsOf : MethodName := ⟨RX4, "hitsOf", "(I)I"⟩
abbrev cX4_doubtful : ByteArray := prog_6_method_19_code
def yX4_doubtful : MethodName := ⟨RX4, "doubtful", "(I)I"⟩
abbrev cX4_runs : ByteArray := prog_6_method_20_code
def yX4_runs : MethodName := ⟨RX4, "runs", "(IIZ)V"⟩
abbrev cX4_test : ByteArray := prog_6_method_21_code
def yX4_test : MethodName := ⟨RX4, "test", "()I"⟩
abbrev cX4_rules : ByteArray := prog_6_method_22_code
def yX4_rules : MethodName := ⟨RX4, "rules", "(III)Z"⟩
abbrev cX4_run : ByteArray := prog_6_method_23_code
def yX4_run : MethodName := ⟨RX4, "run", "(IIZ)Z"⟩
abbrev cX4_judge : ByteArray := prog_6_method_24_code
def yX4_judge : MethodName := ⟨RX4, "judge", "(IIZ)I"⟩
abbrev cX4_about : ByteArray := prog_6_method_25_code
def yX4_about : MethodName := ⟨RX4, "about", "(II)I"⟩
abbrev cX4_bound : ByteArray := prog_6_method_26_code
def yX4_bound : MethodName := ⟨RX4, "bound", "(IIZ)I"⟩
abbrev cX4_digit : ByteArray := prog_6_method_27_code
def yX4_digit : MethodName := ⟨RX4, "digit", "(I)I"⟩
abbrev cX4_share : ByteArray := prog_6_method_28_code
def yX4_share : MethodName := ⟨RX4, "share", "(IIZI)J"⟩
abbrev cX4_isBad : ByteArray := prog_6_method_29_code
def yX4_isBad : MethodName := ⟨RX4, "isBad", "(II)Z"⟩
abbrev cX4_broken : ByteArray := prog_6_method_30_code
def yX4_broken : MethodName := ⟨RX4, "broken", "(I)I"⟩
def wsX4_init : List Cond := .code yX4_init cX4_init 1 none :: ([.methodLink RX4 1 objectInit, .instanceMethod objectInit, .code objectInit ⟨#[0xb1]⟩ 1 none, .fieldLink RX4 7 "FlakyBoundsModel" "level" "I", .fieldLink RX4 13 "FlakyBoundsModel" "mark" "I", .fieldLink RX4 16 "FlakyBoundsModel" "clear" "I", .arrayClass .int, .fieldLink RX4 19 "FlakyBoundsModel" "size" "[I", .fieldLink RX4 23 "FlakyBoundsModel" "runs" "[I", .arrayClass .boolean, .fieldLink RX4 26 "FlakyBoundsModel" "isMarked" "[Z", .fieldLink RX4 30 "FlakyBoundsModel" "marks" "[I", .fieldLink RX4 33 "FlakyBoundsModel" "judged" "[I", .fieldLink RX4 36 "FlakyBoundsModel" "fails" "[I", .arrayClass .long, .fieldLink RX4 39 "FlakyBoundsModel" "sum" "[J", .fieldLink RX4 43 "FlakyBoundsModel" "term" "[J", .fieldLink RX4 46 "FlakyBoundsModel" "whole" "[J"] ++ wsX40)
def wsX4_isTest : List Cond := .code yX4_isTest cX4_isTest 2 (some .boolean) :: ([.fieldLink RX4 52 "FlakyBoundsModel" "tests" "I"] ++ wsX40)
def wsX4_isEdition : List Cond := .code yX4_isEdition cX4_isEdition 1 (some .boolean) :: ([] ++ wsX40)
def wsX4_set : List Cond := .code yX4_set cX4_set 4 none :: ([] ++ wsX40)
def wsX4_times : List Cond := .code yX4_times cX4_times 8 none :: ([.constantLong RX4 55 (10000)] ++ wsX40)
def wsX4_plus : List Cond := .code yX4_plus cX4_plus 7 none :: ([.constantLong RX4 55 (10000)] ++ wsX40)
def wsX4_isAbove : List Cond := .code yX4_isAbove cX4_isAbove 3 (some .boolean) :: ([] ++ wsX40)
def wsX4_over : List Cond := .code yX4_over cX4_over 5 (some .long) :: ([] ++ wsX40)
def wsX4_add : List Cond := .code yX4_add cX4_add 7 none :: ([.fieldLink RX4 39 "FlakyBoundsModel" "sum" "[J", .methodLink RX4 57 yX4_set, .static yX4_set, .initialized RX4, .fieldLink RX4 43 "FlakyBoundsModel" "term" "[J", .methodLink RX4 61 yX4_times, .static yX4_times, .methodLink RX4 64 yX4_over, .static yX4_over, .methodLink RX4 68 yX4_plus, .static yX4_plus, .code yX4_set cX4_set 4 none, .code yX4_times cX4_times 8 none, .constantLong RX4 55 (10000), .code yX4_over cX4_over 5 (some .long), .code yX4_plus cX4_plus 7 none] ++ wsX40)
def wsX4_edition : List Cond := .code yX4_edition cX4_edition 3 (some .int) :: ([.fieldLink RX4 23 "FlakyBoundsModel" "runs" "[I"] ++ wsX40)
def wsX4_isPass : List Cond := .code yX4_isPass cX4_isPass 3 (some .boolean) :: ([.fieldLink RX4 23 "FlakyBoundsModel" "runs" "[I"] ++ wsX40)
def wsX4_isBadFor : List Cond := .code yX4_isBadFor cX4_isBadFor 6 (some .boolean) :: ([.fieldLink RX4 19 "FlakyBoundsModel" "size" "[I", .methodLink RX4 97 yX4_edition, .instanceMethod yX4_edition, .selects RX4 yX4_edition yX4_edition, .initialized RX4, .methodLink RX4 101 yX4_isPass, .instanceMethod yX4_isPass, .selects RX4 yX4_isPass yX4_isPass, .code yX4_edition cX4_edition 3 (some .int), .fieldLink RX4 23 "FlakyBoundsModel" "runs" "[I", .code yX4_isPass cX4_isPass 3 (some .boolean)] ++ wsX40)
def wsX4_throwsOf : List Cond := .code yX4_throwsOf cX4_throwsOf 4 (some .int) :: ([.fieldLink RX4 19 "FlakyBoundsModel" "size" "[I", .methodLink RX4 97 yX4_edition, .instanceMethod yX4_edition, .selects RX4 yX4_edition yX4_edition, .initialized RX4, .methodLink RX4 104 yX4_isBadFor, .instanceMethod yX4_isBadFor, .selects RX4 yX4_isBadFor yX4_isBadFor, .code yX4_edition cX4_edition 3 (some .int), .fieldLink RX4 23 "FlakyBoundsModel" "runs" "[I", .code yX4_isBadFor cX4_isBadFor 6 (some .boolean), .methodLink RX4 101 yX4_isPass, .instanceMethod yX4_isPass, .selects RX4 yX4_isPass yX4_isPass, .code yX4_isPass cX4_isPass 3 (some .boolean)] ++ wsX40)
def wsX4_hitsOf : List Cond := .code yX4_hitsOf cX4_hitsOf 4 (some .int) :: ([.fieldLink RX4 19 "FlakyBoundsModel" "size" "[I", .methodLink RX4 97 yX4_edition, .instanceMethod yX4_edition, .selects RX4 yX4_edition yX4_edition, .initialized RX4, .methodLink RX4 104 yX4_isBadFor, .instanceMethod yX4_isBadFor, .selects RX4 yX4_isBadFor yX4_isBadFor, .methodLink RX4 101 yX4_isPass, .instanceMethod yX4_isPass, .selects RX4 yX4_isPass yX4_isPass, .code yX4_edition cX4_edition 3 (some .int), .fieldLink RX4 23 "FlakyBoundsModel" "runs" "[I", .code yX4_isBadFor cX4_isBadFor 6 (some .boolean), .code yX4_isPass cX4_isPass 3 (some .boolean)] ++ wsX40)
def wsX4_shareOf : List Cond := .code yX4_shareOf cX4_shareOf 6 none :: ([.methodLink RX4 72 yX4_throwsOf, .instanceMethod yX4_throwsOf, .selects RX4 yX4_throwsOf yX4_throwsOf, .initialized RX4, .methodLink RX4 76 yX4_hitsOf, .instanceMethod yX4_hitsOf, .selects RX4 yX4_hitsOf yX4_hitsOf, .methodLink RX4 79 yX4_add, .instanceMethod yX4_add, .selects RX4 yX4_add yX4_add, .code yX4_throwsOf cX4_throwsOf 4 (some .int), .fieldLink RX4 19 "FlakyBoundsModel" "size" "[I", .methodLink RX4 97 yX4_edition, .instanceMethod yX4_edition, .selects RX4 yX4_edition yX4_edition, .methodLink RX4 104 yX4_isBadFor, .instanceMethod yX4_isBadFor, .selects RX4 yX4_isBadFor yX4_isBadFor, .code yX4_edition cX4_edition 3 (some .int), .fieldLink RX4 23 "FlakyBoundsModel" "runs" "[I", .code yX4_isBadFor cX4_isBadFor 6 (some .boolean), .methodLink RX4 101 yX4_isPass, .instanceMethod yX4_isPass, .selects RX4 yX4_isPass yX4_isPass, .code yX4_isPass cX4_isPass 3 (some .boolean), .code yX4_hitsOf cX4_hitsOf 4 (some .int), .code yX4_add cX4_add 7 none, .fieldLink RX4 39 "FlakyBoundsModel" "sum" "[J", .methodLink RX4 57 yX4_set, .static yX4_set, .fieldLink RX4 43 "FlakyBoundsModel" "term" "[J", .methodLink RX4 61 yX4_times, .static yX4_times, .methodLink RX4 64 yX4_over, .static yX4_over, .methodLink RX4 68 yX4_plus, .static yX4_plus, .code yX4_set cX4_set 4 none, .code yX4_times cX4_times 8 none, .constantLong RX4 55 (10000), .code yX4_over cX4_over 5 (some .long), .code yX4_plus cX4_plus 7 none] ++ wsX40)
def wsX4_isAboveLevel : List Cond := .code yX4_isAboveLevel cX4_isAboveLevel 4 (some .boolean) :: ([.fieldLink RX4 39 "FlakyBoundsModel" "sum" "[J", .constantLong RX4 83 (1000), .methodLink RX4 61 yX4_times, .static yX4_times, .initialized RX4, .fieldLink RX4 46 "FlakyBoundsModel" "whole" "[J", .methodLink RX4 57 yX4_set, .static yX4_set, .methodLink RX4 85 yX4_isAbove, .static yX4_isAbove, .code yX4_times cX4_times 8 none, .constantLong RX4 55 (10000), .code yX4_set cX4_set 4 none, .code yX4_isAbove cX4_isAbove 3 (some .boolean)] ++ wsX40)
def wsX4_boundOf : List Cond := .code yX4_boundOf cX4_boundOf 8 (some .int) :: ([.methodLink RX4 89 yX4_shareOf, .instanceMethod yX4_shareOf, .selects RX4 yX4_shareOf yX4_shareOf, .initialized RX4, .methodLink RX4 72 yX4_throwsOf, .instanceMethod yX4_throwsOf, .selects RX4 yX4_throwsOf yX4_throwsOf, .methodLink RX4 93 yX4_isAboveLevel, .instanceMethod yX4_isAboveLevel, .selects RX4 yX4_isAboveLevel yX4_isAboveLevel, .code yX4_shareOf cX4_shareOf 6 none, .methodLink RX4 76 yX4_hitsOf, .instanceMethod yX4_hitsOf, .selects RX4 yX4_hitsOf yX4_hitsOf, .methodLink RX4 79 yX4_add, .instanceMethod yX4_add, .selects RX4 yX4_add yX4_add, .code yX4_throwsOf cX4_throwsOf 4 (some .int), .fieldLink RX4 19 "FlakyBoundsModel" "size" "[I", .methodLink RX4 97 yX4_edition, .instanceMethod yX4_edition, .selects RX4 yX4_edition yX4_edition, .methodLink RX4 104 yX4_isBadFor, .instanceMethod yX4_isBadFor, .selects RX4 yX4_isBadFor yX4_isBadFor, .code yX4_edition cX4_edition 3 (some .int), .fieldLink RX4 23 "FlakyBoundsModel" "runs" "[I", .code yX4_isBadFor cX4_isBadFor 6 (some .boolean), .methodLink RX4 101 yX4_isPass, .instanceMethod yX4_isPass, .selects RX4 yX4_isPass yX4_isPass, .code yX4_isPass cX4_isPass 3 (some .boolean), .code yX4_hitsOf cX4_hitsOf 4 (some .int), .code yX4_add cX4_add 7 none, .fieldLink RX4 39 "FlakyBoundsModel" "sum" "[J", .methodLink RX4 57 yX4_set, .static yX4_set, .fieldLink RX4 43 "FlakyBoundsModel" "term" "[J", .methodLink RX4 61 yX4_times, .static yX4_times, .methodLink RX4 64 yX4_over, .static yX4_over, .methodLink RX4 68 yX4_plus, .static yX4_plus, .code yX4_set cX4_set 4 none, .code yX4_times cX4_times 8 none, .constantLong RX4 55 (10000), .code yX4_over cX4_over 5 (some .long), .code yX4_plus cX4_plus 7 none, .code yX4_isAboveLevel cX4_isAboveLevel 4 (some .boolean), .constantLong RX4 83 (1000), .fieldLink RX4 46 "FlakyBoundsModel" "whole" "[J", .methodLink RX4 85 yX4_isAbove, .static yX4_isAbove, .code yX4_isAbove cX4_isAbove 3 (some .boolean)] ++ wsX40)
def wsX4_doubtful : List Cond := .code yX4_doubtful cX4_doubtful 6 (some .int) :: ([.fieldLink RX4 19 "FlakyBoundsModel" "size" "[I", .methodLink RX4 97 yX4_edition, .instanceMethod yX4_edition, .selects RX4 yX4_edition yX4_edition, .initialized RX4, .methodLink RX4 101 yX4_isPass, .instanceMethod yX4_isPass, .selects RX4 yX4_isPass yX4_isPass, .code yX4_edition cX4_edition 3 (some .int), .fieldLink RX4 23 "FlakyBoundsModel" "runs" "[I", .code yX4_isPass cX4_isPass 3 (some .boolean)] ++ wsX40)
def wsX4_runs : List Cond := .code yX4_runs cX4_runs 5 none :: ([.fieldLink RX4 19 "FlakyBoundsModel" "size" "[I", .fieldLink RX4 23 "FlakyBoundsModel" "runs" "[I", .fieldLink RX4 26 "FlakyBoundsModel" "isMarked" "[Z", .fieldLink RX4 7 "FlakyBoundsModel" "level" "I", .methodLink RX4 107 yX4_boundOf, .instanceMethod yX4_boundOf, .selects RX4 yX4_boundOf yX4_boundOf, .initialized RX4, .fieldLink RX4 16 "FlakyBoundsModel" "clear" "I", .fieldLink RX4 13 "FlakyBoundsModel" "mark" "I", .fieldLink RX4 30 "FlakyBoundsModel" "marks" "[I", .code yX4_boundOf cX4_boundOf 8 (some .int), .methodLink RX4 89 yX4_shareOf, .instanceMethod yX4_shareOf, .selects RX4 yX4_shareOf yX4_shareOf, .methodLink RX4 72 yX4_throwsOf, .instanceMethod yX4_throwsOf, .selects RX4 yX4_throwsOf yX4_throwsOf, .methodLink RX4 93 yX4_isAboveLevel, .instanceMethod yX4_isAboveLevel, .selects RX4 yX4_isAboveLevel yX4_isAboveLevel, .code yX4_shareOf cX4_shareOf 6 none, .methodLink RX4 76 yX4_hitsOf, .instanceMethod yX4_hitsOf, .selects RX4 yX4_hitsOf yX4_hitsOf, .methodLink RX4 79 yX4_add, .instanceMethod yX4_add, .selects RX4 yX4_add yX4_add, .code yX4_throwsOf cX4_throwsOf 4 (some .int), .methodLink RX4 97 yX4_edition, .instanceMethod yX4_edition, .selects RX4 yX4_edition yX4_edition, .methodLink RX4 104 yX4_isBadFor, .instanceMethod yX4_isBadFor, .selects RX4 yX4_isBadFor yX4_isBadFor, .code yX4_edition cX4_edition 3 (some .int), .code yX4_isBadFor cX4_isBadFor 6 (some .boolean), .methodLink RX4 101 yX4_isPass, .instanceMethod yX4_isPass, .selects RX4 yX4_isPass yX4_isPass, .code yX4_isPass cX4_isPass 3 (some .boolean), .code yX4_hitsOf cX4_hitsOf 4 (some .int), .code yX4_add cX4_add 7 none, .fieldLink RX4 39 "FlakyBoundsModel" "sum" "[J", .methodLink RX4 57 yX4_set, .static yX4_set, .fieldLink RX4 43 "FlakyBoundsModel" "term" "[J", .methodLink RX4 61 yX4_times, .static yX4_times, .methodLink RX4 64 yX4_over, .static yX4_over, .methodLink RX4 68 yX4_plus, .static yX4_plus, .code yX4_set cX4_set 4 none, .code yX4_times cX4_times 8 none, .constantLong RX4 55 (10000), .code yX4_over cX4_over 5 (some .long), .code yX4_plus cX4_plus 7 none, .code yX4_isAboveLevel cX4_isAboveLevel 4 (some .boolean), .constantLong RX4 83 (1000), .fieldLink RX4 46 "FlakyBoundsModel" "whole" "[J", .methodLink RX4 85 yX4_isAbove, .static yX4_isAbove, .code yX4_isAbove cX4_isAbove 3 (some .boolean)] ++ wsX40)
def wsX4_test : List Cond := .code yX4_test cX4_test 1 (some .int) :: ([.fieldLink RX4 49 "FlakyBoundsModel" "thrown" "I", .fieldLink RX4 52 "FlakyBoundsModel" "tests" "I", .fieldLink RX4 33 "FlakyBoundsModel" "judged" "[I"] ++ wsX40)
def wsX4_rules : List Cond := .code yX4_rules cX4_rules 4 (some .boolean) :: ([.fieldLink RX4 49 "FlakyBoundsModel" "thrown" "I", .fieldLink RX4 7 "FlakyBoundsModel" "level" "I", .fieldLink RX4 13 "FlakyBoundsModel" "mark" "I", .fieldLink RX4 16 "FlakyBoundsModel" "clear" "I"] ++ wsX40)
def wsX4_run : List Cond := .code yX4_run cX4_run 4 (some .boolean) :: ([.fieldLink RX4 49 "FlakyBoundsModel" "thrown" "I", .methodLink RX4 111 yX4_isTest, .instanceMethod yX4_isTest, .selects RX4 yX4_isTest yX4_isTest, .initialized RX4, .methodLink RX4 115 yX4_isEdition, .static yX4_isEdition, .methodLink RX4 118 yX4_runs, .instanceMethod yX4_runs, .selects RX4 yX4_runs yX4_runs, .code yX4_isTest cX4_isTest 2 (some .boolean), .fieldLink RX4 52 "FlakyBoundsModel" "tests" "I", .code yX4_isEdition cX4_isEdition 1 (some .boolean), .code yX4_runs cX4_runs 5 none, .fieldLink RX4 19 "FlakyBoundsModel" "size" "[I", .fieldLink RX4 23 "FlakyBoundsModel" "runs" "[I", .fieldLink RX4 26 "FlakyBoundsModel" "isMarked" "[Z", .fieldLink RX4 7 "FlakyBoundsModel" "level" "I", .methodLink RX4 107 yX4_boundOf, .instanceMethod yX4_boundOf, .selects RX4 yX4_boundOf yX4_boundOf, .fieldLink RX4 16 "FlakyBoundsModel" "clear" "I", .fieldLink RX4 13 "FlakyBoundsModel" "mark" "I", .fieldLink RX4 30 "FlakyBoundsModel" "marks" "[I", .code yX4_boundOf cX4_boundOf 8 (some .int), .methodLink RX4 89 yX4_shareOf, .instanceMethod yX4_shareOf, .selects RX4 yX4_shareOf yX4_shareOf, .methodLink RX4 72 yX4_throwsOf, .instanceMethod yX4_throwsOf, .selects RX4 yX4_throwsOf yX4_throwsOf, .methodLink RX4 93 yX4_isAboveLevel, .instanceMethod yX4_isAboveLevel, .selects RX4 yX4_isAboveLevel yX4_isAboveLevel, .code yX4_shareOf cX4_shareOf 6 none, .methodLink RX4 76 yX4_hitsOf, .instanceMethod yX4_hitsOf, .selects RX4 yX4_hitsOf yX4_hitsOf, .methodLink RX4 79 yX4_add, .instanceMethod yX4_add, .selects RX4 yX4_add yX4_add, .code yX4_throwsOf cX4_throwsOf 4 (some .int), .methodLink RX4 97 yX4_edition, .instanceMethod yX4_edition, .selects RX4 yX4_edition yX4_edition, .methodLink RX4 104 yX4_isBadFor, .instanceMethod yX4_isBadFor, .selects RX4 yX4_isBadFor yX4_isBadFor, .code yX4_edition cX4_edition 3 (some .int), .code yX4_isBadFor cX4_isBadFor 6 (some .boolean), .methodLink RX4 101 yX4_isPass, .instanceMethod yX4_isPass, .selects RX4 yX4_isPass yX4_isPass, .code yX4_isPass cX4_isPass 3 (some .boolean), .code yX4_hitsOf cX4_hitsOf 4 (some .int), .code yX4_add cX4_add 7 none, .fieldLink RX4 39 "FlakyBoundsModel" "sum" "[J", .methodLink RX4 57 yX4_set, .static yX4_set, .fieldLink RX4 43 "FlakyBoundsModel" "term" "[J", .methodLink RX4 61 yX4_times, .static yX4_times, .methodLink RX4 64 yX4_over, .static yX4_over, .methodLink RX4 68 yX4_plus, .static yX4_plus, .code yX4_set cX4_set 4 none, .code yX4_times cX4_times 8 none, .constantLong RX4 55 (10000), .code yX4_over cX4_over 5 (some .long), .code yX4_plus cX4_plus 7 none, .code yX4_isAboveLevel cX4_isAboveLevel 4 (some .boolean), .constantLong RX4 83 (1000), .fieldLink RX4 46 "FlakyBoundsModel" "whole" "[J", .methodLink RX4 85 yX4_isAbove, .static yX4_isAbove, .code yX4_isAbove cX4_isAbove 3 (some .boolean)] ++ wsX40)
def wsX4_judge : List Cond := .code yX4_judge cX4_judge 8 (some .int) :: ([.fieldLink RX4 49 "FlakyBoundsModel" "thrown" "I", .methodLink RX4 111 yX4_isTest, .instanceMethod yX4_isTest, .selects RX4 yX4_isTest yX4_isTest, .initialized RX4, .methodLink RX4 115 yX4_isEdition, .static yX4_isEdition, .fieldLink RX4 26 "FlakyBoundsModel" "isMarked" "[Z", .fieldLink RX4 33 "FlakyBoundsModel" "judged" "[I", .fieldLink RX4 36 "FlakyBoundsModel" "fails" "[I", .methodLink RX4 118 yX4_runs, .instanceMethod yX4_runs, .selects RX4 yX4_runs yX4_runs, .code yX4_isTest cX4_isTest 2 (some .boolean), .fieldLink RX4 52 "FlakyBoundsModel" "tests" "I", .code yX4_isEdition cX4_isEdition 1 (some .boolean), .code yX4_runs cX4_runs 5 none, .fieldLink RX4 19 "FlakyBoundsModel" "size" "[I", .fieldLink RX4 23 "FlakyBoundsModel" "runs" "[I", .fieldLink RX4 7 "FlakyBoundsModel" "level" "I", .methodLink RX4 107 yX4_boundOf, .instanceMethod yX4_boundOf, .selects RX4 yX4_boundOf yX4_boundOf, .fieldLink RX4 16 "FlakyBoundsModel" "clear" "I", .fieldLink RX4 13 "FlakyBoundsModel" "mark" "I", .fieldLink RX4 30 "FlakyBoundsModel" "marks" "[I", .code yX4_boundOf cX4_boundOf 8 (some .int), .methodLink RX4 89 yX4_shareOf, .instanceMethod yX4_shareOf, .selects RX4 yX4_shareOf yX4_shareOf, .methodLink RX4 72 yX4_throwsOf, .instanceMethod yX4_throwsOf, .selects RX4 yX4_throwsOf yX4_throwsOf, .methodLink RX4 93 yX4_isAboveLevel, .instanceMethod yX4_isAboveLevel, .selects RX4 yX4_isAboveLevel yX4_isAboveLevel, .code yX4_shareOf cX4_shareOf 6 none, .methodLink RX4 76 yX4_hitsOf, .instanceMethod yX4_hitsOf, .selects RX4 yX4_hitsOf yX4_hitsOf, .methodLink RX4 79 yX4_add, .instanceMethod yX4_add, .selects RX4 yX4_add yX4_add, .code yX4_throwsOf cX4_throwsOf 4 (some .int), .methodLink RX4 97 yX4_edition, .instanceMethod yX4_edition, .selects RX4 yX4_edition yX4_edition, .methodLink RX4 104 yX4_isBadFor, .instanceMethod yX4_isBadFor, .selects RX4 yX4_isBadFor yX4_isBadFor, .code yX4_edition cX4_edition 3 (some .int), .code yX4_isBadFor cX4_isBadFor 6 (some .boolean), .methodLink RX4 101 yX4_isPass, .instanceMethod yX4_isPass, .selects RX4 yX4_isPass yX4_isPass, .code yX4_isPass cX4_isPass 3 (some .boolean), .code yX4_hitsOf cX4_hitsOf 4 (some .int), .code yX4_add cX4_add 7 none, .fieldLink RX4 39 "FlakyBoundsModel" "sum" "[J", .methodLink RX4 57 yX4_set, .static yX4_set, .fieldLink RX4 43 "FlakyBoundsModel" "term" "[J", .methodLink RX4 61 yX4_times, .static yX4_times, .methodLink RX4 64 yX4_over, .static yX4_over, .methodLink RX4 68 yX4_plus, .static yX4_plus, .code yX4_set cX4_set 4 none, .code yX4_times cX4_times 8 none, .constantLong RX4 55 (10000), .code yX4_over cX4_over 5 (some .long), .code yX4_plus cX4_plus 7 none, .code yX4_isAboveLevel cX4_isAboveLevel 4 (some .boolean), .constantLong RX4 83 (1000), .fieldLink RX4 46 "FlakyBoundsModel" "whole" "[J", .methodLink RX4 85 yX4_isAbove, .static yX4_isAbove, .code yX4_isAbove cX4_isAbove 3 (some .boolean)] ++ wsX40)
def wsX4_about : List Cond := .code yX4_about cX4_about 3 (some .int) :: ([.fieldLink RX4 49 "FlakyBoundsModel" "thrown" "I", .methodLink RX4 111 yX4_isTest, .instanceMethod yX4_isTest, .selects RX4 yX4_isTest yX4_isTest, .initialized RX4, .fieldLink RX4 19 "FlakyBoundsModel" "size" "[I", .methodLink RX4 120 yX4_doubtful, .instanceMethod yX4_doubtful, .selects RX4 yX4_doubtful yX4_doubtful, .methodLink RX4 72 yX4_throwsOf, .instanceMethod yX4_throwsOf, .selects RX4 yX4_throwsOf yX4_throwsOf, .methodLink RX4 76 yX4_hitsOf, .instanceMethod yX4_hitsOf, .selects RX4 yX4_hitsOf yX4_hitsOf, .fieldLink RX4 26 "FlakyBoundsModel" "isMarked" "[Z", .fieldLink RX4 30 "FlakyBoundsModel" "marks" "[I", .code yX4_isTest cX4_isTest 2 (some .boolean), .fieldLink RX4 52 "FlakyBoundsModel" "tests" "I", .code yX4_doubtful cX4_doubtful 6 (some .int), .methodLink RX4 97 yX4_edition, .instanceMethod yX4_edition, .selects RX4 yX4_edition yX4_edition, .methodLink RX4 101 yX4_isPass, .instanceMethod yX4_isPass, .selects RX4 yX4_isPass yX4_isPass, .code yX4_edition cX4_edition 3 (some .int), .fieldLink RX4 23 "FlakyBoundsModel" "runs" "[I", .code yX4_isPass cX4_isPass 3 (some .boolean), .code yX4_throwsOf cX4_throwsOf 4 (some .int), .methodLink RX4 104 yX4_isBadFor, .instanceMethod yX4_isBadFor, .selects RX4 yX4_isBadFor yX4_isBadFor, .code yX4_isBadFor cX4_isBadFor 6 (some .boolean), .code yX4_hitsOf cX4_hitsOf 4 (some .int)] ++ wsX40)
def wsX4_bound : List Cond := .code yX4_bound cX4_bound 4 (some .int) :: ([.fieldLink RX4 49 "FlakyBoundsModel" "thrown" "I", .methodLink RX4 111 yX4_isTest, .instanceMethod yX4_isTest, .selects RX4 yX4_isTest yX4_isTest, .initialized RX4, .methodLink RX4 107 yX4_boundOf, .instanceMethod yX4_boundOf, .selects RX4 yX4_boundOf yX4_boundOf, .code yX4_isTest cX4_isTest 2 (some .boolean), .fieldLink RX4 52 "FlakyBoundsModel" "tests" "I", .code yX4_boundOf cX4_boundOf 8 (some .int), .methodLink RX4 89 yX4_shareOf, .instanceMethod yX4_shareOf, .selects RX4 yX4_shareOf yX4_shareOf, .methodLink RX4 72 yX4_throwsOf, .instanceMethod yX4_throwsOf, .selects RX4 yX4_throwsOf yX4_throwsOf, .methodLink RX4 93 yX4_isAboveLevel, .instanceMethod yX4_isAboveLevel, .selects RX4 yX4_isAboveLevel yX4_isAboveLevel, .code yX4_shareOf cX4_shareOf 6 none, .methodLink RX4 76 yX4_hitsOf, .instanceMethod yX4_hitsOf, .selects RX4 yX4_hitsOf yX4_hitsOf, .methodLink RX4 79 yX4_add, .instanceMethod yX4_add, .selects RX4 yX4_add yX4_add, .code yX4_throwsOf cX4_throwsOf 4 (some .int), .fieldLink RX4 19 "FlakyBoundsModel" "size" "[I", .methodLink RX4 97 yX4_edition, .instanceMethod yX4_edition, .selects RX4 yX4_edition yX4_edition, .methodLink RX4 104 yX4_isBadFor, .instanceMethod yX4_isBadFor, .selects RX4 yX4_isBadFor yX4_isBadFor, .code yX4_edition cX4_edition 3 (some .int), .fieldLink RX4 23 "FlakyBoundsModel" "runs" "[I", .code yX4_isBadFor cX4_isBadFor 6 (some .boolean), .methodLink RX4 101 yX4_isPass, .instanceMethod yX4_isPass, .selects RX4 yX4_isPass yX4_isPass, .code yX4_isPass cX4_isPass 3 (some .boolean), .code yX4_hitsOf cX4_hitsOf 4 (some .int), .code yX4_add cX4_add 7 none, .fieldLink RX4 39 "FlakyBoundsModel" "sum" "[J", .methodLink RX4 57 yX4_set, .static yX4_set, .fieldLink RX4 43 "FlakyBoundsModel" "term" "[J", .methodLink RX4 61 yX4_times, .static yX4_times, .methodLink RX4 64 yX4_over, .static yX4_over, .methodLink RX4 68 yX4_plus, .static yX4_plus, .code yX4_set cX4_set 4 none, .code yX4_times cX4_times 8 none, .constantLong RX4 55 (10000), .code yX4_over cX4_over 5 (some .long), .code yX4_plus cX4_plus 7 none, .code yX4_isAboveLevel cX4_isAboveLevel 4 (some .boolean), .constantLong RX4 83 (1000), .fieldLink RX4 46 "FlakyBoundsModel" "whole" "[J", .methodLink RX4 85 yX4_isAbove, .static yX4_isAbove, .code yX4_isAbove cX4_isAbove 3 (some .boolean)] ++ wsX40)
def wsX4_digit : List Cond := .code yX4_digit cX4_digit 5 (some .int) :: ([.fieldLink RX4 39 "FlakyBoundsModel" "sum" "[J", .constantLong RX4 123 (10)] ++ wsX40)
def wsX4_share : List Cond := .code yX4_share cX4_share 9 (some .long) :: ([.fieldLink RX4 49 "FlakyBoundsModel" "thrown" "I", .methodLink RX4 111 yX4_isTest, .instanceMethod yX4_isTest, .selects RX4 yX4_isTest yX4_isTest, .initialized RX4, .constantLong RX4 125 (-1), .methodLink RX4 89 yX4_shareOf, .instanceMethod yX4_shareOf, .selects RX4 yX4_shareOf yX4_shareOf, .methodLink RX4 72 yX4_throwsOf, .instanceMethod yX4_throwsOf, .selects RX4 yX4_throwsOf yX4_throwsOf, .constantLong RX4 123 (10), .methodLink RX4 127 yX4_digit, .instanceMethod yX4_digit, .selects RX4 yX4_digit yX4_digit, .code yX4_isTest cX4_isTest 2 (some .boolean), .fieldLink RX4 52 "FlakyBoundsModel" "tests" "I", .code yX4_shareOf cX4_shareOf 6 none, .methodLink RX4 76 yX4_hitsOf, .instanceMethod yX4_hitsOf, .selects RX4 yX4_hitsOf yX4_hitsOf, .methodLink RX4 79 yX4_add, .instanceMethod yX4_add, .selects RX4 yX4_add yX4_add, .code yX4_throwsOf cX4_throwsOf 4 (some .int), .fieldLink RX4 19 "FlakyBoundsModel" "size" "[I", .methodLink RX4 97 yX4_edition, .instanceMethod yX4_edition, .selects RX4 yX4_edition yX4_edition, .methodLink RX4 104 yX4_isBadFor, .instanceMethod yX4_isBadFor, .selects RX4 yX4_isBadFor yX4_isBadFor, .code yX4_edition cX4_edition 3 (some .int), .fieldLink RX4 23 "FlakyBoundsModel" "runs" "[I", .code yX4_isBadFor cX4_isBadFor 6 (some .boolean), .methodLink RX4 101 yX4_isPass, .instanceMethod yX4_isPass, .selects RX4 yX4_isPass yX4_isPass, .code yX4_isPass cX4_isPass 3 (some .boolean), .code yX4_hitsOf cX4_hitsOf 4 (some .int), .code yX4_add cX4_add 7 none, .fieldLink RX4 39 "FlakyBoundsModel" "sum" "[J", .methodLink RX4 57 yX4_set, .static yX4_set, .fieldLink RX4 43 "FlakyBoundsModel" "term" "[J", .methodLink RX4 61 yX4_times, .static yX4_times, .methodLink RX4 64 yX4_over, .static yX4_over, .methodLink RX4 68 yX4_plus, .static yX4_plus, .code yX4_set cX4_set 4 none, .code yX4_times cX4_times 8 none, .constantLong RX4 55 (10000), .code yX4_over cX4_over 5 (some .long), .code yX4_plus cX4_plus 7 none, .code yX4_digit cX4_digit 5 (some .int)] ++ wsX40)
def wsX4_isBad : List Cond := .code yX4_isBad cX4_isBad 3 (some .boolean) :: ([.fieldLink RX4 49 "FlakyBoundsModel" "thrown" "I", .methodLink RX4 111 yX4_isTest, .instanceMethod yX4_isTest, .selects RX4 yX4_isTest yX4_isTest, .initialized RX4, .methodLink RX4 115 yX4_isEdition, .static yX4_isEdition, .methodLink RX4 104 yX4_isBadFor, .instanceMethod yX4_isBadFor, .selects RX4 yX4_isBadFor yX4_isBadFor, .code yX4_isTest cX4_isTest 2 (some .boolean), .fieldLink RX4 52 "FlakyBoundsModel" "tests" "I", .code yX4_isEdition cX4_isEdition 1 (some .boolean), .code yX4_isBadFor cX4_isBadFor 6 (some .boolean), .fieldLink RX4 19 "FlakyBoundsModel" "size" "[I", .methodLink RX4 97 yX4_edition, .instanceMethod yX4_edition, .selects RX4 yX4_edition yX4_edition, .methodLink RX4 101 yX4_isPass, .instanceMethod yX4_isPass, .selects RX4 yX4_isPass yX4_isPass, .code yX4_edition cX4_edition 3 (some .int), .fieldLink RX4 23 "FlakyBoundsModel" "runs" "[I", .code yX4_isPass cX4_isPass 3 (some .boolean)] ++ wsX40)
def wsX4_broken : List Cond := .code yX4_broken cX4_broken 4 (some .int) :: ([.fieldLink RX4 49 "FlakyBoundsModel" "thrown" "I", .fieldLink RX4 52 "FlakyBoundsModel" "tests" "I", .methodLink RX4 115 yX4_isEdition, .static yX4_isEdition, .initialized RX4, .methodLink RX4 104 yX4_isBadFor, .instanceMethod yX4_isBadFor, .selects RX4 yX4_isBadFor yX4_isBadFor, .fieldLink RX4 26 "FlakyBoundsModel" "isMarked" "[Z", .code yX4_isEdition cX4_isEdition 1 (some .boolean), .code yX4_isBadFor cX4_isBadFor 6 (some .boolean), .fieldLink RX4 19 "FlakyBoundsModel" "size" "[I", .methodLink RX4 97 yX4_edition, .instanceMethod yX4_edition, .selects RX4 yX4_edition yX4_edition, .methodLink RX4 101 yX4_isPass, .instanceMethod yX4_isPass, .selects RX4 yX4_isPass yX4_isPass, .code yX4_edition cX4_edition 3 (some .int), .fieldLink RX4 23 "FlakyBoundsModel" "runs" "[I", .code yX4_isPass cX4_isPass 3 (some .boolean)] ++ wsX40)
set_option maxRecDepth 20000 in
theorem ggX4_add_X4_set : GoodIn wsX4_add wsX4_set := goodIn_r _ [12, 17, 18, 19, 20, 21, 22, 23, 24, 25, 26, 27, 28, 29, 30] (by decide +kernel) (by decide +kernel)
set_option maxRecDepth 20000 in
theorem gX4_add_X4_set : GoodIn wsX4_add (va_wsS RX4 57 yX4_set wsX4_set) := goodIn_app (goodIn_of _ (by decide +kernel)) ggX4_add_X4_set
set_option maxRecDepth 20000 in
theorem ggX4_add_X4_times : GoodIn wsX4_add wsX4_times := goodIn_r _ [13, 14, 17, 18, 19, 20, 21, 22, 23, 24, 25, 26, 27, 28, 29, 30] (by decide +kernel) (by decide +kernel)
set_option maxRecDepth 20000 in
theorem gX4_add_X4_times : GoodIn wsX4_add (va_wsS RX4 61 yX4_times wsX4_times) := goodIn_app (goodIn_of _ (by decide +kernel)) ggX4_add_X4_times
set_option maxRecDepth 20000 in
theorem ggX4_add_X4_over : GoodIn wsX4_add wsX4_over := goodIn_r _ [15, 17, 18, 19, 20, 21, 22, 23, 24, 25, 26, 27, 28, 29, 30] (by decide +kernel) (by decide +kernel)
set_option maxRecDepth 20000 in
theorem gX4_add_X4_over : GoodIn wsX4_add (va_wsS RX4 64 yX4_over wsX4_over) := goodIn_app (goodIn_of _ (by decide +kernel)) ggX4_add_X4_over
set_option maxRecDepth 20000 in
theorem ggX4_add_X4_plus : GoodIn wsX4_add wsX4_plus := goodIn_r _ [16, 14, 17, 18, 19, 20, 21, 22, 23, 24, 25, 26, 27, 28, 29, 30] (by decide +kernel) (by decide +kernel)
set_option maxRecDepth 20000 in
theorem gX4_add_X4_plus : GoodIn wsX4_add (va_wsS RX4 68 yX4_plus wsX4_plus) := goodIn_app (goodIn_of _ (by decide +kernel)) ggX4_add_X4_plus
set_option maxRecDepth 20000 in
theorem ggX4_isBadFor_X4_edition : GoodIn wsX4_isBadFor wsX4_edition := goodIn_r _ [9, 10, 12, 13, 14, 15, 16, 17, 18, 19, 20, 21, 22, 23, 24, 25] (by decide +kernel) (by decide +kernel)
set_option maxRecDepth 20000 in
theorem gX4_isBadFor_X4_edition : GoodIn wsX4_isBadFor (wsV RX4 97 RX4 yX4_edition wsX4_edition) := goodIn_app (goodIn_of _ (by decide +kernel)) ggX4_isBadFor_X4_edition
set_option maxRecDepth 20000 in
theorem ggX4_isBadFor_X4_isPass : GoodIn wsX4_isBadFor wsX4_isPass := goodIn_r _ [11, 10, 12, 13, 14, 15, 16, 17, 18, 19, 20, 21, 22, 23, 24, 25] (by decide +kernel) (by decide +kernel)
set_option maxRecDepth 20000 in
theorem gX4_isBadFor_X4_isPass : GoodIn wsX4_isBadFor (wsV RX4 101 RX4 yX4_isPass wsX4_isPass) := goodIn_app (goodIn_of _ (by decide +kernel)) ggX4_isBadFor_X4_isPass
set_option maxRecDepth 20000 in
theorem ggX4_throwsOf_X4_edition : GoodIn wsX4_throwsOf wsX4_edition := goodIn_r _ [9, 10, 16, 17, 18, 19, 20, 21, 22, 23, 24, 25, 26, 27, 28, 29] (by decide +kernel) (by decide +kernel)
set_option maxRecDepth 20000 in
theorem gX4_throwsOf_X4_edition : GoodIn wsX4_throwsOf (wsV RX4 97 RX4 yX4_edition wsX4_edition) := goodIn_app (goodIn_of _ (by decide +kernel)) ggX4_throwsOf_X4_edition
set_option maxRecDepth 20000 in
theorem ggX4_throwsOf_X4_isBadFor : GoodIn wsX4_throwsOf wsX4_isBadFor := goodIn_r _ [11, 1, 2, 3, 4, 5, 12, 13, 14, 9, 10, 15, 16, 17, 18, 19, 20, 21, 22, 23, 24, 25, 26, 27, 28, 29] (by decide +kernel) (by decide +kernel)
set_option maxRecDepth 20000 in
theorem gX4_throwsOf_X4_isBadFor : GoodIn wsX4_throwsOf (wsV RX4 104 RX4 yX4_isBadFor wsX4_isBadFor) := goodIn_app (goodIn_of _ (by decide +kernel)) ggX4_throwsOf_X4_isBadFor
set_option maxRecDepth 20000 in
theorem ggX4_hitsOf_X4_edition : GoodIn wsX4_hitsOf wsX4_edition := goodIn_r _ [12, 13, 16, 17, 18, 19, 20, 21, 22, 23, 24, 25, 26, 27, 28, 29] (by decide +kernel) (by decide +kernel)
set_option maxRecDepth 20000 in
theorem gX4_hitsOf_X4_edition : GoodIn wsX4_hitsOf (wsV RX4 97 RX4 yX4_edition wsX4_edition) := goodIn_app (goodIn_of _ (by decide +kernel)) ggX4_hitsOf_X4_edition
set_option maxRecDepth 20000 in
theorem ggX4_hitsOf_X4_isBadFor : GoodIn wsX4_hitsOf wsX4_isBadFor := goodIn_r _ [14, 1, 2, 3, 4, 5, 9, 10, 11, 12, 13, 15, 16, 17, 18, 19, 20, 21, 22, 23, 24, 25, 26, 27, 28, 29] (by decide +kernel) (by decide +kernel)
set_option maxRecDepth 20000 in
theorem gX4_hitsOf_X4_isBadFor : GoodIn wsX4_hitsOf (wsV RX4 104 RX4 yX4_isBadFor wsX4_isBadFor) := goodIn_app (goodIn_of _ (by decide +kernel)) ggX4_hitsOf_X4_isBadFor
set_option maxRecDepth 20000 in
theorem ggX4_hitsOf_X4_isPass : GoodIn wsX4_hitsOf wsX4_isPass := goodIn_r _ [15, 13, 16, 17, 18, 19, 20, 21, 22, 23, 24, 25, 26, 27, 28, 29] (by decide +kernel) (by decide +kernel)
set_option maxRecDepth 20000 in
theorem gX4_hitsOf_X4_isPass : GoodIn wsX4_hitsOf (wsV RX4 101 RX4 yX4_isPass wsX4_isPass) := goodIn_app (goodIn_of _ (by decide +kernel)) ggX4_hitsOf_X4_isPass
set_option maxRecDepth 20000 in
theorem ggX4_shareOf_X4_throwsOf : GoodIn wsX4_shareOf wsX4_throwsOf := goodIn_r _ [11, 12, 13, 14, 15, 4, 16, 17, 18, 19, 20, 21, 22, 23, 24, 25, 43, 44, 45, 46, 47, 48, 49, 50, 51, 52, 53, 54, 55, 56] (by decide +kernel) (by decide +kernel)
set_option maxRecDepth 20000 in
theorem gX4_shareOf_X4_throwsOf : GoodIn wsX4_shareOf (wsV RX4 72 RX4 yX4_throwsOf wsX4_throwsOf) := goodIn_app (goodIn_of _ (by decide +kernel)) ggX4_shareOf_X4_throwsOf
set_option maxRecDepth 20000 in
theorem ggX4_shareOf_X4_hitsOf : GoodIn wsX4_shareOf wsX4_hitsOf := goodIn_r _ [26, 12, 13, 14, 15, 4, 16, 17, 18, 22, 23, 24, 19, 20, 21, 25, 43, 44, 45, 46, 47, 48, 49, 50, 51, 52, 53, 54, 55, 56] (by decide +kernel) (by decide +kernel)
set_option maxRecDepth 20000 in
theorem gX4_shareOf_X4_hitsOf : GoodIn wsX4_shareOf (wsV RX4 76 RX4 yX4_hitsOf wsX4_hitsOf) := goodIn_app (goodIn_of _ (by decide +kernel)) ggX4_shareOf_X4_hitsOf
set_option maxRecDepth 20000 in
theorem ggX4_shareOf_X4_add : GoodIn wsX4_shareOf wsX4_add := goodIn_r _ [27, 28, 29, 30, 4, 31, 32, 33, 34, 35, 36, 37, 38, 39, 40, 41, 42, 43, 44, 45, 46, 47, 48, 49, 50, 51, 52, 53, 54, 55, 56] (by decide +kernel) (by decide +kernel)
set_option maxRecDepth 20000 in
theorem gX4_shareOf_X4_add : GoodIn wsX4_shareOf (wsV RX4 79 RX4 yX4_add wsX4_add) := goodIn_app (goodIn_of _ (by decide +kernel)) ggX4_shareOf_X4_add
set_option maxRecDepth 20000 in
theorem ggX4_isAboveLevel_X4_times : GoodIn wsX4_isAboveLevel wsX4_times := goodIn_r _ [11, 12, 15, 16, 17, 18, 19, 20, 21, 22, 23, 24, 25, 26, 27, 28] (by decide +kernel) (by decide +kernel)
set_option maxRecDepth 20000 in
theorem gX4_isAboveLevel_X4_times : GoodIn wsX4_isAboveLevel (va_wsS RX4 61 yX4_times wsX4_times) := goodIn_app (goodIn_of _ (by decide +kernel)) ggX4_isAboveLevel_X4_times
set_option maxRecDepth 20000 in
theorem ggX4_isAboveLevel_X4_set : GoodIn wsX4_isAboveLevel wsX4_set := goodIn_r _ [13, 15, 16, 17, 18, 19, 20, 21, 22, 23, 24, 25, 26, 27, 28] (by decide +kernel) (by decide +kernel)
set_option maxRecDepth 20000 in
theorem gX4_isAboveLevel_X4_set : GoodIn wsX4_isAboveLevel (va_wsS RX4 57 yX4_set wsX4_set) := goodIn_app (goodIn_of _ (by decide +kernel)) ggX4_isAboveLevel_X4_set
set_option maxRecDepth 20000 in
theorem ggX4_isAboveLevel_X4_isAbove : GoodIn wsX4_isAboveLevel wsX4_isAbove := goodIn_r _ [14, 15, 16, 17, 18, 19, 20, 21, 22, 23, 24, 25, 26, 27, 28] (by decide +kernel) (by decide +kernel)
set_option maxRecDepth 20000 in
theorem gX4_isAboveLevel_X4_isAbove : GoodIn wsX4_isAboveLevel (va_wsS RX4 85 yX4_isAbove wsX4_isAbove) := goodIn_app (goodIn_of _ (by decide +kernel)) ggX4_isAboveLevel_X4_isAbove
set_option maxRecDepth 20000 in
theorem ggX4_boundOf_X4_shareOf : GoodIn wsX4_boundOf wsX4_shareOf := goodIn_r _ [11, 5, 6, 7, 4, 12, 13, 14, 15, 16, 17, 18, 19, 20, 21, 22, 23, 24, 25, 26, 27, 28, 29, 30, 31, 32, 33, 34, 35, 36, 37, 38, 39, 40, 41, 42, 43, 44, 45, 46, 47, 48, 49, 56, 57, 58, 59, 60, 61, 62, 63, 64, 65, 66, 67, 68, 69] (by decide +kernel) (by decide +kernel)
set_option maxRecDepth 20000 in
theorem gX4_boundOf_X4_shareOf : GoodIn wsX4_boundOf (wsV RX4 89 RX4 yX4_shareOf wsX4_shareOf) := goodIn_app (goodIn_of _ (by decide +kernel)) ggX4_boundOf_X4_shareOf
set_option maxRecDepth 20000 in
theorem ggX4_boundOf_X4_throwsOf : GoodIn wsX4_boundOf wsX4_throwsOf := goodIn_r _ [18, 19, 20, 21, 22, 4, 23, 24, 25, 26, 27, 28, 29, 30, 31, 32, 56, 57, 58, 59, 60, 61, 62, 63, 64, 65, 66, 67, 68, 69] (by decide +kernel) (by decide +kernel)
set_option maxRecDepth 20000 in
theorem gX4_boundOf_X4_throwsOf : GoodIn wsX4_boundOf (wsV RX4 72 RX4 yX4_throwsOf wsX4_throwsOf) := goodIn_app (goodIn_of _ (by decide +kernel)) ggX4_boundOf_X4_throwsOf
set_option maxRecDepth 20000 in
theorem ggX4_boundOf_X4_isAboveLevel : GoodIn wsX4_boundOf wsX4_isAboveLevel := goodIn_r _ [50, 35, 51, 39, 40, 4, 52, 36, 37, 53, 54, 46, 47, 45, 55, 56, 57, 58, 59, 60, 61, 62, 63, 64, 65, 66, 67, 68, 69] (by decide +kernel) (by decide +kernel)
set_option maxRecDepth 20000 in
theorem gX4_boundOf_X4_isAboveLevel : GoodIn wsX4_boundOf (wsV RX4 93 RX4 yX4_isAboveLevel wsX4_isAboveLevel) := goodIn_app (goodIn_of _ (by decide +kernel)) ggX4_boundOf_X4_isAboveLevel
set_option maxRecDepth 20000 in
theorem ggX4_doubtful_X4_edition : GoodIn wsX4_doubtful wsX4_edition := goodIn_r _ [9, 10, 12, 13, 14, 15, 16, 17, 18, 19, 20, 21, 22, 23, 24, 25] (by decide +kernel) (by decide +kernel)
set_option maxRecDepth 20000 in
theorem gX4_doubtful_X4_edition : GoodIn wsX4_doubtful (wsV RX4 97 RX4 yX4_edition wsX4_edition) := goodIn_app (goodIn_of _ (by decide +kernel)) ggX4_doubtful_X4_edition
set_option maxRecDepth 20000 in
theorem ggX4_doubtful_X4_isPass : GoodIn wsX4_doubtful wsX4_isPass := goodIn_r _ [11, 10, 12, 13, 14, 15, 16, 17, 18, 19, 20, 21, 22, 23, 24, 25] (by decide +kernel) (by decide +kernel)
set_option maxRecDepth 20000 in
theorem gX4_doubtful_X4_isPass : GoodIn wsX4_doubtful (wsV RX4 101 RX4 yX4_isPass wsX4_isPass) := goodIn_app (goodIn_of _ (by decide +kernel)) ggX4_doubtful_X4_isPass
set_option maxRecDepth 20000 in
theorem ggX4_runs_X4_boundOf : GoodIn wsX4_runs wsX4_boundOf := goodIn_r _ [12, 13, 14, 15, 8, 16, 17, 18, 19, 20, 21, 22, 23, 24, 25, 26, 27, 28, 29, 1, 30, 31, 32, 33, 34, 35, 36, 2, 37, 38, 39, 40, 41, 42, 43, 44, 45, 46, 47, 48, 49, 50, 51, 52, 53, 54, 55, 56, 57, 58, 59, 60, 61, 62, 63, 64, 65, 66, 67, 68, 69, 70, 71, 72, 73, 74, 75, 76, 77, 78] (by decide +kernel) (by decide +kernel)
set_option maxRecDepth 20000 in
theorem gX4_runs_X4_boundOf : GoodIn wsX4_runs (wsV RX4 107 RX4 yX4_boundOf wsX4_boundOf) := goodIn_app (goodIn_of _ (by decide +kernel)) ggX4_runs_X4_boundOf
set_option maxRecDepth 20000 in
theorem ggX4_run_X4_isTest : GoodIn wsX4_run wsX4_isTest := goodIn_r _ [11, 12, 78, 79, 80, 81, 82, 83, 84, 85, 86, 87, 88, 89, 90, 91] (by decide +kernel) (by decide +kernel)
set_option maxRecDepth 20000 in
theorem gX4_run_X4_isTest : GoodIn wsX4_run (wsV RX4 111 RX4 yX4_isTest wsX4_isTest) := goodIn_app (goodIn_of _ (by decide +kernel)) ggX4_run_X4_isTest
set_option maxRecDepth 20000 in
theorem ggX4_run_X4_isEdition : GoodIn wsX4_run wsX4_isEdition := goodIn_r _ [13, 78, 79, 80, 81, 82, 83, 84, 85, 86, 87, 88, 89, 90, 91] (by decide +kernel) (by decide +kernel)
set_option maxRecDepth 20000 in
theorem gX4_run_X4_isEdition : GoodIn wsX4_run (va_wsS RX4 115 yX4_isEdition wsX4_isEdition) := goodIn_app (goodIn_of _ (by decide +kernel)) ggX4_run_X4_isEdition
set_option maxRecDepth 20000 in
theorem ggX4_run_X4_runs : GoodIn wsX4_run wsX4_runs := goodIn_r _ [14, 15, 16, 17, 18, 19, 20, 21, 5, 22, 23, 24, 25, 26, 27, 28, 29, 30, 31, 32, 33, 34, 35, 36, 37, 38, 39, 40, 41, 42, 43, 44, 45, 46, 47, 48, 49, 50, 51, 52, 53, 54, 55, 56, 57, 58, 59, 60, 61, 62, 63, 64, 65, 66, 67, 68, 69, 70, 71, 72, 73, 74, 75, 76, 77, 78, 79, 80, 81, 82, 83, 84, 85, 86, 87, 88, 89, 90, 91] (by decide +kernel) (by decide +kernel)
set_option maxRecDepth 20000 in
theorem gX4_run_X4_runs : GoodIn wsX4_run (wsV RX4 118 RX4 yX4_runs wsX4_runs) := goodIn_app (goodIn_of _ (by decide +kernel)) ggX4_run_X4_runs
set_option maxRecDepth 20000 in
theorem ggX4_judge_X4_isTest : GoodIn wsX4_judge wsX4_isTest := goodIn_r _ [14, 15, 80, 81, 82, 83, 84, 85, 86, 87, 88, 89, 90, 91, 92, 93] (by decide +kernel) (by decide +kernel)
set_option maxRecDepth 20000 in
theorem gX4_judge_X4_isTest : GoodIn wsX4_judge (wsV RX4 111 RX4 yX4_isTest wsX4_isTest) := goodIn_app (goodIn_of _ (by decide +kernel)) ggX4_judge_X4_isTest
set_option maxRecDepth 20000 in
theorem ggX4_judge_X4_isEdition : GoodIn wsX4_judge wsX4_isEdition := goodIn_r _ [16, 80, 81, 82, 83, 84, 85, 86, 87, 88, 89, 90, 91, 92, 93] (by decide +kernel) (by decide +kernel)
set_option maxRecDepth 20000 in
theorem gX4_judge_X4_isEdition : GoodIn wsX4_judge (va_wsS RX4 115 yX4_isEdition wsX4_isEdition) := goodIn_app (goodIn_of _ (by decide +kernel)) ggX4_judge_X4_isEdition
set_option maxRecDepth 20000 in
theorem ggX4_judge_X4_runs : GoodIn wsX4_judge wsX4_runs := goodIn_r _ [17, 18, 19, 8, 20, 21, 22, 23, 5, 24, 25, 26, 27, 28, 29, 30, 31, 32, 33, 34, 35, 36, 37, 38, 39, 40, 41, 42, 43, 44, 45, 46, 47, 48, 49, 50, 51, 52, 53, 54, 55, 56, 57, 58, 59, 60, 61, 62, 63, 64, 65, 66, 67, 68, 69, 70, 71, 72, 73, 74, 75, 76, 77, 78, 79, 80, 81, 82, 83, 84, 85, 86, 87, 88, 89, 90, 91, 92, 93] (by decide +kernel) (by decide +kernel)
set_option maxRecDepth 20000 in
theorem gX4_judge_X4_runs : GoodIn wsX4_judge (wsV RX4 118 RX4 yX4_runs wsX4_runs) := goodIn_app (goodIn_of _ (by decide +kernel)) ggX4_judge_X4_runs
set_option maxRecDepth 20000 in
theorem ggX4_about_X4_isTest : GoodIn wsX4_about wsX4_isTest := goodIn_r _ [18, 19, 36, 37, 38, 39, 40, 41, 42, 43, 44, 45, 46, 47, 48, 49] (by decide +kernel) (by decide +kernel)
set_option maxRecDepth 20000 in
theorem gX4_about_X4_isTest : GoodIn wsX4_about (wsV RX4 111 RX4 yX4_isTest wsX4_isTest) := goodIn_app (goodIn_of _ (by decide +kernel)) ggX4_about_X4_isTest
set_option maxRecDepth 20000 in
theorem ggX4_about_X4_doubtful : GoodIn wsX4_about wsX4_doubtful := goodIn_r _ [20, 6, 21, 22, 23, 5, 24, 25, 26, 27, 28, 29, 36, 37, 38, 39, 40, 41, 42, 43, 44, 45, 46, 47, 48, 49] (by decide +kernel) (by decide +kernel)
set_option maxRecDepth 20000 in
theorem gX4_about_X4_doubtful : GoodIn wsX4_about (wsV RX4 120 RX4 yX4_doubtful wsX4_doubtful) := goodIn_app (goodIn_of _ (by decide +kernel)) ggX4_about_X4_doubtful
set_option maxRecDepth 20000 in
theorem ggX4_about_X4_throwsOf : GoodIn wsX4_about wsX4_throwsOf := goodIn_r _ [30, 6, 21, 22, 23, 5, 31, 32, 33, 27, 28, 34, 24, 25, 26, 29, 36, 37, 38, 39, 40, 41, 42, 43, 44, 45, 46, 47, 48, 49] (by decide +kernel) (by decide +kernel)
set_option maxRecDepth 20000 in
theorem gX4_about_X4_throwsOf : GoodIn wsX4_about (wsV RX4 72 RX4 yX4_throwsOf wsX4_throwsOf) := goodIn_app (goodIn_of _ (by decide +kernel)) ggX4_about_X4_throwsOf
set_option maxRecDepth 20000 in
theorem ggX4_about_X4_hitsOf : GoodIn wsX4_about wsX4_hitsOf := goodIn_r _ [35, 6, 21, 22, 23, 5, 31, 32, 33, 24, 25, 26, 27, 28, 34, 29, 36, 37, 38, 39, 40, 41, 42, 43, 44, 45, 46, 47, 48, 49] (by decide +kernel) (by decide +kernel)
set_option maxRecDepth 20000 in
theorem gX4_about_X4_hitsOf : GoodIn wsX4_about (wsV RX4 76 RX4 yX4_hitsOf wsX4_hitsOf) := goodIn_app (goodIn_of _ (by decide +kernel)) ggX4_about_X4_hitsOf
set_option maxRecDepth 20000 in
theorem ggX4_bound_X4_isTest : GoodIn wsX4_bound wsX4_isTest := goodIn_r _ [9, 10, 66, 67, 68, 69, 70, 71, 72, 73, 74, 75, 76, 77, 78, 79] (by decide +kernel) (by decide +kernel)
set_option maxRecDepth 20000 in
theorem gX4_bound_X4_isTest : GoodIn wsX4_bound (wsV RX4 111 RX4 yX4_isTest wsX4_isTest) := goodIn_app (goodIn_of _ (by decide +kernel)) ggX4_bound_X4_isTest
set_option maxRecDepth 20000 in
theorem ggX4_bound_X4_boundOf : GoodIn wsX4_bound wsX4_boundOf := goodIn_r _ [11, 12, 13, 14, 5, 15, 16, 17, 18, 19, 20, 21, 22, 23, 24, 25, 26, 27, 28, 29, 30, 31, 32, 33, 34, 35, 36, 37, 38, 39, 40, 41, 42, 43, 44, 45, 46, 47, 48, 49, 50, 51, 52, 53, 54, 55, 56, 57, 58, 59, 60, 61, 62, 63, 64, 65, 66, 67, 68, 69, 70, 71, 72, 73, 74, 75, 76, 77, 78, 79] (by decide +kernel) (by decide +kernel)
set_option maxRecDepth 20000 in
theorem gX4_bound_X4_boundOf : GoodIn wsX4_bound (wsV RX4 107 RX4 yX4_boundOf wsX4_boundOf) := goodIn_app (goodIn_of _ (by decide +kernel)) ggX4_bound_X4_boundOf
set_option maxRecDepth 20000 in
theorem ggX4_share_X4_isTest : GoodIn wsX4_share wsX4_isTest := goodIn_r _ [17, 18, 59, 60, 61, 62, 63, 64, 65, 66, 67, 68, 69, 70, 71, 72] (by decide +kernel) (by decide +kernel)
set_option maxRecDepth 20000 in
theorem gX4_share_X4_isTest : GoodIn wsX4_share (wsV RX4 111 RX4 yX4_isTest wsX4_isTest) := goodIn_app (goodIn_of _ (by decide +kernel)) ggX4_share_X4_isTest
set_option maxRecDepth 20000 in
theorem ggX4_share_X4_shareOf : GoodIn wsX4_share wsX4_shareOf := goodIn_r _ [19, 10, 11, 12, 5, 20, 21, 22, 23, 24, 25, 26, 27, 28, 29, 30, 31, 32, 33, 34, 35, 36, 37, 38, 39, 40, 41, 42, 43, 44, 45, 46, 47, 48, 49, 50, 51, 52, 53, 54, 55, 56, 57, 59, 60, 61, 62, 63, 64, 65, 66, 67, 68, 69, 70, 71, 72] (by decide +kernel) (by decide +kernel)
set_option maxRecDepth 20000 in
theorem gX4_share_X4_shareOf : GoodIn wsX4_share (wsV RX4 89 RX4 yX4_shareOf wsX4_shareOf) := goodIn_app (goodIn_of _ (by decide +kernel)) ggX4_share_X4_shareOf
set_option maxRecDepth 20000 in
theorem ggX4_share_X4_throwsOf : GoodIn wsX4_share wsX4_throwsOf := goodIn_r _ [26, 27, 28, 29, 30, 5, 31, 32, 33, 34, 35, 36, 37, 38, 39, 40, 59, 60, 61, 62, 63, 64, 65, 66, 67, 68, 69, 70, 71, 72] (by decide +kernel) (by decide +kernel)
set_option maxRecDepth 20000 in
theorem gX4_share_X4_throwsOf : GoodIn wsX4_share (wsV RX4 72 RX4 yX4_throwsOf wsX4_throwsOf) := goodIn_app (goodIn_of _ (by decide +kernel)) ggX4_share_X4_throwsOf
set_option maxRecDepth 20000 in
theorem ggX4_share_X4_digit : GoodIn wsX4_share wsX4_digit := goodIn_r _ [58, 43, 13, 59, 60, 61, 62, 63, 64, 65, 66, 67, 68, 69, 70, 71, 72] (by decide +kernel) (by decide +kernel)
set_option maxRecDepth 20000 in
theorem gX4_share_X4_digit : GoodIn wsX4_share (wsV RX4 127 RX4 yX4_digit wsX4_digit) := goodIn_app (goodIn_of _ (by decide +kernel)) ggX4_share_X4_digit
set_option maxRecDepth 20000 in
theorem ggX4_isBad_X4_isTest : GoodIn wsX4_isBad wsX4_isTest := goodIn_r _ [11, 12, 25, 26, 27, 28, 29, 30, 31, 32, 33, 34, 35, 36, 37, 38] (by decide +kernel) (by decide +kernel)
set_option maxRecDepth 20000 in
theorem gX4_isBad_X4_isTest : GoodIn wsX4_isBad (wsV RX4 111 RX4 yX4_isTest wsX4_isTest) := goodIn_app (goodIn_of _ (by decide +kernel)) ggX4_isBad_X4_isTest
set_option maxRecDepth 20000 in
theorem ggX4_isBad_X4_isEdition : GoodIn wsX4_isBad wsX4_isEdition := goodIn_r _ [13, 25, 26, 27, 28, 29, 30, 31, 32, 33, 34, 35, 36, 37, 38] (by decide +kernel) (by decide +kernel)
set_option maxRecDepth 20000 in
theorem gX4_isBad_X4_isEdition : GoodIn wsX4_isBad (va_wsS RX4 115 yX4_isEdition wsX4_isEdition) := goodIn_app (goodIn_of _ (by decide +kernel)) ggX4_isBad_X4_isEdition
set_option maxRecDepth 20000 in
theorem ggX4_isBad_X4_isBadFor : GoodIn wsX4_isBad wsX4_isBadFor := goodIn_r _ [14, 15, 16, 17, 18, 5, 19, 20, 21, 22, 23, 24, 25, 26, 27, 28, 29, 30, 31, 32, 33, 34, 35, 36, 37, 38] (by decide +kernel) (by decide +kernel)
set_option maxRecDepth 20000 in
theorem gX4_isBad_X4_isBadFor : GoodIn wsX4_isBad (wsV RX4 104 RX4 yX4_isBadFor wsX4_isBadFor) := goodIn_app (goodIn_of _ (by decide +kernel)) ggX4_isBad_X4_isBadFor
set_option maxRecDepth 20000 in
theorem ggX4_broken_X4_isEdition : GoodIn wsX4_broken wsX4_isEdition := goodIn_r _ [10, 22, 23, 24, 25, 26, 27, 28, 29, 30, 31, 32, 33, 34, 35] (by decide +kernel) (by decide +kernel)
set_option maxRecDepth 20000 in
theorem gX4_broken_X4_isEdition : GoodIn wsX4_broken (va_wsS RX4 115 yX4_isEdition wsX4_isEdition) := goodIn_app (goodIn_of _ (by decide +kernel)) ggX4_broken_X4_isEdition
set_option maxRecDepth 20000 in
theorem ggX4_broken_X4_isBadFor : GoodIn wsX4_broken wsX4_isBadFor := goodIn_r _ [11, 12, 13, 14, 15, 5, 16, 17, 18, 19, 20, 21, 22, 23, 24, 25, 26, 27, 28, 29, 30, 31, 32, 33, 34, 35] (by decide +kernel) (by decide +kernel)
set_option maxRecDepth 20000 in
theorem gX4_broken_X4_isBadFor : GoodIn wsX4_broken (wsV RX4 104 RX4 yX4_isBadFor wsX4_isBadFor) := goodIn_app (goodIn_of _ (by decide +kernel)) ggX4_broken_X4_isBadFor
set_option maxRecDepth 100000 in
theorem ggL_law_X3_init : GoodIn lw_tbl wsX3_init := goodIn_r _ [32, 33, 34, 35, 36, 62, 38, 39, 24, 63, 64, 65, 66, 67, 40, 41, 42, 43, 44, 45, 25, 55, 56, 46, 47, 48, 49, 54, 50, 68, 70, 72, 74, 76, 78, 57, 59, 51] (by decide +kernel) (by decide +kernel)
set_option maxRecDepth 100000 in
theorem gL_law_X3_init : GoodIn lw_tbl (wsX3_init) := ggL_law_X3_init
set_option maxRecDepth 100000 in
theorem ggL_law_X4_init : GoodIn lw_tbl wsX4_init := goodIn_r _ [257, 258, 34, 35, 261, 262, 263, 129, 264, 265, 130, 266, 267, 268, 269, 54, 270, 271, 272, 273, 275, 277, 279, 281, 283, 285, 287, 289, 291, 293, 295, 297, 299] (by decide +kernel) (by decide +kernel)
set_option maxRecDepth 100000 in
theorem gL_law_X4_init : GoodIn lw_tbl (wsX4_init) := ggL_law_X4_init
set_option maxRecDepth 100000 in
theorem ggL_law_X3_test : GoodIn lw_tbl wsX3_test := goodIn_r _ [84, 64, 62, 36, 85, 27, 86, 87, 88, 89, 34, 35, 129, 90, 130, 91, 104, 68, 70, 72, 74, 76, 78, 106, 108, 110, 112, 114, 116, 118, 120, 122, 124, 126] (by decide +kernel) (by decide +kernel)
set_option maxRecDepth 100000 in
theorem gL_law_X3_test : GoodIn lw_tbl (wsV RL 13 RX3 yX3_test wsX3_test) := goodIn_app (goodIn_of _ (by decide +kernel)) ggL_law_X3_test
set_option maxRecDepth 100000 in
theorem ggL_law_X4_test : GoodIn lw_tbl wsX4_test := goodIn_r _ [305, 259, 260, 268, 273, 275, 277, 279, 281, 283, 285, 287, 289, 291, 293, 295, 297, 299] (by decide +kernel) (by decide +kernel)
set_option maxRecDepth 100000 in
theorem gL_law_X4_test : GoodIn lw_tbl (wsV RL 17 RX4 yX4_test wsX4_test) := goodIn_app (goodIn_of _ (by decide +kernel)) ggL_law_X4_test
set_option maxRecDepth 100000 in
theorem ggL_law_X3_rules : GoodIn lw_tbl wsX3_rules := goodIn_r _ [134, 65, 66, 67, 135, 136, 23, 137, 138, 139, 140, 68, 70, 72, 74, 76, 78] (by decide +kernel) (by decide +kernel)
set_option maxRecDepth 100000 in
theorem gL_law_X3_rules : GoodIn lw_tbl (wsV RL 18 RX3 yX3_rules wsX3_rules) := goodIn_app (goodIn_of _ (by decide +kernel)) ggL_law_X3_rules
set_option maxRecDepth 100000 in
theorem ggL_law_X4_rules : GoodIn lw_tbl wsX4_rules := goodIn_r _ [309, 259, 261, 262, 263, 273, 275, 277, 279, 281, 283, 285, 287, 289, 291, 293, 295, 297, 299] (by decide +kernel) (by decide +kernel)
set_option maxRecDepth 100000 in
theorem gL_law_X4_rules : GoodIn lw_tbl (wsV RL 22 RX4 yX4_rules wsX4_rules) := goodIn_app (goodIn_of _ (by decide +kernel)) ggL_law_X4_rules
set_option maxRecDepth 100000 in
theorem ggL_law_X3_run : GoodIn lw_tbl wsX3_run := goodIn_r _ [144, 145, 147, 0, 23, 148, 64, 62, 149, 150, 151, 152, 154, 1, 155, 67, 65, 66, 156, 157, 158, 27, 159, 92, 94, 90, 91, 160, 162, 2, 163, 96, 98, 100, 164, 166, 3, 167, 168, 170, 4, 171, 63, 172, 173, 174, 24, 175, 55, 56, 176, 177, 178, 25, 179, 50, 180, 181, 182, 183, 184, 185, 186, 187, 188, 189, 190, 191, 192, 193, 194, 195, 196, 197, 198, 199, 201, 5, 202, 68, 70, 72, 74, 76, 78, 106, 108, 110, 112, 114, 116, 118, 120, 122, 124, 126, 57, 59, 51] (by decide +kernel) (by decide +kernel)
set_option maxRecDepth 100000 in
theorem gL_law_X3_run : GoodIn lw_tbl (wsV RL 23 RX3 yX3_run wsX3_run) := goodIn_app (goodIn_of _ (by decide +kernel)) ggL_law_X3_run
set_option maxRecDepth 100000 in
theorem ggL_law_X4_run : GoodIn lw_tbl wsX4_run := goodIn_r _ [313, 259, 314, 316, 9, 26, 318, 319, 321, 323, 10, 317, 260, 320, 324, 264, 265, 266, 261, 325, 327, 11, 263, 262, 267, 328, 329, 331, 12, 333, 335, 13, 370, 372, 19, 332, 349, 351, 17, 353, 355, 18, 336, 337, 339, 14, 341, 343, 15, 340, 344, 345, 347, 16, 348, 352, 356, 270, 357, 358, 271, 360, 361, 364, 365, 367, 368, 359, 362, 363, 366, 369, 373, 374, 272, 375, 376, 377, 273, 275, 277, 279, 281, 283, 285, 287, 289, 291, 293, 295, 297, 299] (by decide +kernel) (by decide +kernel)
set_option maxRecDepth 100000 in
theorem gL_law_X4_run : GoodIn lw_tbl (wsV RL 27 RX4 yX4_run wsX4_run) := goodIn_app (goodIn_of _ (by decide +kernel)) ggL_law_X4_run
set_option maxRecDepth 100000 in
theorem ggL_law_X3_judge : GoodIn lw_tbl wsX3_judge := goodIn_r _ [206, 145, 147, 0, 23, 148, 64, 62, 149, 150, 151, 207, 208, 209, 27, 210, 104, 105, 211, 213, 6, 214, 215, 217, 7, 218, 101, 152, 154, 1, 155, 67, 65, 66, 156, 157, 158, 159, 92, 94, 90, 91, 160, 162, 2, 163, 96, 98, 100, 164, 166, 3, 167, 168, 170, 4, 171, 63, 172, 173, 174, 24, 175, 55, 56, 176, 177, 178, 25, 179, 50, 180, 181, 182, 183, 184, 185, 186, 187, 188, 189, 190, 191, 192, 193, 194, 195, 196, 197, 198, 199, 201, 5, 202, 68, 70, 72, 74, 76, 78, 106, 108, 110, 112, 114, 116, 118, 120, 122, 124, 126, 57, 59, 51] (by decide +kernel) (by decide +kernel)
set_option maxRecDepth 100000 in
theorem gL_law_X3_judge : GoodIn lw_tbl (wsV RL 28 RX3 yX3_judge wsX3_judge) := goodIn_app (goodIn_of _ (by decide +kernel)) ggL_law_X3_judge
set_option maxRecDepth 100000 in
theorem ggL_law_X4_judge : GoodIn lw_tbl wsX4_judge := goodIn_r _ [381, 259, 314, 316, 9, 26, 318, 319, 266, 268, 269, 321, 323, 10, 317, 260, 320, 324, 264, 265, 261, 325, 327, 11, 263, 262, 267, 328, 329, 331, 12, 333, 335, 13, 370, 372, 19, 332, 349, 351, 17, 353, 355, 18, 336, 337, 339, 14, 341, 343, 15, 340, 344, 345, 347, 16, 348, 352, 356, 270, 357, 358, 271, 360, 361, 364, 365, 367, 368, 359, 362, 363, 366, 369, 373, 374, 272, 375, 376, 377, 273, 275, 277, 279, 281, 283, 285, 287, 289, 291, 293, 295, 297, 299] (by decide +kernel) (by decide +kernel)
set_option maxRecDepth 100000 in
theorem gL_law_X4_judge : GoodIn lw_tbl (wsV RL 32 RX4 yX4_judge wsX4_judge) := goodIn_app (goodIn_of _ (by decide +kernel)) ggL_law_X4_judge
set_option maxRecDepth 100000 in
theorem ggL_law_X3_about : GoodIn lw_tbl wsX3_about := goodIn_r _ [222, 145, 147, 0, 23, 148, 64, 62, 106, 108, 110, 112, 114, 116, 118, 120, 122, 124, 126, 68, 70, 72, 74, 76, 78] (by decide +kernel) (by decide +kernel)
set_option maxRecDepth 100000 in
theorem gL_law_X3_about : GoodIn lw_tbl (wsV RL 33 RX3 yX3_about wsX3_about) := goodIn_app (goodIn_of _ (by decide +kernel)) ggL_law_X3_about
set_option maxRecDepth 100000 in
theorem ggL_law_X4_about : GoodIn lw_tbl wsX4_about := goodIn_r _ [385, 259, 314, 316, 9, 26, 264, 386, 388, 20, 333, 335, 13, 349, 351, 17, 266, 267, 317, 260, 389, 337, 339, 14, 345, 347, 16, 340, 265, 348, 336, 341, 343, 15, 344, 352, 273, 275, 277, 279, 281, 283, 285, 287, 289, 291, 293, 295, 297, 299] (by decide +kernel) (by decide +kernel)
set_option maxRecDepth 100000 in
theorem gL_law_X4_about : GoodIn lw_tbl (wsV RL 37 RX4 yX4_about wsX4_about) := goodIn_app (goodIn_of _ (by decide +kernel)) ggL_law_X4_about
set_option maxRecDepth 100000 in
theorem ggL_law_X3_bound : GoodIn lw_tbl wsX3_bound := goodIn_r _ [226, 145, 147, 0, 23, 148, 64, 62, 135, 136, 137, 227, 229, 8, 230, 63, 172, 173, 174, 24, 175, 55, 56, 176, 177, 178, 25, 179, 50, 180, 181, 182, 183, 184, 185, 186, 187, 188, 189, 190, 191, 192, 193, 194, 195, 196, 197, 198, 106, 108, 110, 112, 114, 116, 118, 120, 122, 124, 126, 68, 70, 72, 74, 76, 78, 57, 59, 51] (by decide +kernel) (by decide +kernel)
set_option maxRecDepth 100000 in
theorem gL_law_X3_bound : GoodIn lw_tbl (wsV RL 38 RX3 yX3_bound wsX3_bound) := goodIn_app (goodIn_of _ (by decide +kernel)) ggL_law_X3_bound
set_option maxRecDepth 100000 in
theorem ggL_law_X4_bound : GoodIn lw_tbl wsX4_bound := goodIn_r _ [393, 259, 314, 316, 9, 26, 325, 327, 11, 317, 260, 328, 329, 331, 12, 333, 335, 13, 370, 372, 19, 332, 349, 351, 17, 353, 355, 18, 336, 264, 337, 339, 14, 341, 343, 15, 340, 265, 344, 345, 347, 16, 348, 352, 356, 270, 357, 358, 271, 360, 361, 364, 365, 367, 368, 359, 362, 363, 366, 369, 373, 374, 272, 375, 376, 377, 273, 275, 277, 279, 281, 283, 285, 287, 289, 291, 293, 295, 297, 299] (by decide +kernel) (by decide +kernel)
set_option maxRecDepth 100000 in
theorem gL_law_X4_bound : GoodIn lw_tbl (wsV RL 41 RX4 yX4_bound wsX4_bound) := goodIn_app (goodIn_of _ (by decide +kernel)) ggL_law_X4_bound
set_option maxRecDepth 100000 in
theorem ggL_law_X3_share : GoodIn lw_tbl wsX3_share := goodIn_r _ [234, 235, 145, 147, 0, 23, 148, 64, 62, 138, 139, 140, 168, 170, 4, 171, 63, 172, 173, 174, 24, 175, 55, 56, 176, 177, 178, 25, 179, 50, 180, 181, 182, 183, 184, 185, 186, 187, 188, 189, 190, 191, 192, 193, 199, 201, 5, 202, 236, 237, 238, 239, 240, 68, 70, 72, 74, 76, 78, 106, 108, 110, 112, 114, 116, 118, 120, 122, 124, 126, 57, 59, 51] (by decide +kernel) (by decide +kernel)
set_option maxRecDepth 100000 in
theorem gL_law_X3_share : GoodIn lw_tbl (wsV RL 42 RX3 yX3_share wsX3_share) := goodIn_app (goodIn_of _ (by decide +kernel)) ggL_law_X3_share
set_option maxRecDepth 100000 in
theorem ggL_law_X4_share : GoodIn lw_tbl wsX4_share := goodIn_r _ [397, 259, 314, 316, 9, 26, 398, 329, 331, 12, 333, 335, 13, 399, 400, 402, 21, 317, 260, 332, 349, 351, 17, 353, 355, 18, 336, 264, 337, 339, 14, 341, 343, 15, 340, 265, 344, 345, 347, 16, 348, 352, 356, 270, 357, 358, 271, 360, 361, 364, 365, 367, 368, 359, 362, 363, 366, 369, 403, 273, 275, 277, 279, 281, 283, 285, 287, 289, 291, 293, 295, 297, 299] (by decide +kernel) (by decide +kernel)
set_option maxRecDepth 100000 in
theorem gL_law_X4_share : GoodIn lw_tbl (wsV RL 46 RX4 yX4_share wsX4_share) := goodIn_app (goodIn_of _ (by decide +kernel)) ggL_law_X4_share
set_option maxRecDepth 100000 in
theorem ggL_law_X3_isBad : GoodIn lw_tbl wsX3_isBad := goodIn_r _ [244, 145, 147, 0, 23, 148, 64, 62, 245, 246, 247, 27, 248, 164, 166, 3, 167, 92, 90, 91, 68, 70, 72, 74, 76, 78, 106, 108, 110, 112, 114, 116, 118, 120, 122, 124, 126] (by decide +kernel) (by decide +kernel)
set_option maxRecDepth 100000 in
theorem gL_law_X3_isBad : GoodIn lw_tbl (wsV RL 47 RX3 yX3_isBad wsX3_isBad) := goodIn_app (goodIn_of _ (by decide +kernel)) ggL_law_X3_isBad
set_option maxRecDepth 100000 in
theorem ggL_law_X4_isBad : GoodIn lw_tbl wsX4_isBad := goodIn_r _ [407, 259, 314, 316, 9, 26, 318, 319, 341, 343, 15, 317, 260, 320, 344, 264, 337, 339, 14, 345, 347, 16, 340, 265, 348, 273, 275, 277, 279, 281, 283, 285, 287, 289, 291, 293, 295, 297, 299] (by decide +kernel) (by decide +kernel)
set_option maxRecDepth 100000 in
theorem gL_law_X4_isBad : GoodIn lw_tbl (wsV RL 51 RX4 yX4_isBad wsX4_isBad) := goodIn_app (goodIn_of _ (by decide +kernel)) ggL_law_X4_isBad
set_option maxRecDepth 100000 in
theorem ggL_law_X3_broken : GoodIn lw_tbl wsX3_broken := goodIn_r _ [252, 145, 147, 0, 23, 148, 64, 62, 245, 246, 247, 27, 248, 164, 166, 3, 167, 92, 90, 91, 106, 108, 110, 112, 114, 116, 118, 120, 122, 124, 126, 68, 70, 72, 74, 76, 78] (by decide +kernel) (by decide +kernel)
set_option maxRecDepth 100000 in
theorem gL_law_X3_broken : GoodIn lw_tbl (wsV RL 52 RX3 yX3_broken wsX3_broken) := goodIn_app (goodIn_of _ (by decide +kernel)) ggL_law_X3_broken
set_option maxRecDepth 100000 in
theorem ggL_law_X4_broken : GoodIn lw_tbl wsX4_broken := goodIn_r _ [411, 259, 260, 318, 319, 26, 341, 343, 15, 266, 320, 344, 264, 337, 339, 14, 345, 347, 16, 340, 265, 348, 273, 275, 277, 279, 281, 283, 285, 287, 289, 291, 293, 295, 297, 299] (by decide +kernel) (by decide +kernel)
set_option maxRecDepth 100000 in
theorem gL_law_X4_broken : GoodIn lw_tbl (wsV RL 56 RX4 yX4_broken wsX4_broken) := goodIn_app (goodIn_of _ (by decide +kernel)) ggL_law_X4_broken
theorem inX0 : ∀ w ∈ wsX00, w ∈ lw_tbl := by decide +kernel
theorem inX1 : ∀ w ∈ wsX10, w ∈ lw_tbl := by decide +kernel
theorem inX2 : ∀ w ∈ wsX20, w ∈ lw_tbl := by decide +kernel
theorem inX3 : ∀ w ∈ wsX30, w ∈ lw_tbl := by decide +kernel
theorem inX4 : ∀ w ∈ wsX40, w ∈ lw_tbl := by decide +kernel
abbrev vwCl : List vw_C := [(RX0, TX0, 2), (RX1, TX1, 1), (RX2, TX2, 11), (RX3, TX3, 6), (RX4, TX4, 14)]
/-- the tables' words that a contract's own words can't hold: fields of nest mates, arrays of histories -/
def fw_N (U : State) : Prop := va_AO RX2 U ∧ va_Nw (.fieldLinkNest RX3 58 "FlakyBounds$History" "size" "I" "FlakyBounds") U ∧ va_Nw (.fieldLinkNest RX3 61 "FlakyBounds$History" "doubtful" "I" "FlakyBounds") U ∧ va_Nw (.fieldLinkNest RX3 64 "FlakyBounds$History" "throwsCounted" "I" "FlakyBounds") U ∧ va_Nw (.fieldLinkNest RX3 67 "FlakyBounds$History" "failsCounted" "I" "FlakyBounds") U ∧ va_Nw (.fieldLinkNest RX3 70 "FlakyBounds$History" "marked" "Z" "FlakyBounds") U ∧ va_Nw (.fieldLinkNest RX3 74 "FlakyBounds$History" "timesMarked" "I" "FlakyBounds") U
theorem fw_N.warm {s U : State} (hW : s.WarmedH U.vm) (h : fw_N s) : fw_N U := ⟨h.1.moved hW.alike, (h.2.1).warmF hW, (h.2.2.1).warmF hW, (h.2.2.2.1).warmF hW, (h.2.2.2.2.1).warmF hW, (h.2.2.2.2.2.1).warmF hW, (h.2.2.2.2.2.2).warmF hW⟩
theorem fw_N.same {s U : State} (hv : s.vm = U.vm) (h : fw_N s) : fw_N U := ⟨h.1.moved (by rw [hv]; exact Vm.Alike.refl U.vm), va_Nw.same rfl hv (h.2.1), va_Nw.same rfl hv (h.2.2.1), va_Nw.same rfl hv (h.2.2.2.1), va_Nw.same rfl hv (h.2.2.2.2.1), va_Nw.same rfl hv (h.2.2.2.2.2.1), va_Nw.same rfl hv (h.2.2.2.2.2.2)⟩
theorem fw_N.of {args : Array Value} {s : State} (hts : ∀ w ∈ lw_tbl, w.before args s = true) : fw_N s := ⟨va_AO.of (hts _ (List.mem_of_getElem? (i := 37) rfl)), va_Nw.of rfl (hts _ (List.mem_of_getElem? (i := 93) rfl)), va_Nw.of rfl (hts _ (List.mem_of_getElem? (i := 95) rfl)), va_Nw.of rfl (hts _ (List.mem_of_getElem? (i := 97) rfl)), va_Nw.of rfl (hts _ (List.mem_of_getElem? (i := 99) rfl)), va_Nw.of rfl (hts _ (List.mem_of_getElem? (i := 102) rfl)), va_Nw.of rfl (hts _ (List.mem_of_getElem? (i := 103) rfl))⟩
theorem dX4_init_0 : decode cX4_init 0 = .ok (.aload_n 0, 1) := by decide +kernel
theorem dX4_init_1 : decode cX4_init 1 = .ok (.invokespecial 1, 3) := by decide +kernel
theorem dX4_init_4 : decode cX4_init 4 = .ok (.aload_n 0, 1) := by decide +kernel
theorem dX4_init_5 : decode cX4_init 5 = .ok (.bipush 50, 2) := by decide +kernel
theorem dX4_init_7 : decode cX4_init 7 = .ok (.putfield 7, 3) := by decide +kernel
theorem dX4_init_10 : decode cX4_init 10 = .ok (.aload_n 0, 1) := by decide +kernel
theorem dX4_init_11 : decode cX4_init 11 = .ok (.bipush 20, 2) := by decide +kernel
theorem dX4_init_13 : decode cX4_init 13 = .ok (.putfield 13, 3) := by decide +kernel
theorem dX4_init_16 : decode cX4_init 16 = .ok (.aload_n 0, 1) := by decide +kernel
theorem dX4_init_17 : decode cX4_init 17 = .ok (.iconst 5, 1) := by decide +kernel
theorem dX4_init_18 : decode cX4_init 18 = .ok (.putfield 16, 3) := by decide +kernel
theorem dX4_init_21 : decode cX4_init 21 = .ok (.aload_n 0, 1) := by decide +kernel
theorem dX4_init_22 : decode cX4_init 22 = .ok (.bipush 12, 2) := by decide +kernel
theorem dX4_init_24 : decode cX4_init 24 = .ok (.newarray .int, 2) := by decide +kernel
theorem dX4_init_26 : decode cX4_init 26 = .ok (.putfield 19, 3) := by decide +kernel
theorem dX4_init_29 : decode cX4_init 29 = .ok (.aload_n 0, 1) := by decide +kernel
theorem dX4_init_30 : decode cX4_init 30 = .ok (.sipush 576, 3) := by decide +kernel
theorem dX4_init_33 : decode cX4_init 33 = .ok (.newarray .int, 2) := by decide +kernel
theorem dX4_init_35 : decode cX4_init 35 = .ok (.putfield 23, 3) := by decide +kernel
theorem dX4_init_38 : decode cX4_init 38 = .ok (.aload_n 0, 1) := by decide +kernel
theorem dX4_init_39 : decode cX4_init 39 = .ok (.bipush 12, 2) := by decide +kernel
theorem dX4_init_41 : decode cX4_init 41 = .ok (.newarray .boolean, 2) := by decide +kernel
theorem dX4_init_43 : decode cX4_init 43 = .ok (.putfield 26, 3) := by decide +kernel
theorem dX4_init_46 : decode cX4_init 46 = .ok (.aload_n 0, 1) := by decide +kernel
theorem dX4_init_47 : decode cX4_init 47 = .ok (.bipush 12, 2) := by decide +kernel
theorem dX4_init_49 : decode cX4_init 49 = .ok (.newarray .int, 2) := by decide +kernel
theorem dX4_init_51 : decode cX4_init 51 = .ok (.putfield 30, 3) := by decide +kernel
theorem dX4_init_54 : decode cX4_init 54 = .ok (.aload_n 0, 1) := by decide +kernel
theorem dX4_init_55 : decode cX4_init 55 = .ok (.bipush 12, 2) := by decide +kernel
theorem dX4_init_57 : decode cX4_init 57 = .ok (.newarray .int, 2) := by decide +kernel
theorem dX4_init_59 : decode cX4_init 59 = .ok (.putfield 33, 3) := by decide +kernel
theorem dX4_init_62 : decode cX4_init 62 = .ok (.aload_n 0, 1) := by decide +kernel
theorem dX4_init_63 : decode cX4_init 63 = .ok (.bipush 12, 2) := by decide +kernel
theorem dX4_init_65 : decode cX4_init 65 = .ok (.newarray .int, 2) := by decide +kernel
theorem dX4_init_67 : decode cX4_init 67 = .ok (.putfield 36, 3) := by decide +kernel
theorem dX4_init_70 : decode cX4_init 70 = .ok (.aload_n 0, 1) := by decide +kernel
theorem dX4_init_71 : decode cX4_init 71 = .ok (.bipush 48, 2) := by decide +kernel
theorem dX4_init_73 : decode cX4_init 73 = .ok (.newarray .long, 2) := by decide +kernel
theorem dX4_init_75 : decode cX4_init 75 = .ok (.putfield 39, 3) := by decide +kernel
theorem dX4_init_78 : decode cX4_init 78 = .ok (.aload_n 0, 1) := by decide +kernel
theorem dX4_init_79 : decode cX4_init 79 = .ok (.bipush 48, 2) := by decide +kernel
theorem dX4_init_81 : decode cX4_init 81 = .ok (.newarray .long, 2) := by decide +kernel
theorem dX4_init_83 : decode cX4_init 83 = .ok (.putfield 43, 3) := by decide +kernel
theorem dX4_init_86 : decode cX4_init 86 = .ok (.aload_n 0, 1) := by decide +kernel
theorem dX4_init_87 : decode cX4_init 87 = .ok (.bipush 48, 2) := by decide +kernel
theorem dX4_init_89 : decode cX4_init 89 = .ok (.newarray .long, 2) := by decide +kernel
theorem dX4_init_91 : decode cX4_init 91 = .ok (.putfield 46, 3) := by decide +kernel
theorem dX4_init_94 : decode cX4_init 94 = .ok (.return_, 1) := by decide +kernel
theorem dX4_isTest_0 : decode cX4_isTest 0 = .ok (.iload_n 1, 1) := by decide +kernel
theorem dX4_isTest_1 : decode cX4_isTest 1 = .ok (.ifCond .lt 15, 3) := by decide +kernel
theorem dX4_isTest_4 : decode cX4_isTest 4 = .ok (.iload_n 1, 1) := by decide +kernel
theorem dX4_isTest_5 : decode cX4_isTest 5 = .ok (.aload_n 0, 1) := by decide +kernel
theorem dX4_isTest_6 : decode cX4_isTest 6 = .ok (.getfield 52, 3) := by decide +kernel
theorem dX4_isTest_9 : decode cX4_isTest 9 = .ok (.if_icmp .ge 7, 3) := by decide +kernel
theorem dX4_isTest_12 : decode cX4_isTest 12 = .ok (.iconst 1, 1) := by decide +kernel
theorem dX4_isTest_13 : decode cX4_isTest 13 = .ok (.goto 4, 3) := by decide +kernel
theorem dX4_isTest_16 : decode cX4_isTest 16 = .ok (.iconst 0, 1) := by decide +kernel
theorem dX4_isTest_17 : decode cX4_isTest 17 = .ok (.ireturn, 1) := by decide +kernel
theorem dX4_isEdition_0 : decode cX4_isEdition 0 = .ok (.iload_n 0, 1) := by decide +kernel
theorem dX4_isEdition_1 : decode cX4_isEdition 1 = .ok (.ifCond .lt 14, 3) := by decide +kernel
theorem dX4_isEdition_4 : decode cX4_isEdition 4 = .ok (.iload_n 0, 1) := by decide +kernel
theorem dX4_isEdition_5 : decode cX4_isEdition 5 = .ok (.sipush 1000, 3) := by decide +kernel
theorem dX4_isEdition_8 : decode cX4_isEdition 8 = .ok (.if_icmp .ge 7, 3) := by decide +kernel
theorem dX4_isEdition_11 : decode cX4_isEdition 11 = .ok (.iconst 1, 1) := by decide +kernel
theorem dX4_isEdition_12 : decode cX4_isEdition 12 = .ok (.goto 4, 3) := by decide +kernel
theorem dX4_isEdition_15 : decode cX4_isEdition 15 = .ok (.iconst 0, 1) := by decide +kernel
theorem dX4_isEdition_16 : decode cX4_isEdition 16 = .ok (.ireturn, 1) := by decide +kernel
theorem dX4_set_0 : decode cX4_set 0 = .ok (.iconst 0, 1) := by decide +kernel
theorem dX4_set_1 : decode cX4_set 1 = .ok (.istore_n 3, 1) := by decide +kernel
theorem dX4_set_2 : decode cX4_set 2 = .ok (.iload_n 3, 1) := by decide +kernel
theorem dX4_set_3 : decode cX4_set 3 = .ok (.bipush 48, 2) := by decide +kernel
theorem dX4_set_5 : decode cX4_set 5 = .ok (.if_icmp .ge 13, 3) := by decide +kernel
theorem dX4_set_8 : decode cX4_set 8 = .ok (.aload_n 0, 1) := by decide +kernel
theorem dX4_set_9 : decode cX4_set 9 = .ok (.iload_n 3, 1) := by decide +kernel
theorem dX4_set_10 : decode cX4_set 10 = .ok (.lconst 0, 1) := by decide +kernel
theorem dX4_set_11 : decode cX4_set 11 = .ok (.lastore, 1) := by decide +kernel
theorem dX4_set_12 : decode cX4_set 12 = .ok (.iinc 3 1, 3) := by decide +kernel
theorem dX4_set_15 : decode cX4_set 15 = .ok (.goto (-13), 3) := by decide +kernel
theorem dX4_set_18 : decode cX4_set 18 = .ok (.aload_n 0, 1) := by decide +kernel
theorem dX4_set_19 : decode cX4_set 19 = .ok (.iconst 0, 1) := by decide +kernel
theorem dX4_set_20 : decode cX4_set 20 = .ok (.lload_n 1, 1) := by decide +kernel
theorem dX4_set_21 : decode cX4_set 21 = .ok (.lastore, 1) := by decide +kernel
theorem dX4_set_22 : decode cX4_set 22 = .ok (.return_, 1) := by decide +kernel
theorem dX4_times_0 : decode cX4_times 0 = .ok (.lconst 0, 1) := by decide +kernel
theorem dX4_times_1 : decode cX4_times 1 = .ok (.lstore_n 3, 1) := by decide +kernel
theorem dX4_times_2 : decode cX4_times 2 = .ok (.iconst 0, 1) := by decide +kernel
theorem dX4_times_3 : decode cX4_times 3 = .ok (.istore 5, 2) := by decide +kernel
theorem dX4_times_5 : decode cX4_times 5 = .ok (.iload 5, 2) := by decide +kernel
theorem dX4_times_7 : decode cX4_times 7 = .ok (.bipush 48, 2) := by decide +kernel
theorem dX4_times_9 : decode cX4_times 9 = .ok (.if_icmp .ge 36, 3) := by decide +kernel
theorem dX4_times_12 : decode cX4_times 12 = .ok (.aload_n 0, 1) := by decide +kernel
theorem dX4_times_13 : decode cX4_times 13 = .ok (.iload 5, 2) := by decide +kernel
theorem dX4_times_15 : decode cX4_times 15 = .ok (.laload, 1) := by decide +kernel
theorem dX4_times_16 : decode cX4_times 16 = .ok (.lload_n 1, 1) := by decide +kernel
theorem dX4_times_17 : decode cX4_times 17 = .ok (.lmul, 1) := by decide +kernel
theorem dX4_times_18 : decode cX4_times 18 = .ok (.lload_n 3, 1) := by decide +kernel
theorem dX4_times_19 : decode cX4_times 19 = .ok (.ladd, 1) := by decide +kernel
theorem dX4_times_20 : decode cX4_times 20 = .ok (.lstore 6, 2) := by decide +kernel
theorem dX4_times_22 : decode cX4_times 22 = .ok (.aload_n 0, 1) := by decide +kernel
theorem dX4_times_23 : decode cX4_times 23 = .ok (.iload 5, 2) := by decide +kernel
theorem dX4_times_25 : decode cX4_times 25 = .ok (.lload 6, 2) := by decide +kernel
theorem dX4_times_27 : decode cX4_times 27 = .ok (.ldc2_w 55, 3) := by decide +kernel
theorem dX4_times_30 : decode cX4_times 30 = .ok (.lrem, 1) := by decide +kernel
theorem dX4_times_31 : decode cX4_times 31 = .ok (.lastore, 1) := by decide +kernel
theorem dX4_times_32 : decode cX4_times 32 = .ok (.lload 6, 2) := by decide +kernel
theorem dX4_times_34 : decode cX4_times 34 = .ok (.ldc2_w 55, 3) := by decide +kernel
theorem dX4_times_37 : decode cX4_times 37 = .ok (.ldiv, 1) := by decide +kernel
theorem dX4_times_38 : decode cX4_times 38 = .ok (.lstore_n 3, 1) := by decide +kernel
theorem dX4_times_39 : decode cX4_times 39 = .ok (.iinc 5 1, 3) := by decide +kernel
theorem dX4_times_42 : decode cX4_times 42 = .ok (.goto (-37), 3) := by decide +kernel
theorem dX4_times_45 : decode cX4_times 45 = .ok (.return_, 1) := by decide +kernel
theorem dX4_plus_0 : decode cX4_plus 0 = .ok (.lconst 0, 1) := by decide +kernel
theorem dX4_plus_1 : decode cX4_plus 1 = .ok (.lstore_n 2, 1) := by decide +kernel
theorem dX4_plus_2 : decode cX4_plus 2 = .ok (.iconst 0, 1) := by decide +kernel
theorem dX4_plus_3 : decode cX4_plus 3 = .ok (.istore 4, 2) := by decide +kernel
theorem dX4_plus_5 : decode cX4_plus 5 = .ok (.iload 4, 2) := by decide +kernel
theorem dX4_plus_7 : decode cX4_plus 7 = .ok (.bipush 48, 2) := by decide +kernel
theorem dX4_plus_9 : decode cX4_plus 9 = .ok (.if_icmp .ge 39, 3) := by decide +kernel
theorem dX4_plus_12 : decode cX4_plus 12 = .ok (.aload_n 0, 1) := by decide +kernel
theorem dX4_plus_13 : decode cX4_plus 13 = .ok (.iload 4, 2) := by decide +kernel
theorem dX4_plus_15 : decode cX4_plus 15 = .ok (.laload, 1) := by decide +kernel
theorem dX4_plus_16 : decode cX4_plus 16 = .ok (.aload_n 1, 1) := by decide +kernel
theorem dX4_plus_17 : decode cX4_plus 17 = .ok (.iload 4, 2) := by decide +kernel
theorem dX4_plus_19 : decode cX4_plus 19 = .ok (.laload, 1) := by decide +kernel
theorem dX4_plus_20 : decode cX4_plus 20 = .ok (.ladd, 1) := by decide +kernel
theorem dX4_plus_21 : decode cX4_plus 21 = .ok (.lload_n 2, 1) := by decide +kernel
theorem dX4_plus_22 : decode cX4_plus 22 = .ok (.ladd, 1) := by decide +kernel
theorem dX4_plus_23 : decode cX4_plus 23 = .ok (.lstore 5, 2) := by decide +kernel
theorem dX4_plus_25 : decode cX4_plus 25 = .ok (.aload_n 0, 1) := by decide +kernel
theorem dX4_plus_26 : decode cX4_plus 26 = .ok (.iload 4, 2) := by decide +kernel
theorem dX4_plus_28 : decode cX4_plus 28 = .ok (.lload 5, 2) := by decide +kernel
theorem dX4_plus_30 : decode cX4_plus 30 = .ok (.ldc2_w 55, 3) := by decide +kernel
theorem dX4_plus_33 : decode cX4_plus 33 = .ok (.lrem, 1) := by decide +kernel
theorem dX4_plus_34 : decode cX4_plus 34 = .ok (.lastore, 1) := by decide +kernel
theorem dX4_plus_35 : decode cX4_plus 35 = .ok (.lload 5, 2) := by decide +kernel
theorem dX4_plus_37 : decode cX4_plus 37 = .ok (.ldc2_w 55, 3) := by decide +kernel
theorem dX4_plus_40 : decode cX4_plus 40 = .ok (.ldiv, 1) := by decide +kernel
theorem dX4_plus_41 : decode cX4_plus 41 = .ok (.lstore_n 2, 1) := by decide +kernel
theorem dX4_plus_42 : decode cX4_plus 42 = .ok (.iinc 4 1, 3) := by decide +kernel
theorem dX4_plus_45 : decode cX4_plus 45 = .ok (.goto (-40), 3) := by decide +kernel
theorem dX4_plus_48 : decode cX4_plus 48 = .ok (.return_, 1) := by decide +kernel
theorem dX4_isAbove_0 : decode cX4_isAbove 0 = .ok (.bipush 47, 2) := by decide +kernel
theorem dX4_isAbove_2 : decode cX4_isAbove 2 = .ok (.istore_n 2, 1) := by decide +kernel
theorem dX4_isAbove_3 : decode cX4_isAbove 3 = .ok (.iload_n 2, 1) := by decide +kernel
theorem dX4_isAbove_4 : decode cX4_isAbove 4 = .ok (.ifCond .le 19, 3) := by decide +kernel
theorem dX4_isAbove_7 : decode cX4_isAbove 7 = .ok (.aload_n 0, 1) := by decide +kernel
theorem dX4_isAbove_8 : decode cX4_isAbove 8 = .ok (.iload_n 2, 1) := by decide +kernel
theorem dX4_isAbove_9 : decode cX4_isAbove 9 = .ok (.laload, 1) := by decide +kernel
theorem dX4_isAbove_10 : decode cX4_isAbove 10 = .ok (.aload_n 1, 1) := by decide +kernel
theorem dX4_isAbove_11 : decode cX4_isAbove 11 = .ok (.iload_n 2, 1) := by decide +kernel
theorem dX4_isAbove_12 : decode cX4_isAbove 12 = .ok (.laload, 1) := by decide +kernel
theorem dX4_isAbove_13 : decode cX4_isAbove 13 = .ok (.lcmp, 1) := by decide +kernel
theorem dX4_isAbove_14 : decode cX4_isAbove 14 = .ok (.ifCond .ne 9, 3) := by decide +kernel
theorem dX4_isAbove_17 : decode cX4_isAbove 17 = .ok (.iinc 2 (-1), 3) := by decide +kernel
theorem dX4_isAbove_20 : decode cX4_isAbove 20 = .ok (.goto (-17), 3) := by decide +kernel
theorem dX4_isAbove_23 : decode cX4_isAbove 23 = .ok (.aload_n 0, 1) := by decide +kernel
theorem dX4_isAbove_24 : decode cX4_isAbove 24 = .ok (.iload_n 2, 1) := by decide +kernel
theorem dX4_isAbove_25 : decode cX4_isAbove 25 = .ok (.laload, 1) := by decide +kernel
theorem dX4_isAbove_26 : decode cX4_isAbove 26 = .ok (.aload_n 1, 1) := by decide +kernel
theorem dX4_isAbove_27 : decode cX4_isAbove 27 = .ok (.iload_n 2, 1) := by decide +kernel
theorem dX4_isAbove_28 : decode cX4_isAbove 28 = .ok (.laload, 1) := by decide +kernel
theorem dX4_isAbove_29 : decode cX4_isAbove 29 = .ok (.lcmp, 1) := by decide +kernel
theorem dX4_isAbove_30 : decode cX4_isAbove 30 = .ok (.ifCond .le 7, 3) := by decide +kernel
theorem dX4_isAbove_33 : decode cX4_isAbove 33 = .ok (.iconst 1, 1) := by decide +kernel
theorem dX4_isAbove_34 : decode cX4_isAbove 34 = .ok (.goto 4, 3) := by decide +kernel
theorem dX4_isAbove_37 : decode cX4_isAbove 37 = .ok (.iconst 0, 1) := by decide +kernel
theorem dX4_isAbove_38 : decode cX4_isAbove 38 = .ok (.ireturn, 1) := by decide +kernel
theorem dX4_over_0 : decode cX4_over 0 = .ok (.lconst 1, 1) := by decide +kernel
theorem dX4_over_1 : decode cX4_over 1 = .ok (.lstore_n 2, 1) := by decide +kernel
theorem dX4_over_2 : decode cX4_over 2 = .ok (.iconst 1, 1) := by decide +kernel
theorem dX4_over_3 : decode cX4_over 3 = .ok (.istore 4, 2) := by decide +kernel
theorem dX4_over_5 : decode cX4_over 5 = .ok (.iload 4, 2) := by decide +kernel
theorem dX4_over_7 : decode cX4_over 7 = .ok (.iload_n 1, 1) := by decide +kernel
theorem dX4_over_8 : decode cX4_over 8 = .ok (.if_icmp .gt 23, 3) := by decide +kernel
theorem dX4_over_11 : decode cX4_over 11 = .ok (.lload_n 2, 1) := by decide +kernel
theorem dX4_over_12 : decode cX4_over 12 = .ok (.iload_n 0, 1) := by decide +kernel
theorem dX4_over_13 : decode cX4_over 13 = .ok (.iload_n 1, 1) := by decide +kernel
theorem dX4_over_14 : decode cX4_over 14 = .ok (.isub, 1) := by decide +kernel
theorem dX4_over_15 : decode cX4_over 15 = .ok (.iload 4, 2) := by decide +kernel
theorem dX4_over_17 : decode cX4_over 17 = .ok (.iadd, 1) := by decide +kernel
theorem dX4_over_18 : decode cX4_over 18 = .ok (.i2l, 1) := by decide +kernel
theorem dX4_over_19 : decode cX4_over 19 = .ok (.lmul, 1) := by decide +kernel
theorem dX4_over_20 : decode cX4_over 20 = .ok (.iload 4, 2) := by decide +kernel
theorem dX4_over_22 : decode cX4_over 22 = .ok (.i2l, 1) := by decide +kernel
theorem dX4_over_23 : decode cX4_over 23 = .ok (.ldiv, 1) := by decide +kernel
theorem dX4_over_24 : decode cX4_over 24 = .ok (.lstore_n 2, 1) := by decide +kernel
theorem dX4_over_25 : decode cX4_over 25 = .ok (.iinc 4 1, 3) := by decide +kernel
theorem dX4_over_28 : decode cX4_over 28 = .ok (.goto (-23), 3) := by decide +kernel
theorem dX4_over_31 : decode cX4_over 31 = .ok (.lload_n 2, 1) := by decide +kernel
theorem dX4_over_32 : decode cX4_over 32 = .ok (.lreturn, 1) := by decide +kernel
theorem dX4_add_0 : decode cX4_add 0 = .ok (.aload_n 0, 1) := by decide +kernel
theorem dX4_add_1 : decode cX4_add 1 = .ok (.getfield 39, 3) := by decide +kernel
theorem dX4_add_4 : decode cX4_add 4 = .ok (.lconst 0, 1) := by decide +kernel
theorem dX4_add_5 : decode cX4_add 5 = .ok (.invokestatic 57, 3) := by decide +kernel
theorem dX4_add_8 : decode cX4_add 8 = .ok (.iload_n 2, 1) := by decide +kernel
theorem dX4_add_9 : decode cX4_add 9 = .ok (.istore 5, 2) := by decide +kernel
theorem dX4_add_11 : decode cX4_add 11 = .ok (.iload 5, 2) := by decide +kernel
theorem dX4_add_13 : decode cX4_add 13 = .ok (.iload_n 3, 1) := by decide +kernel
theorem dX4_add_14 : decode cX4_add 14 = .ok (.if_icmp .gt 83, 3) := by decide +kernel
theorem dX4_add_17 : decode cX4_add 17 = .ok (.aload_n 0, 1) := by decide +kernel
theorem dX4_add_18 : decode cX4_add 18 = .ok (.getfield 43, 3) := by decide +kernel
theorem dX4_add_21 : decode cX4_add 21 = .ok (.lconst 1, 1) := by decide +kernel
theorem dX4_add_22 : decode cX4_add 22 = .ok (.invokestatic 57, 3) := by decide +kernel
theorem dX4_add_25 : decode cX4_add 25 = .ok (.iconst 0, 1) := by decide +kernel
theorem dX4_add_26 : decode cX4_add 26 = .ok (.istore 6, 2) := by decide +kernel
theorem dX4_add_28 : decode cX4_add 28 = .ok (.iload 6, 2) := by decide +kernel
theorem dX4_add_30 : decode cX4_add 30 = .ok (.iload_n 1, 1) := by decide +kernel
theorem dX4_add_31 : decode cX4_add 31 = .ok (.if_icmp .ge 36, 3) := by decide +kernel
theorem dX4_add_34 : decode cX4_add 34 = .ok (.aload_n 0, 1) := by decide +kernel
theorem dX4_add_35 : decode cX4_add 35 = .ok (.getfield 43, 3) := by decide +kernel
theorem dX4_add_38 : decode cX4_add 38 = .ok (.iload 6, 2) := by decide +kernel
theorem dX4_add_40 : decode cX4_add 40 = .ok (.iload 5, 2) := by decide +kernel
theorem dX4_add_42 : decode cX4_add 42 = .ok (.if_icmp .ge 9, 3) := by decide +kernel
theorem dX4_add_45 : decode cX4_add 45 = .ok (.iload 4, 2) := by decide +kernel
theorem dX4_add_47 : decode cX4_add 47 = .ok (.i2l, 1) := by decide +kernel
theorem dX4_add_48 : decode cX4_add 48 = .ok (.goto 10, 3) := by decide +kernel
theorem dX4_add_51 : decode cX4_add 51 = .ok (.sipush 1000, 3) := by decide +kernel
theorem dX4_add_54 : decode cX4_add 54 = .ok (.iload 4, 2) := by decide +kernel
theorem dX4_add_56 : decode cX4_add 56 = .ok (.isub, 1) := by decide +kernel
theorem dX4_add_57 : decode cX4_add 57 = .ok (.i2l, 1) := by decide +kernel
theorem dX4_add_58 : decode cX4_add 58 = .ok (.invokestatic 61, 3) := by decide +kernel
theorem dX4_add_61 : decode cX4_add 61 = .ok (.iinc 6 1, 3) := by decide +kernel
theorem dX4_add_64 : decode cX4_add 64 = .ok (.goto (-36), 3) := by decide +kernel
theorem dX4_add_67 : decode cX4_add 67 = .ok (.aload_n 0, 1) := by decide +kernel
theorem dX4_add_68 : decode cX4_add 68 = .ok (.getfield 43, 3) := by decide +kernel
theorem dX4_add_71 : decode cX4_add 71 = .ok (.iload_n 1, 1) := by decide +kernel
theorem dX4_add_72 : decode cX4_add 72 = .ok (.iload 5, 2) := by decide +kernel
theorem dX4_add_74 : decode cX4_add 74 = .ok (.invokestatic 64, 3) := by decide +kernel
theorem dX4_add_77 : decode cX4_add 77 = .ok (.invokestatic 61, 3) := by decide +kernel
theorem dX4_add_80 : decode cX4_add 80 = .ok (.aload_n 0, 1) := by decide +kernel
theorem dX4_add_81 : decode cX4_add 81 = .ok (.getfield 39, 3) := by decide +kernel
theorem dX4_add_84 : decode cX4_add 84 = .ok (.aload_n 0, 1) := by decide +kernel
theorem dX4_add_85 : decode cX4_add 85 = .ok (.getfield 43, 3) := by decide +kernel
theorem dX4_add_88 : decode cX4_add 88 = .ok (.invokestatic 68, 3) := by decide +kernel
theorem dX4_add_91 : decode cX4_add 91 = .ok (.iinc 5 1, 3) := by decide +kernel
theorem dX4_add_94 : decode cX4_add 94 = .ok (.goto (-83), 3) := by decide +kernel
theorem dX4_add_97 : decode cX4_add 97 = .ok (.return_, 1) := by decide +kernel
theorem dX4_shareOf_0 : decode cX4_shareOf 0 = .ok (.aload_n 0, 1) := by decide +kernel
theorem dX4_shareOf_1 : decode cX4_shareOf 1 = .ok (.iload_n 1, 1) := by decide +kernel
theorem dX4_shareOf_2 : decode cX4_shareOf 2 = .ok (.invokevirtual 72, 3) := by decide +kernel
theorem dX4_shareOf_5 : decode cX4_shareOf 5 = .ok (.istore 4, 2) := by decide +kernel
theorem dX4_shareOf_7 : decode cX4_shareOf 7 = .ok (.aload_n 0, 1) := by decide +kernel
theorem dX4_shareOf_8 : decode cX4_shareOf 8 = .ok (.iload_n 1, 1) := by decide +kernel
theorem dX4_shareOf_9 : decode cX4_shareOf 9 = .ok (.invokevirtual 76, 3) := by decide +kernel
theorem dX4_shareOf_12 : decode cX4_shareOf 12 = .ok (.istore 5, 2) := by decide +kernel
theorem dX4_shareOf_14 : decode cX4_shareOf 14 = .ok (.aload_n 0, 1) := by decide +kernel
theorem dX4_shareOf_15 : decode cX4_shareOf 15 = .ok (.iload 4, 2) := by decide +kernel
theorem dX4_shareOf_17 : decode cX4_shareOf 17 = .ok (.iload_n 3, 1) := by decide +kernel
theorem dX4_shareOf_18 : decode cX4_shareOf 18 = .ok (.ifCond .eq 7, 3) := by decide +kernel
theorem dX4_shareOf_21 : decode cX4_shareOf 21 = .ok (.iconst 0, 1) := by decide +kernel
theorem dX4_shareOf_22 : decode cX4_shareOf 22 = .ok (.goto 5, 3) := by decide +kernel
theorem dX4_shareOf_25 : decode cX4_shareOf 25 = .ok (.iload 5, 2) := by decide +kernel
theorem dX4_shareOf_27 : decode cX4_shareOf 27 = .ok (.iload_n 3, 1) := by decide +kernel
theorem dX4_shareOf_28 : decode cX4_shareOf 28 = .ok (.ifCond .eq 8, 3) := by decide +kernel
theorem dX4_shareOf_31 : decode cX4_shareOf 31 = .ok (.iload 5, 2) := by decide +kernel
theorem dX4_shareOf_33 : decode cX4_shareOf 33 = .ok (.goto 5, 3) := by decide +kernel
theorem dX4_shareOf_36 : decode cX4_shareOf 36 = .ok (.iload 4, 2) := by decide +kernel
theorem dX4_shareOf_38 : decode cX4_shareOf 38 = .ok (.iload_n 2, 1) := by decide +kernel
theorem dX4_shareOf_39 : decode cX4_shareOf 39 = .ok (.invokevirtual 79, 3) := by decide +kernel
theorem dX4_shareOf_42 : decode cX4_shareOf 42 = .ok (.return_, 1) := by decide +kernel
theorem dX4_isAboveLevel_0 : decode cX4_isAboveLevel 0 = .ok (.aload_n 0, 1) := by decide +kernel
theorem dX4_isAboveLevel_1 : decode cX4_isAboveLevel 1 = .ok (.getfield 39, 3) := by decide +kernel
theorem dX4_isAboveLevel_4 : decode cX4_isAboveLevel 4 = .ok (.ldc2_w 83, 3) := by decide +kernel
theorem dX4_isAboveLevel_7 : decode cX4_isAboveLevel 7 = .ok (.invokestatic 61, 3) := by decide +kernel
theorem dX4_isAboveLevel_10 : decode cX4_isAboveLevel 10 = .ok (.aload_n 0, 1) := by decide +kernel
theorem dX4_isAboveLevel_11 : decode cX4_isAboveLevel 11 = .ok (.getfield 46, 3) := by decide +kernel
theorem dX4_isAboveLevel_14 : decode cX4_isAboveLevel 14 = .ok (.iload_n 2, 1) := by decide +kernel
theorem dX4_isAboveLevel_15 : decode cX4_isAboveLevel 15 = .ok (.i2l, 1) := by decide +kernel
theorem dX4_isAboveLevel_16 : decode cX4_isAboveLevel 16 = .ok (.invokestatic 57, 3) := by decide +kernel
theorem dX4_isAboveLevel_19 : decode cX4_isAboveLevel 19 = .ok (.iconst 0, 1) := by decide +kernel
theorem dX4_isAboveLevel_20 : decode cX4_isAboveLevel 20 = .ok (.istore_n 3, 1) := by decide +kernel
theorem dX4_isAboveLevel_21 : decode cX4_isAboveLevel 21 = .ok (.iload_n 3, 1) := by decide +kernel
theorem dX4_isAboveLevel_22 : decode cX4_isAboveLevel 22 = .ok (.iload_n 1, 1) := by decide +kernel
theorem dX4_isAboveLevel_23 : decode cX4_isAboveLevel 23 = .ok (.if_icmp .ge 19, 3) := by decide +kernel
theorem dX4_isAboveLevel_26 : decode cX4_isAboveLevel 26 = .ok (.aload_n 0, 1) := by decide +kernel
theorem dX4_isAboveLevel_27 : decode cX4_isAboveLevel 27 = .ok (.getfield 46, 3) := by decide +kernel
theorem dX4_isAboveLevel_30 : decode cX4_isAboveLevel 30 = .ok (.ldc2_w 83, 3) := by decide +kernel
theorem dX4_isAboveLevel_33 : decode cX4_isAboveLevel 33 = .ok (.invokestatic 61, 3) := by decide +kernel
theorem dX4_isAboveLevel_36 : decode cX4_isAboveLevel 36 = .ok (.iinc 3 1, 3) := by decide +kernel
theorem dX4_isAboveLevel_39 : decode cX4_isAboveLevel 39 = .ok (.goto (-18), 3) := by decide +kernel
theorem dX4_isAboveLevel_42 : decode cX4_isAboveLevel 42 = .ok (.aload_n 0, 1) := by decide +kernel
theorem dX4_isAboveLevel_43 : decode cX4_isAboveLevel 43 = .ok (.getfield 39, 3) := by decide +kernel
theorem dX4_isAboveLevel_46 : decode cX4_isAboveLevel 46 = .ok (.aload_n 0, 1) := by decide +kernel
theorem dX4_isAboveLevel_47 : decode cX4_isAboveLevel 47 = .ok (.getfield 46, 3) := by decide +kernel
theorem dX4_isAboveLevel_50 : decode cX4_isAboveLevel 50 = .ok (.invokestatic 85, 3) := by decide +kernel
theorem dX4_isAboveLevel_53 : decode cX4_isAboveLevel 53 = .ok (.ireturn, 1) := by decide +kernel
theorem dX4_boundOf_0 : decode cX4_boundOf 0 = .ok (.iconst 0, 1) := by decide +kernel
theorem dX4_boundOf_1 : decode cX4_boundOf 1 = .ok (.istore 4, 2) := by decide +kernel
theorem dX4_boundOf_3 : decode cX4_boundOf 3 = .ok (.sipush 1000, 3) := by decide +kernel
theorem dX4_boundOf_6 : decode cX4_boundOf 6 = .ok (.istore 5, 2) := by decide +kernel
theorem dX4_boundOf_8 : decode cX4_boundOf 8 = .ok (.iload 4, 2) := by decide +kernel
theorem dX4_boundOf_10 : decode cX4_boundOf 10 = .ok (.iload 5, 2) := by decide +kernel
theorem dX4_boundOf_12 : decode cX4_boundOf 12 = .ok (.if_icmp .ge 118, 3) := by decide +kernel
theorem dX4_boundOf_15 : decode cX4_boundOf 15 = .ok (.iload_n 3, 1) := by decide +kernel
theorem dX4_boundOf_16 : decode cX4_boundOf 16 = .ok (.ifCond .eq 15, 3) := by decide +kernel
theorem dX4_boundOf_19 : decode cX4_boundOf 19 = .ok (.iload 4, 2) := by decide +kernel
theorem dX4_boundOf_21 : decode cX4_boundOf 21 = .ok (.iload 5, 2) := by decide +kernel
theorem dX4_boundOf_23 : decode cX4_boundOf 23 = .ok (.iadd, 1) := by decide +kernel
theorem dX4_boundOf_24 : decode cX4_boundOf 24 = .ok (.iconst 1, 1) := by decide +kernel
theorem dX4_boundOf_25 : decode cX4_boundOf 25 = .ok (.iadd, 1) := by decide +kernel
theorem dX4_boundOf_26 : decode cX4_boundOf 26 = .ok (.iconst 2, 1) := by decide +kernel
theorem dX4_boundOf_27 : decode cX4_boundOf 27 = .ok (.idiv, 1) := by decide +kernel
theorem dX4_boundOf_28 : decode cX4_boundOf 28 = .ok (.goto 10, 3) := by decide +kernel
theorem dX4_boundOf_31 : decode cX4_boundOf 31 = .ok (.iload 4, 2) := by decide +kernel
theorem dX4_boundOf_33 : decode cX4_boundOf 33 = .ok (.iload 5, 2) := by decide +kernel
theorem dX4_boundOf_35 : decode cX4_boundOf 35 = .ok (.iadd, 1) := by decide +kernel
theorem dX4_boundOf_36 : decode cX4_boundOf 36 = .ok (.iconst 2, 1) := by decide +kernel
theorem dX4_boundOf_37 : decode cX4_boundOf 37 = .ok (.idiv, 1) := by decide +kernel
theorem dX4_boundOf_38 : decode cX4_boundOf 38 = .ok (.istore 6, 2) := by decide +kernel
theorem dX4_boundOf_40 : decode cX4_boundOf 40 = .ok (.aload_n 0, 1) := by decide +kernel
theorem dX4_boundOf_41 : decode cX4_boundOf 41 = .ok (.iload_n 1, 1) := by decide +kernel
theorem dX4_boundOf_42 : decode cX4_boundOf 42 = .ok (.iload 6, 2) := by decide +kernel
theorem dX4_boundOf_44 : decode cX4_boundOf 44 = .ok (.iload_n 3, 1) := by decide +kernel
theorem dX4_boundOf_45 : decode cX4_boundOf 45 = .ok (.invokevirtual 89, 3) := by decide +kernel
theorem dX4_boundOf_48 : decode cX4_boundOf 48 = .ok (.aload_n 0, 1) := by decide +kernel
theorem dX4_boundOf_49 : decode cX4_boundOf 49 = .ok (.aload_n 0, 1) := by decide +kernel
theorem dX4_boundOf_50 : decode cX4_boundOf 50 = .ok (.iload_n 1, 1) := by decide +kernel
theorem dX4_boundOf_51 : decode cX4_boundOf 51 = .ok (.invokevirtual 72, 3) := by decide +kernel
theorem dX4_boundOf_54 : decode cX4_boundOf 54 = .ok (.iload_n 2, 1) := by decide +kernel
theorem dX4_boundOf_55 : decode cX4_boundOf 55 = .ok (.invokevirtual 93, 3) := by decide +kernel
theorem dX4_boundOf_58 : decode cX4_boundOf 58 = .ok (.istore 7, 2) := by decide +kernel
theorem dX4_boundOf_60 : decode cX4_boundOf 60 = .ok (.iload_n 3, 1) := by decide +kernel
theorem dX4_boundOf_61 : decode cX4_boundOf 61 = .ok (.ifCond .eq 36, 3) := by decide +kernel
theorem dX4_boundOf_64 : decode cX4_boundOf 64 = .ok (.iload 7, 2) := by decide +kernel
theorem dX4_boundOf_66 : decode cX4_boundOf 66 = .ok (.ifCond .eq 8, 3) := by decide +kernel
theorem dX4_boundOf_69 : decode cX4_boundOf 69 = .ok (.iload 6, 2) := by decide +kernel
theorem dX4_boundOf_71 : decode cX4_boundOf 71 = .ok (.goto 5, 3) := by decide +kernel
theorem dX4_boundOf_74 : decode cX4_boundOf 74 = .ok (.iload 4, 2) := by decide +kernel
theorem dX4_boundOf_76 : decode cX4_boundOf 76 = .ok (.istore 4, 2) := by decide +kernel
theorem dX4_boundOf_78 : decode cX4_boundOf 78 = .ok (.iload 7, 2) := by decide +kernel
theorem dX4_boundOf_80 : decode cX4_boundOf 80 = .ok (.ifCond .eq 8, 3) := by decide +kernel
theorem dX4_boundOf_83 : decode cX4_boundOf 83 = .ok (.iload 5, 2) := by decide +kernel
theorem dX4_boundOf_85 : decode cX4_boundOf 85 = .ok (.goto 7, 3) := by decide +kernel
theorem dX4_boundOf_88 : decode cX4_boundOf 88 = .ok (.iload 6, 2) := by decide +kernel
theorem dX4_boundOf_90 : decode cX4_boundOf 90 = .ok (.iconst 1, 1) := by decide +kernel
theorem dX4_boundOf_91 : decode cX4_boundOf 91 = .ok (.isub, 1) := by decide +kernel
theorem dX4_boundOf_92 : decode cX4_boundOf 92 = .ok (.istore 5, 2) := by decide +kernel
theorem dX4_boundOf_94 : decode cX4_boundOf 94 = .ok (.goto 33, 3) := by decide +kernel
theorem dX4_boundOf_97 : decode cX4_boundOf 97 = .ok (.iload 7, 2) := by decide +kernel
theorem dX4_boundOf_99 : decode cX4_boundOf 99 = .ok (.ifCond .eq 8, 3) := by decide +kernel
theorem dX4_boundOf_102 : decode cX4_boundOf 102 = .ok (.iload 6, 2) := by decide +kernel
theorem dX4_boundOf_104 : decode cX4_boundOf 104 = .ok (.goto 5, 3) := by decide +kernel
theorem dX4_boundOf_107 : decode cX4_boundOf 107 = .ok (.iload 5, 2) := by decide +kernel
theorem dX4_boundOf_109 : decode cX4_boundOf 109 = .ok (.istore 5, 2) := by decide +kernel
theorem dX4_boundOf_111 : decode cX4_boundOf 111 = .ok (.iload 7, 2) := by decide +kernel
theorem dX4_boundOf_113 : decode cX4_boundOf 113 = .ok (.ifCond .eq 8, 3) := by decide +kernel
theorem dX4_boundOf_116 : decode cX4_boundOf 116 = .ok (.iload 4, 2) := by decide +kernel
theorem dX4_boundOf_118 : decode cX4_boundOf 118 = .ok (.goto 7, 3) := by decide +kernel
theorem dX4_boundOf_121 : decode cX4_boundOf 121 = .ok (.iload 6, 2) := by decide +kernel
theorem dX4_boundOf_123 : decode cX4_boundOf 123 = .ok (.iconst 1, 1) := by decide +kernel
theorem dX4_boundOf_124 : decode cX4_boundOf 124 = .ok (.iadd, 1) := by decide +kernel
theorem dX4_boundOf_125 : decode cX4_boundOf 125 = .ok (.istore 4, 2) := by decide +kernel
theorem dX4_boundOf_127 : decode cX4_boundOf 127 = .ok (.goto (-119), 3) := by decide +kernel
theorem dX4_boundOf_130 : decode cX4_boundOf 130 = .ok (.iload 4, 2) := by decide +kernel
theorem dX4_boundOf_132 : decode cX4_boundOf 132 = .ok (.ireturn, 1) := by decide +kernel
theorem dX4_edition_0 : decode cX4_edition 0 = .ok (.aload_n 0, 1) := by decide +kernel
theorem dX4_edition_1 : decode cX4_edition 1 = .ok (.getfield 23, 3) := by decide +kernel
theorem dX4_edition_4 : decode cX4_edition 4 = .ok (.bipush 48, 2) := by decide +kernel
theorem dX4_edition_6 : decode cX4_edition 6 = .ok (.iload_n 1, 1) := by decide +kernel
theorem dX4_edition_7 : decode cX4_edition 7 = .ok (.imul, 1) := by decide +kernel
theorem dX4_edition_8 : decode cX4_edition 8 = .ok (.iload_n 2, 1) := by decide +kernel
theorem dX4_edition_9 : decode cX4_edition 9 = .ok (.iadd, 1) := by decide +kernel
theorem dX4_edition_10 : decode cX4_edition 10 = .ok (.iaload, 1) := by decide +kernel
theorem dX4_edition_11 : decode cX4_edition 11 = .ok (.iconst 2, 1) := by decide +kernel
theorem dX4_edition_12 : decode cX4_edition 12 = .ok (.idiv, 1) := by decide +kernel
theorem dX4_edition_13 : decode cX4_edition 13 = .ok (.ireturn, 1) := by decide +kernel
theorem dX4_isPass_0 : decode cX4_isPass 0 = .ok (.aload_n 0, 1) := by decide +kernel
theorem dX4_isPass_1 : decode cX4_isPass 1 = .ok (.getfield 23, 3) := by decide +kernel
theorem dX4_isPass_4 : decode cX4_isPass 4 = .ok (.bipush 48, 2) := by decide +kernel
theorem dX4_isPass_6 : decode cX4_isPass 6 = .ok (.iload_n 1, 1) := by decide +kernel
theorem dX4_isPass_7 : decode cX4_isPass 7 = .ok (.imul, 1) := by decide +kernel
theorem dX4_isPass_8 : decode cX4_isPass 8 = .ok (.iload_n 2, 1) := by decide +kernel
theorem dX4_isPass_9 : decode cX4_isPass 9 = .ok (.iadd, 1) := by decide +kernel
theorem dX4_isPass_10 : decode cX4_isPass 10 = .ok (.iaload, 1) := by decide +kernel
theorem dX4_isPass_11 : decode cX4_isPass 11 = .ok (.iconst 2, 1) := by decide +kernel
theorem dX4_isPass_12 : decode cX4_isPass 12 = .ok (.irem, 1) := by decide +kernel
theorem dX4_isPass_13 : decode cX4_isPass 13 = .ok (.iconst 1, 1) := by decide +kernel
theorem dX4_isPass_14 : decode cX4_isPass 14 = .ok (.if_icmp .ne 7, 3) := by decide +kernel
theorem dX4_isPass_17 : decode cX4_isPass 17 = .ok (.iconst 1, 1) := by decide +kernel
theorem dX4_isPass_18 : decode cX4_isPass 18 = .ok (.goto 4, 3) := by decide +kernel
theorem dX4_isPass_21 : decode cX4_isPass 21 = .ok (.iconst 0, 1) := by decide +kernel
theorem dX4_isPass_22 : decode cX4_isPass 22 = .ok (.ireturn, 1) := by decide +kernel
theorem dX4_isBadFor_0 : decode cX4_isBadFor 0 = .ok (.iconst 0, 1) := by decide +kernel
theorem dX4_isBadFor_1 : decode cX4_isBadFor 1 = .ok (.istore_n 3, 1) := by decide +kernel
theorem dX4_isBadFor_2 : decode cX4_isBadFor 2 = .ok (.iconst 1, 1) := by decide +kernel
theorem dX4_isBadFor_3 : decode cX4_isBadFor 3 = .ok (.istore 4, 2) := by decide +kernel
theorem dX4_isBadFor_5 : decode cX4_isBadFor 5 = .ok (.iconst 0, 1) := by decide +kernel
theorem dX4_isBadFor_6 : decode cX4_isBadFor 6 = .ok (.istore 5, 2) := by decide +kernel
theorem dX4_isBadFor_8 : decode cX4_isBadFor 8 = .ok (.iload 5, 2) := by decide +kernel
theorem dX4_isBadFor_10 : decode cX4_isBadFor 10 = .ok (.aload_n 0, 1) := by decide +kernel
theorem dX4_isBadFor_11 : decode cX4_isBadFor 11 = .ok (.getfield 19, 3) := by decide +kernel
theorem dX4_isBadFor_14 : decode cX4_isBadFor 14 = .ok (.iload_n 1, 1) := by decide +kernel
theorem dX4_isBadFor_15 : decode cX4_isBadFor 15 = .ok (.iaload, 1) := by decide +kernel
theorem dX4_isBadFor_16 : decode cX4_isBadFor 16 = .ok (.if_icmp .ge 63, 3) := by decide +kernel
theorem dX4_isBadFor_19 : decode cX4_isBadFor 19 = .ok (.iload_n 3, 1) := by decide +kernel
theorem dX4_isBadFor_20 : decode cX4_isBadFor 20 = .ok (.ifCond .ne 14, 3) := by decide +kernel
theorem dX4_isBadFor_23 : decode cX4_isBadFor 23 = .ok (.aload_n 0, 1) := by decide +kernel
theorem dX4_isBadFor_24 : decode cX4_isBadFor 24 = .ok (.iload_n 1, 1) := by decide +kernel
theorem dX4_isBadFor_25 : decode cX4_isBadFor 25 = .ok (.iload 5, 2) := by decide +kernel
theorem dX4_isBadFor_27 : decode cX4_isBadFor 27 = .ok (.invokevirtual 97, 3) := by decide +kernel
theorem dX4_isBadFor_30 : decode cX4_isBadFor 30 = .ok (.iload_n 2, 1) := by decide +kernel
theorem dX4_isBadFor_31 : decode cX4_isBadFor 31 = .ok (.if_icmp .ne 7, 3) := by decide +kernel
theorem dX4_isBadFor_34 : decode cX4_isBadFor 34 = .ok (.iconst 1, 1) := by decide +kernel
theorem dX4_isBadFor_35 : decode cX4_isBadFor 35 = .ok (.goto 4, 3) := by decide +kernel
theorem dX4_isBadFor_38 : decode cX4_isBadFor 38 = .ok (.iconst 0, 1) := by decide +kernel
theorem dX4_isBadFor_39 : decode cX4_isBadFor 39 = .ok (.istore_n 3, 1) := by decide +kernel
theorem dX4_isBadFor_40 : decode cX4_isBadFor 40 = .ok (.iload 4, 2) := by decide +kernel
theorem dX4_isBadFor_42 : decode cX4_isBadFor 42 = .ok (.ifCond .eq 28, 3) := by decide +kernel
theorem dX4_isBadFor_45 : decode cX4_isBadFor 45 = .ok (.aload_n 0, 1) := by decide +kernel
theorem dX4_isBadFor_46 : decode cX4_isBadFor 46 = .ok (.iload_n 1, 1) := by decide +kernel
theorem dX4_isBadFor_47 : decode cX4_isBadFor 47 = .ok (.iload 5, 2) := by decide +kernel
theorem dX4_isBadFor_49 : decode cX4_isBadFor 49 = .ok (.invokevirtual 97, 3) := by decide +kernel
theorem dX4_isBadFor_52 : decode cX4_isBadFor 52 = .ok (.iload_n 2, 1) := by decide +kernel
theorem dX4_isBadFor_53 : decode cX4_isBadFor 53 = .ok (.if_icmp .ne 13, 3) := by decide +kernel
theorem dX4_isBadFor_56 : decode cX4_isBadFor 56 = .ok (.aload_n 0, 1) := by decide +kernel
theorem dX4_isBadFor_57 : decode cX4_isBadFor 57 = .ok (.iload_n 1, 1) := by decide +kernel
theorem dX4_isBadFor_58 : decode cX4_isBadFor 58 = .ok (.iload 5, 2) := by decide +kernel
theorem dX4_isBadFor_60 : decode cX4_isBadFor 60 = .ok (.invokevirtual 101, 3) := by decide +kernel
theorem dX4_isBadFor_63 : decode cX4_isBadFor 63 = .ok (.ifCond .ne 7, 3) := by decide +kernel
theorem dX4_isBadFor_66 : decode cX4_isBadFor 66 = .ok (.iconst 1, 1) := by decide +kernel
theorem dX4_isBadFor_67 : decode cX4_isBadFor 67 = .ok (.goto 4, 3) := by decide +kernel
theorem dX4_isBadFor_70 : decode cX4_isBadFor 70 = .ok (.iconst 0, 1) := by decide +kernel
theorem dX4_isBadFor_71 : decode cX4_isBadFor 71 = .ok (.istore 4, 2) := by decide +kernel
theorem dX4_isBadFor_73 : decode cX4_isBadFor 73 = .ok (.iinc 5 1, 3) := by decide +kernel
theorem dX4_isBadFor_76 : decode cX4_isBadFor 76 = .ok (.goto (-68), 3) := by decide +kernel
theorem dX4_isBadFor_79 : decode cX4_isBadFor 79 = .ok (.iload_n 3, 1) := by decide +kernel
theorem dX4_isBadFor_80 : decode cX4_isBadFor 80 = .ok (.ifCond .eq 12, 3) := by decide +kernel
theorem dX4_isBadFor_83 : decode cX4_isBadFor 83 = .ok (.iload 4, 2) := by decide +kernel
theorem dX4_isBadFor_85 : decode cX4_isBadFor 85 = .ok (.ifCond .eq 7, 3) := by decide +kernel
theorem dX4_isBadFor_88 : decode cX4_isBadFor 88 = .ok (.iconst 1, 1) := by decide +kernel
theorem dX4_isBadFor_89 : decode cX4_isBadFor 89 = .ok (.goto 4, 3) := by decide +kernel
theorem dX4_isBadFor_92 : decode cX4_isBadFor 92 = .ok (.iconst 0, 1) := by decide +kernel
theorem dX4_isBadFor_93 : decode cX4_isBadFor 93 = .ok (.ireturn, 1) := by decide +kernel
theorem dX4_throwsOf_0 : decode cX4_throwsOf 0 = .ok (.iconst 0, 1) := by decide +kernel
theorem dX4_throwsOf_1 : decode cX4_throwsOf 1 = .ok (.istore_n 2, 1) := by decide +kernel
theorem dX4_throwsOf_2 : decode cX4_throwsOf 2 = .ok (.iconst 0, 1) := by decide +kernel
theorem dX4_throwsOf_3 : decode cX4_throwsOf 3 = .ok (.istore_n 3, 1) := by decide +kernel
theorem dX4_throwsOf_4 : decode cX4_throwsOf 4 = .ok (.iload_n 3, 1) := by decide +kernel
theorem dX4_throwsOf_5 : decode cX4_throwsOf 5 = .ok (.aload_n 0, 1) := by decide +kernel
theorem dX4_throwsOf_6 : decode cX4_throwsOf 6 = .ok (.getfield 19, 3) := by decide +kernel
theorem dX4_throwsOf_9 : decode cX4_throwsOf 9 = .ok (.iload_n 1, 1) := by decide +kernel
theorem dX4_throwsOf_10 : decode cX4_throwsOf 10 = .ok (.iaload, 1) := by decide +kernel
theorem dX4_throwsOf_11 : decode cX4_throwsOf 11 = .ok (.if_icmp .ge 31, 3) := by decide +kernel
theorem dX4_throwsOf_14 : decode cX4_throwsOf 14 = .ok (.iload_n 2, 1) := by decide +kernel
theorem dX4_throwsOf_15 : decode cX4_throwsOf 15 = .ok (.aload_n 0, 1) := by decide +kernel
theorem dX4_throwsOf_16 : decode cX4_throwsOf 16 = .ok (.iload_n 1, 1) := by decide +kernel
theorem dX4_throwsOf_17 : decode cX4_throwsOf 17 = .ok (.aload_n 0, 1) := by decide +kernel
theorem dX4_throwsOf_18 : decode cX4_throwsOf 18 = .ok (.iload_n 1, 1) := by decide +kernel
theorem dX4_throwsOf_19 : decode cX4_throwsOf 19 = .ok (.iload_n 3, 1) := by decide +kernel
theorem dX4_throwsOf_20 : decode cX4_throwsOf 20 = .ok (.invokevirtual 97, 3) := by decide +kernel
theorem dX4_throwsOf_23 : decode cX4_throwsOf 23 = .ok (.invokevirtual 104, 3) := by decide +kernel
theorem dX4_throwsOf_26 : decode cX4_throwsOf 26 = .ok (.ifCond .eq 7, 3) := by decide +kernel
theorem dX4_throwsOf_29 : decode cX4_throwsOf 29 = .ok (.iconst 0, 1) := by decide +kernel
theorem dX4_throwsOf_30 : decode cX4_throwsOf 30 = .ok (.goto 4, 3) := by decide +kernel
theorem dX4_throwsOf_33 : decode cX4_throwsOf 33 = .ok (.iconst 1, 1) := by decide +kernel
theorem dX4_throwsOf_34 : decode cX4_throwsOf 34 = .ok (.iadd, 1) := by decide +kernel
theorem dX4_throwsOf_35 : decode cX4_throwsOf 35 = .ok (.istore_n 2, 1) := by decide +kernel
theorem dX4_throwsOf_36 : decode cX4_throwsOf 36 = .ok (.iinc 3 1, 3) := by decide +kernel
theorem dX4_throwsOf_39 : decode cX4_throwsOf 39 = .ok (.goto (-35), 3) := by decide +kernel
theorem dX4_throwsOf_42 : decode cX4_throwsOf 42 = .ok (.iload_n 2, 1) := by decide +kernel
theorem dX4_throwsOf_43 : decode cX4_throwsOf 43 = .ok (.ireturn, 1) := by decide +kernel
theorem dX4_hitsOf_0 : decode cX4_hitsOf 0 = .ok (.iconst 0, 1) := by decide +kernel
theorem dX4_hitsOf_1 : decode cX4_hitsOf 1 = .ok (.istore_n 2, 1) := by decide +kernel
theorem dX4_hitsOf_2 : decode cX4_hitsOf 2 = .ok (.iconst 0, 1) := by decide +kernel
theorem dX4_hitsOf_3 : decode cX4_hitsOf 3 = .ok (.istore_n 3, 1) := by decide +kernel
theorem dX4_hitsOf_4 : decode cX4_hitsOf 4 = .ok (.iload_n 3, 1) := by decide +kernel
theorem dX4_hitsOf_5 : decode cX4_hitsOf 5 = .ok (.aload_n 0, 1) := by decide +kernel
theorem dX4_hitsOf_6 : decode cX4_hitsOf 6 = .ok (.getfield 19, 3) := by decide +kernel
theorem dX4_hitsOf_9 : decode cX4_hitsOf 9 = .ok (.iload_n 1, 1) := by decide +kernel
theorem dX4_hitsOf_10 : decode cX4_hitsOf 10 = .ok (.iaload, 1) := by decide +kernel
theorem dX4_hitsOf_11 : decode cX4_hitsOf 11 = .ok (.if_icmp .ge 40, 3) := by decide +kernel
theorem dX4_hitsOf_14 : decode cX4_hitsOf 14 = .ok (.iload_n 2, 1) := by decide +kernel
theorem dX4_hitsOf_15 : decode cX4_hitsOf 15 = .ok (.aload_n 0, 1) := by decide +kernel
theorem dX4_hitsOf_16 : decode cX4_hitsOf 16 = .ok (.iload_n 1, 1) := by decide +kernel
theorem dX4_hitsOf_17 : decode cX4_hitsOf 17 = .ok (.aload_n 0, 1) := by decide +kernel
theorem dX4_hitsOf_18 : decode cX4_hitsOf 18 = .ok (.iload_n 1, 1) := by decide +kernel
theorem dX4_hitsOf_19 : decode cX4_hitsOf 19 = .ok (.iload_n 3, 1) := by decide +kernel
theorem dX4_hitsOf_20 : decode cX4_hitsOf 20 = .ok (.invokevirtual 97, 3) := by decide +kernel
theorem dX4_hitsOf_23 : decode cX4_hitsOf 23 = .ok (.invokevirtual 104, 3) := by decide +kernel
theorem dX4_hitsOf_26 : decode cX4_hitsOf 26 = .ok (.ifCond .ne 12, 3) := by decide +kernel
theorem dX4_hitsOf_29 : decode cX4_hitsOf 29 = .ok (.aload_n 0, 1) := by decide +kernel
theorem dX4_hitsOf_30 : decode cX4_hitsOf 30 = .ok (.iload_n 1, 1) := by decide +kernel
theorem dX4_hitsOf_31 : decode cX4_hitsOf 31 = .ok (.iload_n 3, 1) := by decide +kernel
theorem dX4_hitsOf_32 : decode cX4_hitsOf 32 = .ok (.invokevirtual 101, 3) := by decide +kernel
theorem dX4_hitsOf_35 : decode cX4_hitsOf 35 = .ok (.ifCond .eq 7, 3) := by decide +kernel
theorem dX4_hitsOf_38 : decode cX4_hitsOf 38 = .ok (.iconst 0, 1) := by decide +kernel
theorem dX4_hitsOf_39 : decode cX4_hitsOf 39 = .ok (.goto 4, 3) := by decide +kernel
theorem dX4_hitsOf_42 : decode cX4_hitsOf 42 = .ok (.iconst 1, 1) := by decide +kernel
theorem dX4_hitsOf_43 : decode cX4_hitsOf 43 = .ok (.iadd, 1) := by decide +kernel
theorem dX4_hitsOf_44 : decode cX4_hitsOf 44 = .ok (.istore_n 2, 1) := by decide +kernel
theorem dX4_hitsOf_45 : decode cX4_hitsOf 45 = .ok (.iinc 3 1, 3) := by decide +kernel
theorem dX4_hitsOf_48 : decode cX4_hitsOf 48 = .ok (.goto (-44), 3) := by decide +kernel
theorem dX4_hitsOf_51 : decode cX4_hitsOf 51 = .ok (.iload_n 2, 1) := by decide +kernel
theorem dX4_hitsOf_52 : decode cX4_hitsOf 52 = .ok (.ireturn, 1) := by decide +kernel
theorem dX4_doubtful_0 : decode cX4_doubtful 0 = .ok (.iconst 0, 1) := by decide +kernel
theorem dX4_doubtful_1 : decode cX4_doubtful 1 = .ok (.istore_n 2, 1) := by decide +kernel
theorem dX4_doubtful_2 : decode cX4_doubtful 2 = .ok (.iconst 0, 1) := by decide +kernel
theorem dX4_doubtful_3 : decode cX4_doubtful 3 = .ok (.istore_n 3, 1) := by decide +kernel
theorem dX4_doubtful_4 : decode cX4_doubtful 4 = .ok (.iload_n 3, 1) := by decide +kernel
theorem dX4_doubtful_5 : decode cX4_doubtful 5 = .ok (.aload_n 0, 1) := by decide +kernel
theorem dX4_doubtful_6 : decode cX4_doubtful 6 = .ok (.getfield 19, 3) := by decide +kernel
theorem dX4_doubtful_9 : decode cX4_doubtful 9 = .ok (.iload_n 1, 1) := by decide +kernel
theorem dX4_doubtful_10 : decode cX4_doubtful 10 = .ok (.iaload, 1) := by decide +kernel
theorem dX4_doubtful_11 : decode cX4_doubtful 11 = .ok (.if_icmp .ge 89, 3) := by decide +kernel
theorem dX4_doubtful_14 : decode cX4_doubtful 14 = .ok (.iconst 0, 1) := by decide +kernel
theorem dX4_doubtful_15 : decode cX4_doubtful 15 = .ok (.istore 4, 2) := by decide +kernel
theorem dX4_doubtful_17 : decode cX4_doubtful 17 = .ok (.iconst 0, 1) := by decide +kernel
theorem dX4_doubtful_18 : decode cX4_doubtful 18 = .ok (.istore 5, 2) := by decide +kernel
theorem dX4_doubtful_20 : decode cX4_doubtful 20 = .ok (.iload 5, 2) := by decide +kernel
theorem dX4_doubtful_22 : decode cX4_doubtful 22 = .ok (.aload_n 0, 1) := by decide +kernel
theorem dX4_doubtful_23 : decode cX4_doubtful 23 = .ok (.getfield 19, 3) := by decide +kernel
theorem dX4_doubtful_26 : decode cX4_doubtful 26 = .ok (.iload_n 1, 1) := by decide +kernel
theorem dX4_doubtful_27 : decode cX4_doubtful 27 = .ok (.iaload, 1) := by decide +kernel
theorem dX4_doubtful_28 : decode cX4_doubtful 28 = .ok (.if_icmp .ge 53, 3) := by decide +kernel
theorem dX4_doubtful_31 : decode cX4_doubtful 31 = .ok (.iload 4, 2) := by decide +kernel
theorem dX4_doubtful_33 : decode cX4_doubtful 33 = .ok (.ifCond .ne 35, 3) := by decide +kernel
theorem dX4_doubtful_36 : decode cX4_doubtful 36 = .ok (.aload_n 0, 1) := by decide +kernel
theorem dX4_doubtful_37 : decode cX4_doubtful 37 = .ok (.iload_n 1, 1) := by decide +kernel
theorem dX4_doubtful_38 : decode cX4_doubtful 38 = .ok (.iload 5, 2) := by decide +kernel
theorem dX4_doubtful_40 : decode cX4_doubtful 40 = .ok (.invokevirtual 97, 3) := by decide +kernel
theorem dX4_doubtful_43 : decode cX4_doubtful 43 = .ok (.aload_n 0, 1) := by decide +kernel
theorem dX4_doubtful_44 : decode cX4_doubtful 44 = .ok (.iload_n 1, 1) := by decide +kernel
theorem dX4_doubtful_45 : decode cX4_doubtful 45 = .ok (.iload_n 3, 1) := by decide +kernel
theorem dX4_doubtful_46 : decode cX4_doubtful 46 = .ok (.invokevirtual 97, 3) := by decide +kernel
theorem dX4_doubtful_49 : decode cX4_doubtful 49 = .ok (.if_icmp .ne 23, 3) := by decide +kernel
theorem dX4_doubtful_52 : decode cX4_doubtful 52 = .ok (.aload_n 0, 1) := by decide +kernel
theorem dX4_doubtful_53 : decode cX4_doubtful 53 = .ok (.iload_n 1, 1) := by decide +kernel
theorem dX4_doubtful_54 : decode cX4_doubtful 54 = .ok (.iload 5, 2) := by decide +kernel
theorem dX4_doubtful_56 : decode cX4_doubtful 56 = .ok (.invokevirtual 101, 3) := by decide +kernel
theorem dX4_doubtful_59 : decode cX4_doubtful 59 = .ok (.aload_n 0, 1) := by decide +kernel
theorem dX4_doubtful_60 : decode cX4_doubtful 60 = .ok (.iload_n 1, 1) := by decide +kernel
theorem dX4_doubtful_61 : decode cX4_doubtful 61 = .ok (.iload_n 3, 1) := by decide +kernel
theorem dX4_doubtful_62 : decode cX4_doubtful 62 = .ok (.invokevirtual 101, 3) := by decide +kernel
theorem dX4_doubtful_65 : decode cX4_doubtful 65 = .ok (.if_icmp .eq 7, 3) := by decide +kernel
theorem dX4_doubtful_68 : decode cX4_doubtful 68 = .ok (.iconst 1, 1) := by decide +kernel
theorem dX4_doubtful_69 : decode cX4_doubtful 69 = .ok (.goto 4, 3) := by decide +kernel
theorem dX4_doubtful_72 : decode cX4_doubtful 72 = .ok (.iconst 0, 1) := by decide +kernel
theorem dX4_doubtful_73 : decode cX4_doubtful 73 = .ok (.istore 4, 2) := by decide +kernel
theorem dX4_doubtful_75 : decode cX4_doubtful 75 = .ok (.iinc 5 1, 3) := by decide +kernel
theorem dX4_doubtful_78 : decode cX4_doubtful 78 = .ok (.goto (-58), 3) := by decide +kernel
theorem dX4_doubtful_81 : decode cX4_doubtful 81 = .ok (.iload_n 2, 1) := by decide +kernel
theorem dX4_doubtful_82 : decode cX4_doubtful 82 = .ok (.iload 4, 2) := by decide +kernel
theorem dX4_doubtful_84 : decode cX4_doubtful 84 = .ok (.ifCond .eq 7, 3) := by decide +kernel
theorem dX4_doubtful_87 : decode cX4_doubtful 87 = .ok (.iconst 1, 1) := by decide +kernel
theorem dX4_doubtful_88 : decode cX4_doubtful 88 = .ok (.goto 4, 3) := by decide +kernel
theorem dX4_doubtful_91 : decode cX4_doubtful 91 = .ok (.iconst 0, 1) := by decide +kernel
theorem dX4_doubtful_92 : decode cX4_doubtful 92 = .ok (.iadd, 1) := by decide +kernel
theorem dX4_doubtful_93 : decode cX4_doubtful 93 = .ok (.istore_n 2, 1) := by decide +kernel
theorem dX4_doubtful_94 : decode cX4_doubtful 94 = .ok (.iinc 3 1, 3) := by decide +kernel
theorem dX4_doubtful_97 : decode cX4_doubtful 97 = .ok (.goto (-93), 3) := by decide +kernel
theorem dX4_doubtful_100 : decode cX4_doubtful 100 = .ok (.iload_n 2, 1) := by decide +kernel
theorem dX4_doubtful_101 : decode cX4_doubtful 101 = .ok (.ireturn, 1) := by decide +kernel
theorem dX4_runs_0 : decode cX4_runs 0 = .ok (.aload_n 0, 1) := by decide +kernel
theorem dX4_runs_1 : decode cX4_runs 1 = .ok (.getfield 19, 3) := by decide +kernel
theorem dX4_runs_4 : decode cX4_runs 4 = .ok (.iload_n 1, 1) := by decide +kernel
theorem dX4_runs_5 : decode cX4_runs 5 = .ok (.iaload, 1) := by decide +kernel
theorem dX4_runs_6 : decode cX4_runs 6 = .ok (.bipush 48, 2) := by decide +kernel
theorem dX4_runs_8 : decode cX4_runs 8 = .ok (.if_icmp .ne 55, 3) := by decide +kernel
theorem dX4_runs_11 : decode cX4_runs 11 = .ok (.iconst 1, 1) := by decide +kernel
theorem dX4_runs_12 : decode cX4_runs 12 = .ok (.istore 4, 2) := by decide +kernel
theorem dX4_runs_14 : decode cX4_runs 14 = .ok (.iload 4, 2) := by decide +kernel
theorem dX4_runs_16 : decode cX4_runs 16 = .ok (.bipush 48, 2) := by decide +kernel
theorem dX4_runs_18 : decode cX4_runs 18 = .ok (.if_icmp .ge 35, 3) := by decide +kernel
theorem dX4_runs_21 : decode cX4_runs 21 = .ok (.aload_n 0, 1) := by decide +kernel
theorem dX4_runs_22 : decode cX4_runs 22 = .ok (.getfield 23, 3) := by decide +kernel
theorem dX4_runs_25 : decode cX4_runs 25 = .ok (.bipush 48, 2) := by decide +kernel
theorem dX4_runs_27 : decode cX4_runs 27 = .ok (.iload_n 1, 1) := by decide +kernel
theorem dX4_runs_28 : decode cX4_runs 28 = .ok (.imul, 1) := by decide +kernel
theorem dX4_runs_29 : decode cX4_runs 29 = .ok (.iload 4, 2) := by decide +kernel
theorem dX4_runs_31 : decode cX4_runs 31 = .ok (.iadd, 1) := by decide +kernel
theorem dX4_runs_32 : decode cX4_runs 32 = .ok (.iconst 1, 1) := by decide +kernel
theorem dX4_runs_33 : decode cX4_runs 33 = .ok (.isub, 1) := by decide +kernel
theorem dX4_runs_34 : decode cX4_runs 34 = .ok (.aload_n 0, 1) := by decide +kernel
theorem dX4_runs_35 : decode cX4_runs 35 = .ok (.getfield 23, 3) := by decide +kernel
theorem dX4_runs_38 : decode cX4_runs 38 = .ok (.bipush 48, 2) := by decide +kernel
theorem dX4_runs_40 : decode cX4_runs 40 = .ok (.iload_n 1, 1) := by decide +kernel
theorem dX4_runs_41 : decode cX4_runs 41 = .ok (.imul, 1) := by decide +kernel
theorem dX4_runs_42 : decode cX4_runs 42 = .ok (.iload 4, 2) := by decide +kernel
theorem dX4_runs_44 : decode cX4_runs 44 = .ok (.iadd, 1) := by decide +kernel
theorem dX4_runs_45 : decode cX4_runs 45 = .ok (.iaload, 1) := by decide +kernel
theorem dX4_runs_46 : decode cX4_runs 46 = .ok (.iastore, 1) := by decide +kernel
theorem dX4_runs_47 : decode cX4_runs 47 = .ok (.iinc 4 1, 3) := by decide +kernel
theorem dX4_runs_50 : decode cX4_runs 50 = .ok (.goto (-36), 3) := by decide +kernel
theorem dX4_runs_53 : decode cX4_runs 53 = .ok (.aload_n 0, 1) := by decide +kernel
theorem dX4_runs_54 : decode cX4_runs 54 = .ok (.getfield 19, 3) := by decide +kernel
theorem dX4_runs_57 : decode cX4_runs 57 = .ok (.iload_n 1, 1) := by decide +kernel
theorem dX4_runs_58 : decode cX4_runs 58 = .ok (.dup2, 1) := by decide +kernel
theorem dX4_runs_59 : decode cX4_runs 59 = .ok (.iaload, 1) := by decide +kernel
theorem dX4_runs_60 : decode cX4_runs 60 = .ok (.iconst 1, 1) := by decide +kernel
theorem dX4_runs_61 : decode cX4_runs 61 = .ok (.isub, 1) := by decide +kernel
theorem dX4_runs_62 : decode cX4_runs 62 = .ok (.iastore, 1) := by decide +kernel
theorem dX4_runs_63 : decode cX4_runs 63 = .ok (.aload_n 0, 1) := by decide +kernel
theorem dX4_runs_64 : decode cX4_runs 64 = .ok (.getfield 23, 3) := by decide +kernel
theorem dX4_runs_67 : decode cX4_runs 67 = .ok (.bipush 48, 2) := by decide +kernel
theorem dX4_runs_69 : decode cX4_runs 69 = .ok (.iload_n 1, 1) := by decide +kernel
theorem dX4_runs_70 : decode cX4_runs 70 = .ok (.imul, 1) := by decide +kernel
theorem dX4_runs_71 : decode cX4_runs 71 = .ok (.aload_n 0, 1) := by decide +kernel
theorem dX4_runs_72 : decode cX4_runs 72 = .ok (.getfield 19, 3) := by decide +kernel
theorem dX4_runs_75 : decode cX4_runs 75 = .ok (.iload_n 1, 1) := by decide +kernel
theorem dX4_runs_76 : decode cX4_runs 76 = .ok (.iaload, 1) := by decide +kernel
theorem dX4_runs_77 : decode cX4_runs 77 = .ok (.iadd, 1) := by decide +kernel
theorem dX4_runs_78 : decode cX4_runs 78 = .ok (.iconst 2, 1) := by decide +kernel
theorem dX4_runs_79 : decode cX4_runs 79 = .ok (.iload_n 2, 1) := by decide +kernel
theorem dX4_runs_80 : decode cX4_runs 80 = .ok (.imul, 1) := by decide +kernel
theorem dX4_runs_81 : decode cX4_runs 81 = .ok (.iload_n 3, 1) := by decide +kernel
theorem dX4_runs_82 : decode cX4_runs 82 = .ok (.ifCond .eq 7, 3) := by decide +kernel
theorem dX4_runs_85 : decode cX4_runs 85 = .ok (.iconst 1, 1) := by decide +kernel
theorem dX4_runs_86 : decode cX4_runs 86 = .ok (.goto 4, 3) := by decide +kernel
theorem dX4_runs_89 : decode cX4_runs 89 = .ok (.iconst 0, 1) := by decide +kernel
theorem dX4_runs_90 : decode cX4_runs 90 = .ok (.iadd, 1) := by decide +kernel
theorem dX4_runs_91 : decode cX4_runs 91 = .ok (.iastore, 1) := by decide +kernel
theorem dX4_runs_92 : decode cX4_runs 92 = .ok (.aload_n 0, 1) := by decide +kernel
theorem dX4_runs_93 : decode cX4_runs 93 = .ok (.getfield 19, 3) := by decide +kernel
theorem dX4_runs_96 : decode cX4_runs 96 = .ok (.iload_n 1, 1) := by decide +kernel
theorem dX4_runs_97 : decode cX4_runs 97 = .ok (.dup2, 1) := by decide +kernel
theorem dX4_runs_98 : decode cX4_runs 98 = .ok (.iaload, 1) := by decide +kernel
theorem dX4_runs_99 : decode cX4_runs 99 = .ok (.iconst 1, 1) := by decide +kernel
theorem dX4_runs_100 : decode cX4_runs 100 = .ok (.iadd, 1) := by decide +kernel
theorem dX4_runs_101 : decode cX4_runs 101 = .ok (.iastore, 1) := by decide +kernel
theorem dX4_runs_102 : decode cX4_runs 102 = .ok (.aload_n 0, 1) := by decide +kernel
theorem dX4_runs_103 : decode cX4_runs 103 = .ok (.getfield 26, 3) := by decide +kernel
theorem dX4_runs_106 : decode cX4_runs 106 = .ok (.iload_n 1, 1) := by decide +kernel
theorem dX4_runs_107 : decode cX4_runs 107 = .ok (.baload, 1) := by decide +kernel
theorem dX4_runs_108 : decode cX4_runs 108 = .ok (.ifCond .eq 34, 3) := by decide +kernel
theorem dX4_runs_111 : decode cX4_runs 111 = .ok (.aload_n 0, 1) := by decide +kernel
theorem dX4_runs_112 : decode cX4_runs 112 = .ok (.getfield 26, 3) := by decide +kernel
theorem dX4_runs_115 : decode cX4_runs 115 = .ok (.iload_n 1, 1) := by decide +kernel
theorem dX4_runs_116 : decode cX4_runs 116 = .ok (.aload_n 0, 1) := by decide +kernel
theorem dX4_runs_117 : decode cX4_runs 117 = .ok (.iload_n 1, 1) := by decide +kernel
theorem dX4_runs_118 : decode cX4_runs 118 = .ok (.aload_n 0, 1) := by decide +kernel
theorem dX4_runs_119 : decode cX4_runs 119 = .ok (.getfield 7, 3) := by decide +kernel
theorem dX4_runs_122 : decode cX4_runs 122 = .ok (.iconst 1, 1) := by decide +kernel
theorem dX4_runs_123 : decode cX4_runs 123 = .ok (.invokevirtual 107, 3) := by decide +kernel
theorem dX4_runs_126 : decode cX4_runs 126 = .ok (.aload_n 0, 1) := by decide +kernel
theorem dX4_runs_127 : decode cX4_runs 127 = .ok (.getfield 16, 3) := by decide +kernel
theorem dX4_runs_130 : decode cX4_runs 130 = .ok (.if_icmp .lt 7, 3) := by decide +kernel
theorem dX4_runs_133 : decode cX4_runs 133 = .ok (.iconst 1, 1) := by decide +kernel
theorem dX4_runs_134 : decode cX4_runs 134 = .ok (.goto 4, 3) := by decide +kernel
theorem dX4_runs_137 : decode cX4_runs 137 = .ok (.iconst 0, 1) := by decide +kernel
theorem dX4_runs_138 : decode cX4_runs 138 = .ok (.bastore, 1) := by decide +kernel
theorem dX4_runs_139 : decode cX4_runs 139 = .ok (.goto 37, 3) := by decide +kernel
theorem dX4_runs_142 : decode cX4_runs 142 = .ok (.aload_n 0, 1) := by decide +kernel
theorem dX4_runs_143 : decode cX4_runs 143 = .ok (.iload_n 1, 1) := by decide +kernel
theorem dX4_runs_144 : decode cX4_runs 144 = .ok (.aload_n 0, 1) := by decide +kernel
theorem dX4_runs_145 : decode cX4_runs 145 = .ok (.getfield 7, 3) := by decide +kernel
theorem dX4_runs_148 : decode cX4_runs 148 = .ok (.iconst 0, 1) := by decide +kernel
theorem dX4_runs_149 : decode cX4_runs 149 = .ok (.invokevirtual 107, 3) := by decide +kernel
theorem dX4_runs_152 : decode cX4_runs 152 = .ok (.aload_n 0, 1) := by decide +kernel
theorem dX4_runs_153 : decode cX4_runs 153 = .ok (.getfield 13, 3) := by decide +kernel
theorem dX4_runs_156 : decode cX4_runs 156 = .ok (.if_icmp .le 20, 3) := by decide +kernel
theorem dX4_runs_159 : decode cX4_runs 159 = .ok (.aload_n 0, 1) := by decide +kernel
theorem dX4_runs_160 : decode cX4_runs 160 = .ok (.getfield 26, 3) := by decide +kernel
theorem dX4_runs_163 : decode cX4_runs 163 = .ok (.iload_n 1, 1) := by decide +kernel
theorem dX4_runs_164 : decode cX4_runs 164 = .ok (.iconst 1, 1) := by decide +kernel
theorem dX4_runs_165 : decode cX4_runs 165 = .ok (.bastore, 1) := by decide +kernel
theorem dX4_runs_166 : decode cX4_runs 166 = .ok (.aload_n 0, 1) := by decide +kernel
theorem dX4_runs_167 : decode cX4_runs 167 = .ok (.getfield 30, 3) := by decide +kernel
theorem dX4_runs_170 : decode cX4_runs 170 = .ok (.iload_n 1, 1) := by decide +kernel
theorem dX4_runs_171 : decode cX4_runs 171 = .ok (.dup2, 1) := by decide +kernel
theorem dX4_runs_172 : decode cX4_runs 172 = .ok (.iaload, 1) := by decide +kernel
theorem dX4_runs_173 : decode cX4_runs 173 = .ok (.iconst 1, 1) := by decide +kernel
theorem dX4_runs_174 : decode cX4_runs 174 = .ok (.iadd, 1) := by decide +kernel
theorem dX4_runs_175 : decode cX4_runs 175 = .ok (.iastore, 1) := by decide +kernel
theorem dX4_runs_176 : decode cX4_runs 176 = .ok (.return_, 1) := by decide +kernel
theorem dX4_test_0 : decode cX4_test 0 = .ok (.aload_n 0, 1) := by decide +kernel
theorem dX4_test_1 : decode cX4_test 1 = .ok (.iconst 0, 1) := by decide +kernel
theorem dX4_test_2 : decode cX4_test 2 = .ok (.putfield 49, 3) := by decide +kernel
theorem dX4_test_5 : decode cX4_test 5 = .ok (.aload_n 0, 1) := by decide +kernel
theorem dX4_test_6 : decode cX4_test 6 = .ok (.getfield 52, 3) := by decide +kernel
theorem dX4_test_9 : decode cX4_test 9 = .ok (.bipush 12, 2) := by decide +kernel
theorem dX4_test_11 : decode cX4_test 11 = .ok (.if_icmp .ne 5, 3) := by decide +kernel
theorem dX4_test_14 : decode cX4_test 14 = .ok (.iconst (-1), 1) := by decide +kernel
theorem dX4_test_15 : decode cX4_test 15 = .ok (.ireturn, 1) := by decide +kernel
theorem dX4_test_16 : decode cX4_test 16 = .ok (.aload_n 0, 1) := by decide +kernel
theorem dX4_test_17 : decode cX4_test 17 = .ok (.getfield 33, 3) := by decide +kernel
theorem dX4_test_20 : decode cX4_test 20 = .ok (.aload_n 0, 1) := by decide +kernel
theorem dX4_test_21 : decode cX4_test 21 = .ok (.getfield 52, 3) := by decide +kernel
theorem dX4_test_24 : decode cX4_test 24 = .ok (.iconst (-1), 1) := by decide +kernel
theorem dX4_test_25 : decode cX4_test 25 = .ok (.iastore, 1) := by decide +kernel
theorem dX4_test_26 : decode cX4_test 26 = .ok (.aload_n 0, 1) := by decide +kernel
theorem dX4_test_27 : decode cX4_test 27 = .ok (.dup, 1) := by decide +kernel
theorem dX4_test_28 : decode cX4_test 28 = .ok (.getfield 52, 3) := by decide +kernel
theorem dX4_test_31 : decode cX4_test 31 = .ok (.iconst 1, 1) := by decide +kernel
theorem dX4_test_32 : decode cX4_test 32 = .ok (.iadd, 1) := by decide +kernel
theorem dX4_test_33 : decode cX4_test 33 = .ok (.putfield 52, 3) := by decide +kernel
theorem dX4_test_36 : decode cX4_test 36 = .ok (.aload_n 0, 1) := by decide +kernel
theorem dX4_test_37 : decode cX4_test 37 = .ok (.getfield 52, 3) := by decide +kernel
theorem dX4_test_40 : decode cX4_test 40 = .ok (.iconst 1, 1) := by decide +kernel
theorem dX4_test_41 : decode cX4_test 41 = .ok (.isub, 1) := by decide +kernel
theorem dX4_test_42 : decode cX4_test 42 = .ok (.ireturn, 1) := by decide +kernel
theorem dX4_rules_0 : decode cX4_rules 0 = .ok (.aload_n 0, 1) := by decide +kernel
theorem dX4_rules_1 : decode cX4_rules 1 = .ok (.iconst 0, 1) := by decide +kernel
theorem dX4_rules_2 : decode cX4_rules 2 = .ok (.putfield 49, 3) := by decide +kernel
theorem dX4_rules_5 : decode cX4_rules 5 = .ok (.iload_n 1, 1) := by decide +kernel
theorem dX4_rules_6 : decode cX4_rules 6 = .ok (.iconst 1, 1) := by decide +kernel
theorem dX4_rules_7 : decode cX4_rules 7 = .ok (.if_icmp .lt 30, 3) := by decide +kernel
theorem dX4_rules_10 : decode cX4_rules 10 = .ok (.iload_n 1, 1) := by decide +kernel
theorem dX4_rules_11 : decode cX4_rules 11 = .ok (.sipush 999, 3) := by decide +kernel
theorem dX4_rules_14 : decode cX4_rules 14 = .ok (.if_icmp .gt 23, 3) := by decide +kernel
theorem dX4_rules_17 : decode cX4_rules 17 = .ok (.iload_n 2, 1) := by decide +kernel
theorem dX4_rules_18 : decode cX4_rules 18 = .ok (.ifCond .lt 19, 3) := by decide +kernel
theorem dX4_rules_21 : decode cX4_rules 21 = .ok (.iload_n 2, 1) := by decide +kernel
theorem dX4_rules_22 : decode cX4_rules 22 = .ok (.sipush 1000, 3) := by decide +kernel
theorem dX4_rules_25 : decode cX4_rules 25 = .ok (.if_icmp .gt 12, 3) := by decide +kernel
theorem dX4_rules_28 : decode cX4_rules 28 = .ok (.iload_n 3, 1) := by decide +kernel
theorem dX4_rules_29 : decode cX4_rules 29 = .ok (.ifCond .lt 8, 3) := by decide +kernel
theorem dX4_rules_32 : decode cX4_rules 32 = .ok (.iload_n 3, 1) := by decide +kernel
theorem dX4_rules_33 : decode cX4_rules 33 = .ok (.iload_n 2, 1) := by decide +kernel
theorem dX4_rules_34 : decode cX4_rules 34 = .ok (.if_icmp .le 5, 3) := by decide +kernel
theorem dX4_rules_37 : decode cX4_rules 37 = .ok (.iconst 0, 1) := by decide +kernel
theorem dX4_rules_38 : decode cX4_rules 38 = .ok (.ireturn, 1) := by decide +kernel
theorem dX4_rules_39 : decode cX4_rules 39 = .ok (.aload_n 0, 1) := by decide +kernel
theorem dX4_rules_40 : decode cX4_rules 40 = .ok (.iload_n 1, 1) := by decide +kernel
theorem dX4_rules_41 : decode cX4_rules 41 = .ok (.putfield 7, 3) := by decide +kernel
theorem dX4_rules_44 : decode cX4_rules 44 = .ok (.aload_n 0, 1) := by decide +kernel
theorem dX4_rules_45 : decode cX4_rules 45 = .ok (.iload_n 2, 1) := by decide +kernel
theorem dX4_rules_46 : decode cX4_rules 46 = .ok (.putfield 13, 3) := by decide +kernel
theorem dX4_rules_49 : decode cX4_rules 49 = .ok (.aload_n 0, 1) := by decide +kernel
theorem dX4_rules_50 : decode cX4_rules 50 = .ok (.iload_n 3, 1) := by decide +kernel
theorem dX4_rules_51 : decode cX4_rules 51 = .ok (.putfield 16, 3) := by decide +kernel
theorem dX4_rules_54 : decode cX4_rules 54 = .ok (.iconst 1, 1) := by decide +kernel
theorem dX4_rules_55 : decode cX4_rules 55 = .ok (.ireturn, 1) := by decide +kernel
theorem dX4_run_0 : decode cX4_run 0 = .ok (.aload_n 0, 1) := by decide +kernel
theorem dX4_run_1 : decode cX4_run 1 = .ok (.iconst 0, 1) := by decide +kernel
theorem dX4_run_2 : decode cX4_run 2 = .ok (.putfield 49, 3) := by decide +kernel
theorem dX4_run_5 : decode cX4_run 5 = .ok (.aload_n 0, 1) := by decide +kernel
theorem dX4_run_6 : decode cX4_run 6 = .ok (.iload_n 1, 1) := by decide +kernel
theorem dX4_run_7 : decode cX4_run 7 = .ok (.invokevirtual 111, 3) := by decide +kernel
theorem dX4_run_10 : decode cX4_run 10 = .ok (.ifCond .eq 10, 3) := by decide +kernel
theorem dX4_run_13 : decode cX4_run 13 = .ok (.iload_n 2, 1) := by decide +kernel
theorem dX4_run_14 : decode cX4_run 14 = .ok (.invokestatic 115, 3) := by decide +kernel
theorem dX4_run_17 : decode cX4_run 17 = .ok (.ifCond .ne 5, 3) := by decide +kernel
theorem dX4_run_20 : decode cX4_run 20 = .ok (.iconst 0, 1) := by decide +kernel
theorem dX4_run_21 : decode cX4_run 21 = .ok (.ireturn, 1) := by decide +kernel
theorem dX4_run_22 : decode cX4_run 22 = .ok (.aload_n 0, 1) := by decide +kernel
theorem dX4_run_23 : decode cX4_run 23 = .ok (.iload_n 1, 1) := by decide +kernel
theorem dX4_run_24 : decode cX4_run 24 = .ok (.iload_n 2, 1) := by decide +kernel
theorem dX4_run_25 : decode cX4_run 25 = .ok (.iload_n 3, 1) := by decide +kernel
theorem dX4_run_26 : decode cX4_run 26 = .ok (.invokevirtual 118, 3) := by decide +kernel
theorem dX4_run_29 : decode cX4_run 29 = .ok (.iconst 1, 1) := by decide +kernel
theorem dX4_run_30 : decode cX4_run 30 = .ok (.ireturn, 1) := by decide +kernel
theorem dX4_judge_0 : decode cX4_judge 0 = .ok (.aload_n 0, 1) := by decide +kernel
theorem dX4_judge_1 : decode cX4_judge 1 = .ok (.iconst 0, 1) := by decide +kernel
theorem dX4_judge_2 : decode cX4_judge 2 = .ok (.putfield 49, 3) := by decide +kernel
theorem dX4_judge_5 : decode cX4_judge 5 = .ok (.aload_n 0, 1) := by decide +kernel
theorem dX4_judge_6 : decode cX4_judge 6 = .ok (.iload_n 1, 1) := by decide +kernel
theorem dX4_judge_7 : decode cX4_judge 7 = .ok (.invokevirtual 111, 3) := by decide +kernel
theorem dX4_judge_10 : decode cX4_judge 10 = .ok (.ifCond .eq 10, 3) := by decide +kernel
theorem dX4_judge_13 : decode cX4_judge 13 = .ok (.iload_n 2, 1) := by decide +kernel
theorem dX4_judge_14 : decode cX4_judge 14 = .ok (.invokestatic 115, 3) := by decide +kernel
theorem dX4_judge_17 : decode cX4_judge 17 = .ok (.ifCond .ne 5, 3) := by decide +kernel
theorem dX4_judge_20 : decode cX4_judge 20 = .ok (.iconst (-1), 1) := by decide +kernel
theorem dX4_judge_21 : decode cX4_judge 21 = .ok (.ireturn, 1) := by decide +kernel
theorem dX4_judge_22 : decode cX4_judge 22 = .ok (.aload_n 0, 1) := by decide +kernel
theorem dX4_judge_23 : decode cX4_judge 23 = .ok (.getfield 26, 3) := by decide +kernel
theorem dX4_judge_26 : decode cX4_judge 26 = .ok (.iload_n 1, 1) := by decide +kernel
theorem dX4_judge_27 : decode cX4_judge 27 = .ok (.baload, 1) := by decide +kernel
theorem dX4_judge_28 : decode cX4_judge 28 = .ok (.istore 4, 2) := by decide +kernel
theorem dX4_judge_30 : decode cX4_judge 30 = .ok (.aload_n 0, 1) := by decide +kernel
theorem dX4_judge_31 : decode cX4_judge 31 = .ok (.getfield 33, 3) := by decide +kernel
theorem dX4_judge_34 : decode cX4_judge 34 = .ok (.iload_n 1, 1) := by decide +kernel
theorem dX4_judge_35 : decode cX4_judge 35 = .ok (.iaload, 1) := by decide +kernel
theorem dX4_judge_36 : decode cX4_judge 36 = .ok (.iload_n 2, 1) := by decide +kernel
theorem dX4_judge_37 : decode cX4_judge 37 = .ok (.if_icmp .ne 12, 3) := by decide +kernel
theorem dX4_judge_40 : decode cX4_judge 40 = .ok (.aload_n 0, 1) := by decide +kernel
theorem dX4_judge_41 : decode cX4_judge 41 = .ok (.getfield 36, 3) := by decide +kernel
theorem dX4_judge_44 : decode cX4_judge 44 = .ok (.iload_n 1, 1) := by decide +kernel
theorem dX4_judge_45 : decode cX4_judge 45 = .ok (.iaload, 1) := by decide +kernel
theorem dX4_judge_46 : decode cX4_judge 46 = .ok (.goto 4, 3) := by decide +kernel
theorem dX4_judge_49 : decode cX4_judge 49 = .ok (.iconst 0, 1) := by decide +kernel
theorem dX4_judge_50 : decode cX4_judge 50 = .ok (.istore 5, 2) := by decide +kernel
theorem dX4_judge_52 : decode cX4_judge 52 = .ok (.aload_n 0, 1) := by decide +kernel
theorem dX4_judge_53 : decode cX4_judge 53 = .ok (.iload_n 1, 1) := by decide +kernel
theorem dX4_judge_54 : decode cX4_judge 54 = .ok (.iload_n 2, 1) := by decide +kernel
theorem dX4_judge_55 : decode cX4_judge 55 = .ok (.iload_n 3, 1) := by decide +kernel
theorem dX4_judge_56 : decode cX4_judge 56 = .ok (.invokevirtual 118, 3) := by decide +kernel
theorem dX4_judge_59 : decode cX4_judge 59 = .ok (.iload 5, 2) := by decide +kernel
theorem dX4_judge_61 : decode cX4_judge 61 = .ok (.iload_n 3, 1) := by decide +kernel
theorem dX4_judge_62 : decode cX4_judge 62 = .ok (.ifCond .eq 7, 3) := by decide +kernel
theorem dX4_judge_65 : decode cX4_judge 65 = .ok (.iconst 0, 1) := by decide +kernel
theorem dX4_judge_66 : decode cX4_judge 66 = .ok (.goto 4, 3) := by decide +kernel
theorem dX4_judge_69 : decode cX4_judge 69 = .ok (.iconst 1, 1) := by decide +kernel
theorem dX4_judge_70 : decode cX4_judge 70 = .ok (.iadd, 1) := by decide +kernel
theorem dX4_judge_71 : decode cX4_judge 71 = .ok (.istore 6, 2) := by decide +kernel
theorem dX4_judge_73 : decode cX4_judge 73 = .ok (.iload_n 3, 1) := by decide +kernel
theorem dX4_judge_74 : decode cX4_judge 74 = .ok (.ifCond .eq 16, 3) := by decide +kernel
theorem dX4_judge_77 : decode cX4_judge 77 = .ok (.iload 5, 2) := by decide +kernel
theorem dX4_judge_79 : decode cX4_judge 79 = .ok (.ifCond .ne 7, 3) := by decide +kernel
theorem dX4_judge_82 : decode cX4_judge 82 = .ok (.iconst 1, 1) := by decide +kernel
theorem dX4_judge_83 : decode cX4_judge 83 = .ok (.goto 36, 3) := by decide +kernel
theorem dX4_judge_86 : decode cX4_judge 86 = .ok (.iconst 2, 1) := by decide +kernel
theorem dX4_judge_87 : decode cX4_judge 87 = .ok (.goto 32, 3) := by decide +kernel
theorem dX4_judge_90 : decode cX4_judge 90 = .ok (.iload 6, 2) := by decide +kernel
theorem dX4_judge_92 : decode cX4_judge 92 = .ok (.iload 4, 2) := by decide +kernel
theorem dX4_judge_94 : decode cX4_judge 94 = .ok (.ifCond .eq 7, 3) := by decide +kernel
theorem dX4_judge_97 : decode cX4_judge 97 = .ok (.iconst 3, 1) := by decide +kernel
theorem dX4_judge_98 : decode cX4_judge 98 = .ok (.goto 4, 3) := by decide +kernel
theorem dX4_judge_101 : decode cX4_judge 101 = .ok (.iconst 1, 1) := by decide +kernel
theorem dX4_judge_102 : decode cX4_judge 102 = .ok (.if_icmp .ge 7, 3) := by decide +kernel
theorem dX4_judge_105 : decode cX4_judge 105 = .ok (.iconst 0, 1) := by decide +kernel
theorem dX4_judge_106 : decode cX4_judge 106 = .ok (.goto 13, 3) := by decide +kernel
theorem dX4_judge_109 : decode cX4_judge 109 = .ok (.iload 4, 2) := by decide +kernel
theorem dX4_judge_111 : decode cX4_judge 111 = .ok (.ifCond .eq 7, 3) := by decide +kernel
theorem dX4_judge_114 : decode cX4_judge 114 = .ok (.iconst 4, 1) := by decide +kernel
theorem dX4_judge_115 : decode cX4_judge 115 = .ok (.goto 4, 3) := by decide +kernel
theorem dX4_judge_118 : decode cX4_judge 118 = .ok (.iconst 3, 1) := by decide +kernel
theorem dX4_judge_119 : decode cX4_judge 119 = .ok (.istore 7, 2) := by decide +kernel
theorem dX4_judge_121 : decode cX4_judge 121 = .ok (.aload_n 0, 1) := by decide +kernel
theorem dX4_judge_122 : decode cX4_judge 122 = .ok (.getfield 33, 3) := by decide +kernel
theorem dX4_judge_125 : decode cX4_judge 125 = .ok (.iload_n 1, 1) := by decide +kernel
theorem dX4_judge_126 : decode cX4_judge 126 = .ok (.iload 7, 2) := by decide +kernel
theorem dX4_judge_128 : decode cX4_judge 128 = .ok (.ifCond .ne 7, 3) := by decide +kernel
theorem dX4_judge_131 : decode cX4_judge 131 = .ok (.iload_n 2, 1) := by decide +kernel
theorem dX4_judge_132 : decode cX4_judge 132 = .ok (.goto 4, 3) := by decide +kernel
theorem dX4_judge_135 : decode cX4_judge 135 = .ok (.iconst (-1), 1) := by decide +kernel
theorem dX4_judge_136 : decode cX4_judge 136 = .ok (.iastore, 1) := by decide +kernel
theorem dX4_judge_137 : decode cX4_judge 137 = .ok (.aload_n 0, 1) := by decide +kernel
theorem dX4_judge_138 : decode cX4_judge 138 = .ok (.getfield 36, 3) := by decide +kernel
theorem dX4_judge_141 : decode cX4_judge 141 = .ok (.iload_n 1, 1) := by decide +kernel
theorem dX4_judge_142 : decode cX4_judge 142 = .ok (.iload 6, 2) := by decide +kernel
theorem dX4_judge_144 : decode cX4_judge 144 = .ok (.iastore, 1) := by decide +kernel
theorem dX4_judge_145 : decode cX4_judge 145 = .ok (.iload 7, 2) := by decide +kernel
theorem dX4_judge_147 : decode cX4_judge 147 = .ok (.ireturn, 1) := by decide +kernel
theorem dX4_about_0 : decode cX4_about 0 = .ok (.aload_n 0, 1) := by decide +kernel
theorem dX4_about_1 : decode cX4_about 1 = .ok (.iconst 0, 1) := by decide +kernel
theorem dX4_about_2 : decode cX4_about 2 = .ok (.putfield 49, 3) := by decide +kernel
theorem dX4_about_5 : decode cX4_about 5 = .ok (.aload_n 0, 1) := by decide +kernel
theorem dX4_about_6 : decode cX4_about 6 = .ok (.iload_n 1, 1) := by decide +kernel
theorem dX4_about_7 : decode cX4_about 7 = .ok (.invokevirtual 111, 3) := by decide +kernel
theorem dX4_about_10 : decode cX4_about 10 = .ok (.ifCond .ne 5, 3) := by decide +kernel
theorem dX4_about_13 : decode cX4_about 13 = .ok (.iconst (-1), 1) := by decide +kernel
theorem dX4_about_14 : decode cX4_about 14 = .ok (.ireturn, 1) := by decide +kernel
theorem dX4_about_15 : decode cX4_about 15 = .ok (.iload_n 2, 1) := by decide +kernel
theorem dX4_about_16 : decode cX4_about 16 = .ok (.tableswitch 87 0 5 #[40, 47, 53, 59, 65, 80], 40) := by decide +kernel
theorem dX4_about_56 : decode cX4_about 56 = .ok (.aload_n 0, 1) := by decide +kernel
theorem dX4_about_57 : decode cX4_about 57 = .ok (.getfield 19, 3) := by decide +kernel
theorem dX4_about_60 : decode cX4_about 60 = .ok (.iload_n 1, 1) := by decide +kernel
theorem dX4_about_61 : decode cX4_about 61 = .ok (.iaload, 1) := by decide +kernel
theorem dX4_about_62 : decode cX4_about 62 = .ok (.ireturn, 1) := by decide +kernel
theorem dX4_about_63 : decode cX4_about 63 = .ok (.aload_n 0, 1) := by decide +kernel
theorem dX4_about_64 : decode cX4_about 64 = .ok (.iload_n 1, 1) := by decide +kernel
theorem dX4_about_65 : decode cX4_about 65 = .ok (.invokevirtual 120, 3) := by decide +kernel
theorem dX4_about_68 : decode cX4_about 68 = .ok (.ireturn, 1) := by decide +kernel
theorem dX4_about_69 : decode cX4_about 69 = .ok (.aload_n 0, 1) := by decide +kernel
theorem dX4_about_70 : decode cX4_about 70 = .ok (.iload_n 1, 1) := by decide +kernel
theorem dX4_about_71 : decode cX4_about 71 = .ok (.invokevirtual 72, 3) := by decide +kernel
theorem dX4_about_74 : decode cX4_about 74 = .ok (.ireturn, 1) := by decide +kernel
theorem dX4_about_75 : decode cX4_about 75 = .ok (.aload_n 0, 1) := by decide +kernel
theorem dX4_about_76 : decode cX4_about 76 = .ok (.iload_n 1, 1) := by decide +kernel
theorem dX4_about_77 : decode cX4_about 77 = .ok (.invokevirtual 76, 3) := by decide +kernel
theorem dX4_about_80 : decode cX4_about 80 = .ok (.ireturn, 1) := by decide +kernel
theorem dX4_about_81 : decode cX4_about 81 = .ok (.aload_n 0, 1) := by decide +kernel
theorem dX4_about_82 : decode cX4_about 82 = .ok (.getfield 26, 3) := by decide +kernel
theorem dX4_about_85 : decode cX4_about 85 = .ok (.iload_n 1, 1) := by decide +kernel
theorem dX4_about_86 : decode cX4_about 86 = .ok (.baload, 1) := by decide +kernel
theorem dX4_about_87 : decode cX4_about 87 = .ok (.ifCond .eq 7, 3) := by decide +kernel
theorem dX4_about_90 : decode cX4_about 90 = .ok (.iconst 1, 1) := by decide +kernel
theorem dX4_about_91 : decode cX4_about 91 = .ok (.goto 4, 3) := by decide +kernel
theorem dX4_about_94 : decode cX4_about 94 = .ok (.iconst 0, 1) := by decide +kernel
theorem dX4_about_95 : decode cX4_about 95 = .ok (.ireturn, 1) := by decide +kernel
theorem dX4_about_96 : decode cX4_about 96 = .ok (.aload_n 0, 1) := by decide +kernel
theorem dX4_about_97 : decode cX4_about 97 = .ok (.getfield 30, 3) := by decide +kernel
theorem dX4_about_100 : decode cX4_about 100 = .ok (.iload_n 1, 1) := by decide +kernel
theorem dX4_about_101 : decode cX4_about 101 = .ok (.iaload, 1) := by decide +kernel
theorem dX4_about_102 : decode cX4_about 102 = .ok (.ireturn, 1) := by decide +kernel
theorem dX4_about_103 : decode cX4_about 103 = .ok (.iconst (-1), 1) := by decide +kernel
theorem dX4_about_104 : decode cX4_about 104 = .ok (.ireturn, 1) := by decide +kernel
theorem dX4_bound_0 : decode cX4_bound 0 = .ok (.aload_n 0, 1) := by decide +kernel
theorem dX4_bound_1 : decode cX4_bound 1 = .ok (.iconst 0, 1) := by decide +kernel
theorem dX4_bound_2 : decode cX4_bound 2 = .ok (.putfield 49, 3) := by decide +kernel
theorem dX4_bound_5 : decode cX4_bound 5 = .ok (.aload_n 0, 1) := by decide +kernel
theorem dX4_bound_6 : decode cX4_bound 6 = .ok (.iload_n 1, 1) := by decide +kernel
theorem dX4_bound_7 : decode cX4_bound 7 = .ok (.invokevirtual 111, 3) := by decide +kernel
theorem dX4_bound_10 : decode cX4_bound 10 = .ok (.ifCond .eq 15, 3) := by decide +kernel
theorem dX4_bound_13 : decode cX4_bound 13 = .ok (.iload_n 2, 1) := by decide +kernel
theorem dX4_bound_14 : decode cX4_bound 14 = .ok (.iconst 1, 1) := by decide +kernel
theorem dX4_bound_15 : decode cX4_bound 15 = .ok (.if_icmp .lt 10, 3) := by decide +kernel
theorem dX4_bound_18 : decode cX4_bound 18 = .ok (.iload_n 2, 1) := by decide +kernel
theorem dX4_bound_19 : decode cX4_bound 19 = .ok (.sipush 999, 3) := by decide +kernel
theorem dX4_bound_22 : decode cX4_bound 22 = .ok (.if_icmp .le 7, 3) := by decide +kernel
theorem dX4_bound_25 : decode cX4_bound 25 = .ok (.iconst (-1), 1) := by decide +kernel
theorem dX4_bound_26 : decode cX4_bound 26 = .ok (.goto 10, 3) := by decide +kernel
theorem dX4_bound_29 : decode cX4_bound 29 = .ok (.aload_n 0, 1) := by decide +kernel
theorem dX4_bound_30 : decode cX4_bound 30 = .ok (.iload_n 1, 1) := by decide +kernel
theorem dX4_bound_31 : decode cX4_bound 31 = .ok (.iload_n 2, 1) := by decide +kernel
theorem dX4_bound_32 : decode cX4_bound 32 = .ok (.iload_n 3, 1) := by decide +kernel
theorem dX4_bound_33 : decode cX4_bound 33 = .ok (.invokevirtual 107, 3) := by decide +kernel
theorem dX4_bound_36 : decode cX4_bound 36 = .ok (.ireturn, 1) := by decide +kernel
theorem dX4_digit_0 : decode cX4_digit 0 = .ok (.aload_n 0, 1) := by decide +kernel
theorem dX4_digit_1 : decode cX4_digit 1 = .ok (.getfield 39, 3) := by decide +kernel
theorem dX4_digit_4 : decode cX4_digit 4 = .ok (.iload_n 1, 1) := by decide +kernel
theorem dX4_digit_5 : decode cX4_digit 5 = .ok (.iconst 4, 1) := by decide +kernel
theorem dX4_digit_6 : decode cX4_digit 6 = .ok (.idiv, 1) := by decide +kernel
theorem dX4_digit_7 : decode cX4_digit 7 = .ok (.laload, 1) := by decide +kernel
theorem dX4_digit_8 : decode cX4_digit 8 = .ok (.lstore_n 2, 1) := by decide +kernel
theorem dX4_digit_9 : decode cX4_digit 9 = .ok (.iload_n 1, 1) := by decide +kernel
theorem dX4_digit_10 : decode cX4_digit 10 = .ok (.iconst 4, 1) := by decide +kernel
theorem dX4_digit_11 : decode cX4_digit 11 = .ok (.irem, 1) := by decide +kernel
theorem dX4_digit_12 : decode cX4_digit 12 = .ok (.istore 4, 2) := by decide +kernel
theorem dX4_digit_14 : decode cX4_digit 14 = .ok (.iload 4, 2) := by decide +kernel
theorem dX4_digit_16 : decode cX4_digit 16 = .ok (.ifCond .le 15, 3) := by decide +kernel
theorem dX4_digit_19 : decode cX4_digit 19 = .ok (.lload_n 2, 1) := by decide +kernel
theorem dX4_digit_20 : decode cX4_digit 20 = .ok (.ldc2_w 123, 3) := by decide +kernel
theorem dX4_digit_23 : decode cX4_digit 23 = .ok (.ldiv, 1) := by decide +kernel
theorem dX4_digit_24 : decode cX4_digit 24 = .ok (.lstore_n 2, 1) := by decide +kernel
theorem dX4_digit_25 : decode cX4_digit 25 = .ok (.iinc 4 (-1), 3) := by decide +kernel
theorem dX4_digit_28 : decode cX4_digit 28 = .ok (.goto (-14), 3) := by decide +kernel
theorem dX4_digit_31 : decode cX4_digit 31 = .ok (.lload_n 2, 1) := by decide +kernel
theorem dX4_digit_32 : decode cX4_digit 32 = .ok (.ldc2_w 123, 3) := by decide +kernel
theorem dX4_digit_35 : decode cX4_digit 35 = .ok (.lrem, 1) := by decide +kernel
theorem dX4_digit_36 : decode cX4_digit 36 = .ok (.l2i, 1) := by decide +kernel
theorem dX4_digit_37 : decode cX4_digit 37 = .ok (.ireturn, 1) := by decide +kernel
theorem dX4_share_0 : decode cX4_share 0 = .ok (.aload_n 0, 1) := by decide +kernel
theorem dX4_share_1 : decode cX4_share 1 = .ok (.iconst 0, 1) := by decide +kernel
theorem dX4_share_2 : decode cX4_share 2 = .ok (.putfield 49, 3) := by decide +kernel
theorem dX4_share_5 : decode cX4_share 5 = .ok (.aload_n 0, 1) := by decide +kernel
theorem dX4_share_6 : decode cX4_share 6 = .ok (.iload_n 1, 1) := by decide +kernel
theorem dX4_share_7 : decode cX4_share 7 = .ok (.invokevirtual 111, 3) := by decide +kernel
theorem dX4_share_10 : decode cX4_share 10 = .ok (.ifCond .eq 27, 3) := by decide +kernel
theorem dX4_share_13 : decode cX4_share 13 = .ok (.iload_n 2, 1) := by decide +kernel
theorem dX4_share_14 : decode cX4_share 14 = .ok (.ifCond .lt 23, 3) := by decide +kernel
theorem dX4_share_17 : decode cX4_share 17 = .ok (.iload_n 2, 1) := by decide +kernel
theorem dX4_share_18 : decode cX4_share 18 = .ok (.sipush 1000, 3) := by decide +kernel
theorem dX4_share_21 : decode cX4_share 21 = .ok (.if_icmp .gt 16, 3) := by decide +kernel
theorem dX4_share_24 : decode cX4_share 24 = .ok (.iload 4, 2) := by decide +kernel
theorem dX4_share_26 : decode cX4_share 26 = .ok (.iconst 1, 1) := by decide +kernel
theorem dX4_share_27 : decode cX4_share 27 = .ok (.if_icmp .lt 10, 3) := by decide +kernel
theorem dX4_share_30 : decode cX4_share 30 = .ok (.iload 4, 2) := by decide +kernel
theorem dX4_share_32 : decode cX4_share 32 = .ok (.bipush 18, 2) := by decide +kernel
theorem dX4_share_34 : decode cX4_share 34 = .ok (.if_icmp .le 7, 3) := by decide +kernel
theorem dX4_share_37 : decode cX4_share 37 = .ok (.ldc2_w 125, 3) := by decide +kernel
theorem dX4_share_40 : decode cX4_share 40 = .ok (.lreturn, 1) := by decide +kernel
theorem dX4_share_41 : decode cX4_share 41 = .ok (.aload_n 0, 1) := by decide +kernel
theorem dX4_share_42 : decode cX4_share 42 = .ok (.iload_n 1, 1) := by decide +kernel
theorem dX4_share_43 : decode cX4_share 43 = .ok (.iload_n 2, 1) := by decide +kernel
theorem dX4_share_44 : decode cX4_share 44 = .ok (.iload_n 3, 1) := by decide +kernel
theorem dX4_share_45 : decode cX4_share 45 = .ok (.invokevirtual 89, 3) := by decide +kernel
theorem dX4_share_48 : decode cX4_share 48 = .ok (.iconst 3, 1) := by decide +kernel
theorem dX4_share_49 : decode cX4_share 49 = .ok (.aload_n 0, 1) := by decide +kernel
theorem dX4_share_50 : decode cX4_share 50 = .ok (.iload_n 1, 1) := by decide +kernel
theorem dX4_share_51 : decode cX4_share 51 = .ok (.invokevirtual 72, 3) := by decide +kernel
theorem dX4_share_54 : decode cX4_share 54 = .ok (.imul, 1) := by decide +kernel
theorem dX4_share_55 : decode cX4_share 55 = .ok (.istore 5, 2) := by decide +kernel
theorem dX4_share_57 : decode cX4_share 57 = .ok (.lconst 0, 1) := by decide +kernel
theorem dX4_share_58 : decode cX4_share 58 = .ok (.lstore 6, 2) := by decide +kernel
theorem dX4_share_60 : decode cX4_share 60 = .ok (.iload 5, 2) := by decide +kernel
theorem dX4_share_62 : decode cX4_share 62 = .ok (.istore 8, 2) := by decide +kernel
theorem dX4_share_64 : decode cX4_share 64 = .ok (.iload 8, 2) := by decide +kernel
theorem dX4_share_66 : decode cX4_share 66 = .ok (.iload 5, 2) := by decide +kernel
theorem dX4_share_68 : decode cX4_share 68 = .ok (.iload 4, 2) := by decide +kernel
theorem dX4_share_70 : decode cX4_share 70 = .ok (.isub, 1) := by decide +kernel
theorem dX4_share_71 : decode cX4_share 71 = .ok (.if_icmp .lt 34, 3) := by decide +kernel
theorem dX4_share_74 : decode cX4_share 74 = .ok (.ldc2_w 123, 3) := by decide +kernel
theorem dX4_share_77 : decode cX4_share 77 = .ok (.lload 6, 2) := by decide +kernel
theorem dX4_share_79 : decode cX4_share 79 = .ok (.lmul, 1) := by decide +kernel
theorem dX4_share_80 : decode cX4_share 80 = .ok (.iload 8, 2) := by decide +kernel
theorem dX4_share_82 : decode cX4_share 82 = .ok (.ifCond .ge 7, 3) := by decide +kernel
theorem dX4_share_85 : decode cX4_share 85 = .ok (.iconst 0, 1) := by decide +kernel
theorem dX4_share_86 : decode cX4_share 86 = .ok (.goto 9, 3) := by decide +kernel
theorem dX4_share_89 : decode cX4_share 89 = .ok (.aload_n 0, 1) := by decide +kernel
theorem dX4_share_90 : decode cX4_share 90 = .ok (.iload 8, 2) := by decide +kernel
theorem dX4_share_92 : decode cX4_share 92 = .ok (.invokevirtual 127, 3) := by decide +kernel
theorem dX4_share_95 : decode cX4_share 95 = .ok (.i2l, 1) := by decide +kernel
theorem dX4_share_96 : decode cX4_share 96 = .ok (.ladd, 1) := by decide +kernel
theorem dX4_share_97 : decode cX4_share 97 = .ok (.lstore 6, 2) := by decide +kernel
theorem dX4_share_99 : decode cX4_share 99 = .ok (.iinc 8 (-1), 3) := by decide +kernel
theorem dX4_share_102 : decode cX4_share 102 = .ok (.goto (-38), 3) := by decide +kernel
theorem dX4_share_105 : decode cX4_share 105 = .ok (.lload 6, 2) := by decide +kernel
theorem dX4_share_107 : decode cX4_share 107 = .ok (.lreturn, 1) := by decide +kernel
theorem dX4_isBad_0 : decode cX4_isBad 0 = .ok (.aload_n 0, 1) := by decide +kernel
theorem dX4_isBad_1 : decode cX4_isBad 1 = .ok (.iconst 0, 1) := by decide +kernel
theorem dX4_isBad_2 : decode cX4_isBad 2 = .ok (.putfield 49, 3) := by decide +kernel
theorem dX4_isBad_5 : decode cX4_isBad 5 = .ok (.aload_n 0, 1) := by decide +kernel
theorem dX4_isBad_6 : decode cX4_isBad 6 = .ok (.iload_n 1, 1) := by decide +kernel
theorem dX4_isBad_7 : decode cX4_isBad 7 = .ok (.invokevirtual 111, 3) := by decide +kernel
theorem dX4_isBad_10 : decode cX4_isBad 10 = .ok (.ifCond .eq 23, 3) := by decide +kernel
theorem dX4_isBad_13 : decode cX4_isBad 13 = .ok (.iload_n 2, 1) := by decide +kernel
theorem dX4_isBad_14 : decode cX4_isBad 14 = .ok (.invokestatic 115, 3) := by decide +kernel
theorem dX4_isBad_17 : decode cX4_isBad 17 = .ok (.ifCond .eq 16, 3) := by decide +kernel
theorem dX4_isBad_20 : decode cX4_isBad 20 = .ok (.aload_n 0, 1) := by decide +kernel
theorem dX4_isBad_21 : decode cX4_isBad 21 = .ok (.iload_n 1, 1) := by decide +kernel
theorem dX4_isBad_22 : decode cX4_isBad 22 = .ok (.iload_n 2, 1) := by decide +kernel
theorem dX4_isBad_23 : decode cX4_isBad 23 = .ok (.invokevirtual 104, 3) := by decide +kernel
theorem dX4_isBad_26 : decode cX4_isBad 26 = .ok (.ifCond .eq 7, 3) := by decide +kernel
theorem dX4_isBad_29 : decode cX4_isBad 29 = .ok (.iconst 1, 1) := by decide +kernel
theorem dX4_isBad_30 : decode cX4_isBad 30 = .ok (.goto 4, 3) := by decide +kernel
theorem dX4_isBad_33 : decode cX4_isBad 33 = .ok (.iconst 0, 1) := by decide +kernel
theorem dX4_isBad_34 : decode cX4_isBad 34 = .ok (.ireturn, 1) := by decide +kernel
theorem dX4_broken_0 : decode cX4_broken 0 = .ok (.aload_n 0, 1) := by decide +kernel
theorem dX4_broken_1 : decode cX4_broken 1 = .ok (.iconst 0, 1) := by decide +kernel
theorem dX4_broken_2 : decode cX4_broken 2 = .ok (.putfield 49, 3) := by decide +kernel
theorem dX4_broken_5 : decode cX4_broken 5 = .ok (.iconst 0, 1) := by decide +kernel
theorem dX4_broken_6 : decode cX4_broken 6 = .ok (.istore_n 2, 1) := by decide +kernel
theorem dX4_broken_7 : decode cX4_broken 7 = .ok (.iconst 0, 1) := by decide +kernel
theorem dX4_broken_8 : decode cX4_broken 8 = .ok (.istore_n 3, 1) := by decide +kernel
theorem dX4_broken_9 : decode cX4_broken 9 = .ok (.iload_n 3, 1) := by decide +kernel
theorem dX4_broken_10 : decode cX4_broken 10 = .ok (.aload_n 0, 1) := by decide +kernel
theorem dX4_broken_11 : decode cX4_broken 11 = .ok (.getfield 52, 3) := by decide +kernel
theorem dX4_broken_14 : decode cX4_broken 14 = .ok (.if_icmp .ge 44, 3) := by decide +kernel
theorem dX4_broken_17 : decode cX4_broken 17 = .ok (.iload_n 2, 1) := by decide +kernel
theorem dX4_broken_18 : decode cX4_broken 18 = .ok (.iload_n 1, 1) := by decide +kernel
theorem dX4_broken_19 : decode cX4_broken 19 = .ok (.invokestatic 115, 3) := by decide +kernel
theorem dX4_broken_22 : decode cX4_broken 22 = .ok (.ifCond .eq 27, 3) := by decide +kernel
theorem dX4_broken_25 : decode cX4_broken 25 = .ok (.aload_n 0, 1) := by decide +kernel
theorem dX4_broken_26 : decode cX4_broken 26 = .ok (.iload_n 3, 1) := by decide +kernel
theorem dX4_broken_27 : decode cX4_broken 27 = .ok (.iload_n 1, 1) := by decide +kernel
theorem dX4_broken_28 : decode cX4_broken 28 = .ok (.invokevirtual 104, 3) := by decide +kernel
theorem dX4_broken_31 : decode cX4_broken 31 = .ok (.ifCond .eq 18, 3) := by decide +kernel
theorem dX4_broken_34 : decode cX4_broken 34 = .ok (.aload_n 0, 1) := by decide +kernel
theorem dX4_broken_35 : decode cX4_broken 35 = .ok (.getfield 26, 3) := by decide +kernel
theorem dX4_broken_38 : decode cX4_broken 38 = .ok (.iload_n 3, 1) := by decide +kernel
theorem dX4_broken_39 : decode cX4_broken 39 = .ok (.baload, 1) := by decide +kernel
theorem dX4_broken_40 : decode cX4_broken 40 = .ok (.ifCond .ne 9, 3) := by decide +kernel
theorem dX4_broken_43 : decode cX4_broken 43 = .ok (.iconst 1, 1) := by decide +kernel
theorem dX4_broken_44 : decode cX4_broken 44 = .ok (.iload_n 3, 1) := by decide +kernel
theorem dX4_broken_45 : decode cX4_broken 45 = .ok (.ishl, 1) := by decide +kernel
theorem dX4_broken_46 : decode cX4_broken 46 = .ok (.goto 4, 3) := by decide +kernel
theorem dX4_broken_49 : decode cX4_broken 49 = .ok (.iconst 0, 1) := by decide +kernel
theorem dX4_broken_50 : decode cX4_broken 50 = .ok (.ior, 1) := by decide +kernel
theorem dX4_broken_51 : decode cX4_broken 51 = .ok (.istore_n 2, 1) := by decide +kernel
theorem dX4_broken_52 : decode cX4_broken 52 = .ok (.iinc 3 1, 3) := by decide +kernel
theorem dX4_broken_55 : decode cX4_broken 55 = .ok (.goto (-46), 3) := by decide +kernel
theorem dX4_broken_58 : decode cX4_broken 58 = .ok (.iload_n 2, 1) := by decide +kernel
theorem dX4_broken_59 : decode cX4_broken 59 = .ok (.ireturn, 1) := by decide +kernel

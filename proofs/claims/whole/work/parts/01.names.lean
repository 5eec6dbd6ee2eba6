def zR0 : String := "PledgeMonitor$Agreement"
def zT0 : u_T := fun k => match k with
  | 0 => ("PledgeMonitor$Agreement", "clauses", "[LPledgeMonitor$Clause;", true)
  | _ => ("PledgeMonitor$Agreement", "size", "I", false)
def zt0 : Nat → FieldType := fun k => match k with
  | 0 => .array (.object "PledgeMonitor$Clause")
  | _ => .int
theorem znm0 : ∀ a, a < 2 → ∀ b, b < 2 → a ≠ b → (zT0 a).2.1 ≠ (zT0 b).2.1 := by decide +kernel
theorem zty0 : ∀ k, k < 2 → parseFieldDescriptor (zT0 k).2.2.1 = some (zt0 k) := by decide +kernel
def zR1 : String := "PledgeMonitor$Clause"
def zT1 : u_T := fun k => match k with
  | 0 => ("PledgeMonitor$Clause", "trigger", "I", false)
  | 1 => ("PledgeMonitor$Clause", "triggerParty", "I", false)
  | 2 => ("PledgeMonitor$Clause", "triggerKind", "I", false)
  | 3 => ("PledgeMonitor$Clause", "triggerNumber", "I", false)
  | 4 => ("PledgeMonitor$Clause", "conditional", "Z", false)
  | 5 => ("PledgeMonitor$Clause", "debtor", "I", false)
  | 6 => ("PledgeMonitor$Clause", "creditor", "I", false)
  | 7 => ("PledgeMonitor$Clause", "limit", "I", false)
  | 8 => ("PledgeMonitor$Clause", "action", "I", false)
  | 9 => ("PledgeMonitor$Clause", "party", "I", false)
  | 10 => ("PledgeMonitor$Clause", "kind", "I", false)
  | 11 => ("PledgeMonitor$Clause", "otherParty", "I", false)
  | _ => ("PledgeMonitor$Clause", "digit", "I", false)
def zt1 : Nat → FieldType := fun k => match k with
  | 0 => .int
  | 1 => .int
  | 2 => .int
  | 3 => .int
  | 4 => .boolean
  | 5 => .int
  | 6 => .int
  | 7 => .int
  | 8 => .int
  | 9 => .int
  | 10 => .int
  | 11 => .int
  | _ => .int
theorem znm1 : ∀ a, a < 13 → ∀ b, b < 13 → a ≠ b → (zT1 a).2.1 ≠ (zT1 b).2.1 := by decide +kernel
theorem zty1 : ∀ k, k < 13 → parseFieldDescriptor (zT1 k).2.2.1 = some (zt1 k) := by decide +kernel
def zR2 : String := "PledgeMonitor$History"
def zT2 : u_T := fun k => match k with
  | 0 => ("PledgeMonitor$History", "kept", "[LPledgeMonitor$State;", true)
  | 1 => ("PledgeMonitor$History", "size", "I", false)
  | _ => ("PledgeMonitor$History", "next", "I", false)
def zt2 : Nat → FieldType := fun k => match k with
  | 0 => .array (.object "PledgeMonitor$State")
  | 1 => .int
  | _ => .int
theorem znm2 : ∀ a, a < 3 → ∀ b, b < 3 → a ≠ b → (zT2 a).2.1 ≠ (zT2 b).2.1 := by decide +kernel
theorem zty2 : ∀ k, k < 3 → parseFieldDescriptor (zT2 k).2.2.1 = some (zt2 k) := by decide +kernel
def zR3 : String := "PledgeMonitor$Runner"
def zT3 : u_T := fun k => match k with
  | 0 => ("PledgeMonitor$Runner", "freeDays", "[Z", true)
  | 1 => ("PledgeMonitor$Runner", "waiting", "[I", true)
  | _ => ("PledgeMonitor$Runner", "waitingSize", "I", false)
def zt3 : Nat → FieldType := fun k => match k with
  | 0 => .array .boolean
  | 1 => .array .int
  | _ => .int
theorem znm3 : ∀ a, a < 3 → ∀ b, b < 3 → a ≠ b → (zT3 a).2.1 ≠ (zT3 b).2.1 := by decide +kernel
theorem zty3 : ∀ k, k < 3 → parseFieldDescriptor (zT3 k).2.2.1 = some (zt3 k) := by decide +kernel
def zR4 : String := "PledgeMonitor$Search"
def zT4 : u_T := fun k => match k with
  | 0 => ("PledgeMonitor$Search", "runner", "LPledgeMonitor$Runner;", true)
  | 1 => ("PledgeMonitor$Search", "afterOne", "[LPledgeMonitor$State;", true)
  | 2 => ("PledgeMonitor$Search", "afterTwo", "[LPledgeMonitor$State;", true)
  | _ => ("PledgeMonitor$Search", "afterDay", "[LPledgeMonitor$State;", true)
def zt4 : Nat → FieldType := fun k => match k with
  | 0 => .object "PledgeMonitor$Runner"
  | 1 => .array (.object "PledgeMonitor$State")
  | 2 => .array (.object "PledgeMonitor$State")
  | _ => .array (.object "PledgeMonitor$State")
theorem znm4 : ∀ a, a < 4 → ∀ b, b < 4 → a ≠ b → (zT4 a).2.1 ≠ (zT4 b).2.1 := by decide +kernel
theorem zty4 : ∀ k, k < 4 → parseFieldDescriptor (zT4 k).2.2.1 = some (zt4 k) := by decide +kernel
def zR5 : String := "PledgeMonitor$State"
def zT5 : u_T := fun k => match k with
  | 0 => ("PledgeMonitor$State", "day", "I", false)
  | 1 => ("PledgeMonitor$State", "duties", "LPledgeMonitor$Terms;", true)
  | 2 => ("PledgeMonitor$State", "bans", "LPledgeMonitor$Terms;", true)
  | 3 => ("PledgeMonitor$State", "powers", "LPledgeMonitor$Terms;", true)
  | 4 => ("PledgeMonitor$State", "debts", "[I", true)
  | _ => ("PledgeMonitor$State", "breachCounts", "[I", true)
def zt5 : Nat → FieldType := fun k => match k with
  | 0 => .int
  | 1 => .object "PledgeMonitor$Terms"
  | 2 => .object "PledgeMonitor$Terms"
  | 3 => .object "PledgeMonitor$Terms"
  | 4 => .array .int
  | _ => .array .int
theorem znm5 : ∀ a, a < 6 → ∀ b, b < 6 → a ≠ b → (zT5 a).2.1 ≠ (zT5 b).2.1 := by decide +kernel
theorem zty5 : ∀ k, k < 6 → parseFieldDescriptor (zT5 k).2.2.1 = some (zt5 k) := by decide +kernel
def zR6 : String := "PledgeMonitor$Terms"
def zT6 : u_T := fun k => match k with
  | 0 => ("PledgeMonitor$Terms", "rows", "[I", true)
  | _ => ("PledgeMonitor$Terms", "size", "I", false)
def zt6 : Nat → FieldType := fun k => match k with
  | 0 => .array .int
  | _ => .int
theorem znm6 : ∀ a, a < 2 → ∀ b, b < 2 → a ≠ b → (zT6 a).2.1 ≠ (zT6 b).2.1 := by decide +kernel
theorem zty6 : ∀ k, k < 2 → parseFieldDescriptor (zT6 k).2.2.1 = some (zt6 k) := by decide +kernel
def zR7 : String := "PledgeMonitor$Text"
def zT7 : u_T := fun k => match k with
  | 0 => ("PledgeMonitor$Text", "characters", "[C", true)
  | 1 => ("PledgeMonitor$Text", "length", "I", false)
  | 2 => ("PledgeMonitor$Text", "place", "I", false)
  | 3 => ("PledgeMonitor$Text", "first", "I", false)
  | 4 => ("PledgeMonitor$Text", "second", "I", false)
  | _ => ("PledgeMonitor$Text", "digit", "I", false)
def zt7 : Nat → FieldType := fun k => match k with
  | 0 => .array .char
  | 1 => .int
  | 2 => .int
  | 3 => .int
  | 4 => .int
  | _ => .int
theorem znm7 : ∀ a, a < 6 → ∀ b, b < 6 → a ≠ b → (zT7 a).2.1 ≠ (zT7 b).2.1 := by decide +kernel
theorem zty7 : ∀ k, k < 6 → parseFieldDescriptor (zT7 k).2.2.1 = some (zt7 k) := by decide +kernel
def zR8 : String := "PledgeMonitor"
def zT8 : u_T := fun k => match k with
  | 0 => ("PledgeMonitor", "text", "LPledgeMonitor$Text;", true)
  | 1 => ("PledgeMonitor", "foundFault", "I", false)
  | 2 => ("PledgeMonitor", "running", "Z", false)
  | 3 => ("PledgeMonitor", "agreement", "LPledgeMonitor$Agreement;", false)
  | 4 => ("PledgeMonitor", "draft", "LPledgeMonitor$Agreement;", false)
  | 5 => ("PledgeMonitor", "state", "LPledgeMonitor$State;", true)
  | 6 => ("PledgeMonitor", "trial", "LPledgeMonitor$State;", true)
  | 7 => ("PledgeMonitor", "history", "LPledgeMonitor$History;", true)
  | 8 => ("PledgeMonitor", "search", "LPledgeMonitor$Search;", true)
  | _ => ("PledgeMonitor", "runner", "LPledgeMonitor$Runner;", true)
def zt8 : Nat → FieldType := fun k => match k with
  | 0 => .object "PledgeMonitor$Text"
  | 1 => .int
  | 2 => .boolean
  | 3 => .object "PledgeMonitor$Agreement"
  | 4 => .object "PledgeMonitor$Agreement"
  | 5 => .object "PledgeMonitor$State"
  | 6 => .object "PledgeMonitor$State"
  | 7 => .object "PledgeMonitor$History"
  | 8 => .object "PledgeMonitor$Search"
  | _ => .object "PledgeMonitor$Runner"
theorem znm8 : ∀ a, a < 10 → ∀ b, b < 10 → a ≠ b → (zT8 a).2.1 ≠ (zT8 b).2.1 := by decide +kernel
theorem zty8 : ∀ k, k < 10 → parseFieldDescriptor (zT8 k).2.2.1 = some (zt8 k) := by decide +kernel
def zR9 : String := "PledgeMonitorModel"
def zT9 : u_T := fun k => match k with
  | 0 => ("PledgeMonitorModel", "code", "I", false)
  | 1 => ("PledgeMonitorModel", "typed", "I", false)
  | 2 => ("PledgeMonitorModel", "text", "[I", true)
  | 3 => ("PledgeMonitorModel", "told", "I", false)
  | 4 => ("PledgeMonitorModel", "free", "[Z", true)
  | 5 => ("PledgeMonitorModel", "bank", "I", false)
  | 6 => ("PledgeMonitorModel", "there", "Z", false)
  | 7 => ("PledgeMonitorModel", "clauses", "I", false)
  | 8 => ("PledgeMonitorModel", "triggers", "[I", true)
  | 9 => ("PledgeMonitorModel", "triggerOne", "[I", true)
  | 10 => ("PledgeMonitorModel", "triggerTwo", "[I", true)
  | 11 => ("PledgeMonitorModel", "bound", "[Z", true)
  | 12 => ("PledgeMonitorModel", "boundOne", "[I", true)
  | 13 => ("PledgeMonitorModel", "boundTwo", "[I", true)
  | 14 => ("PledgeMonitorModel", "boundMore", "[I", true)
  | 15 => ("PledgeMonitorModel", "actions", "[I", true)
  | 16 => ("PledgeMonitorModel", "actionOne", "[I", true)
  | 17 => ("PledgeMonitorModel", "actionTwo", "[I", true)
  | 18 => ("PledgeMonitorModel", "actionMore", "[I", true)
  | 19 => ("PledgeMonitorModel", "states", "[I", true)
  | 20 => ("PledgeMonitorModel", "kept", "I", false)
  | 21 => ("PledgeMonitorModel", "waiting", "I", false)
  | 22 => ("PledgeMonitorModel", "row", "[I", true)
  | 23 => ("PledgeMonitorModel", "full", "Z", false)
  | 24 => ("PledgeMonitorModel", "made", "I", false)
  | _ => ("PledgeMonitorModel", "blamed", "I", false)
def zt9 : Nat → FieldType := fun k => match k with
  | 0 => .int
  | 1 => .int
  | 2 => .array .int
  | 3 => .int
  | 4 => .array .boolean
  | 5 => .int
  | 6 => .boolean
  | 7 => .int
  | 8 => .array .int
  | 9 => .array .int
  | 10 => .array .int
  | 11 => .array .boolean
  | 12 => .array .int
  | 13 => .array .int
  | 14 => .array .int
  | 15 => .array .int
  | 16 => .array .int
  | 17 => .array .int
  | 18 => .array .int
  | 19 => .array .int
  | 20 => .int
  | 21 => .int
  | 22 => .array .int
  | 23 => .boolean
  | 24 => .int
  | _ => .int
theorem znm9 : ∀ a, a < 26 → ∀ b, b < 26 → a ≠ b → (zT9 a).2.1 ≠ (zT9 b).2.1 := by decide +kernel
theorem zty9 : ∀ k, k < 26 → parseFieldDescriptor (zT9 k).2.2.1 = some (zt9 k) := by decide +kernel
abbrev vwCl : List vw_C := [(zR0, zT0, 2), (zR1, zT1, 13), (zR2, zT2, 3), (zR3, zT3, 3), (zR4, zT4, 4), (zR5, zT5, 6), (zR6, zT6, 2), (zR7, zT7, 6), (zR8, zT8, 10), (zR9, zT9, 26)]
def cl_n : Nat → Nat := fun c => match c with
  | 0 => 2
  | 1 => 13
  | 2 => 3
  | 3 => 3
  | 4 => 4
  | 5 => 6
  | 6 => 2
  | 7 => 6
  | 8 => 10
  | _ => 26
/-- which fields hold references -/
def cl_r : Nat → Nat → Bool := fun c k => match c with
  | 0 => k == 0
  | 1 => false
  | 2 => k == 0
  | 3 => k == 0 || k == 1
  | 4 => k == 0 || k == 1 || k == 2 || k == 3
  | 5 => k == 1 || k == 2 || k == 3 || k == 4 || k == 5
  | 6 => k == 0
  | 7 => k == 0
  | 8 => k == 0 || k == 3 || k == 4 || k == 5 || k == 6 || k == 7 || k == 8 || k == 9
  | _ => k == 2 || k == 4 || k == 8 || k == 9 || k == 10 || k == 11 || k == 12 || k == 13 || k == 14 || k == 15 || k == 16 || k == 17 || k == 18 || k == 19 || k == 22
theorem zdf0 : ∀ j, j < 2 → defaultValue (zt0 j) = if cl_r 0 j = true then .null else .int 0 := by decide +kernel
theorem zdf1 : ∀ j, j < 13 → defaultValue (zt1 j) = if cl_r 1 j = true then .null else .int 0 := by decide +kernel
theorem zdf2 : ∀ j, j < 3 → defaultValue (zt2 j) = if cl_r 2 j = true then .null else .int 0 := by decide +kernel
theorem zdf3 : ∀ j, j < 3 → defaultValue (zt3 j) = if cl_r 3 j = true then .null else .int 0 := by decide +kernel
theorem zdf4 : ∀ j, j < 4 → defaultValue (zt4 j) = if cl_r 4 j = true then .null else .int 0 := by decide +kernel
theorem zdf5 : ∀ j, j < 6 → defaultValue (zt5 j) = if cl_r 5 j = true then .null else .int 0 := by decide +kernel
theorem zdf6 : ∀ j, j < 2 → defaultValue (zt6 j) = if cl_r 6 j = true then .null else .int 0 := by decide +kernel
theorem zdf7 : ∀ j, j < 6 → defaultValue (zt7 j) = if cl_r 7 j = true then .null else .int 0 := by decide +kernel
theorem zdf8 : ∀ j, j < 10 → defaultValue (zt8 j) = if cl_r 8 j = true then .null else .int 0 := by decide +kernel
theorem zdf9 : ∀ j, j < 26 → defaultValue (zt9 j) = if cl_r 9 j = true then .null else .int 0 := by decide +kernel
def tg_ty : Nat → FieldType := fun t => match t with
  | 0 => .int
  | 1 => .boolean
  | 2 => .char
  | 3 => .long
  | 4 => .object "PledgeMonitor$Clause"
  | 5 => .object "PledgeMonitor$State"
  | _ => .int
/-- the words that every method is given -/
def gw : List Cond := lw_tbl.filter goodWord
theorem gw_at {w : Cond} (i : Nat) (h : lw_tbl[i]? = some w) (hg : goodWord w = true) : w ∈ gw := List.mem_filter.mpr ⟨List.mem_of_getElem? h, hg⟩
theorem gw_good {w : Cond} (h : w ∈ gw) : goodWord w = true := (List.mem_filter.mp h).2
theorem gw_in {w : Cond} (h : w ∈ gw) : w ∈ lw_tbl := (List.mem_filter.mp h).1
theorem gw_self {c : Cond} (h : c ∈ gw) : GoodIn gw (c :: gw) := fun w hw => (List.mem_cons.mp hw).elim (fun e => by rw [e]; exact ⟨h, good_of_word (gw_good h)⟩) (fun h2 => ⟨h2, good_of_word (gw_good h2)⟩)
theorem gd_app {a b : List Cond} (ha : ∀ w ∈ a, w ∈ gw) (hb : GoodIn gw b) : GoodIn gw (a ++ b) := fun w hw => (List.mem_append.mp hw).elim (fun h => ⟨ha w h, good_of_word (gw_good (ha w h))⟩) (hb w)
theorem gd_V {own Cn : String} {idx : Nat} {y : MethodName} {c : Cond} (h1 : Cond.methodLink own idx y ∈ gw) (h2 : Cond.instanceMethod y ∈ gw) (h3 : Cond.selects Cn y y ∈ gw) (h4 : Cond.initialized Cn ∈ gw) (h5 : c ∈ gw) : GoodIn gw (wsV own idx Cn y (c :: gw)) :=
  gd_app (fun w hw => by
    rcases List.mem_cons.mp hw with e | hw
    · rw [e]; exact h1
    rcases List.mem_cons.mp hw with e | hw
    · rw [e]; exact h2
    rcases List.mem_cons.mp hw with e | hw
    · rw [e]; exact h3
    rcases List.mem_cons.mp hw with e | hw
    · rw [e]; exact h4
    cases hw) (gw_self h5)
theorem gd_S {own : String} {idx : Nat} {y : MethodName} {c : Cond} (h1 : Cond.methodLink own idx y ∈ gw) (h2 : Cond.static y ∈ gw) (h4 : Cond.initialized own ∈ gw) (h5 : c ∈ gw) : GoodIn gw (wsS own idx y (c :: gw)) :=
  gd_app (fun w hw => by
    rcases List.mem_cons.mp hw with e | hw
    · rw [e]; exact h1
    rcases List.mem_cons.mp hw with e | hw
    · rw [e]; exact h2
    rcases List.mem_cons.mp hw with e | hw
    · rw [e]; exact h4
    cases hw) (gw_self h5)
/-- links to private members of nest mates -/
def nwT : List (String × Nat × MethodName × String) := [("PledgeMonitor", 9, ⟨"PledgeMonitor$Text", "<init>", "()V"⟩, "PledgeMonitor"), ("PledgeMonitor$Agreement", 21, ⟨"PledgeMonitor$Clause", "<init>", "()V"⟩, "PledgeMonitor"), ("PledgeMonitor", 36, ⟨"PledgeMonitor$State", "<init>", "()V"⟩, "PledgeMonitor"), ("PledgeMonitor$State", 17, ⟨"PledgeMonitor$Terms", "<init>", "()V"⟩, "PledgeMonitor"), ("PledgeMonitor$History", 24, ⟨"PledgeMonitor$State", "<init>", "()V"⟩, "PledgeMonitor"), ("PledgeMonitor$Search", 11, ⟨"PledgeMonitor$Runner", "<init>", "()V"⟩, "PledgeMonitor"), ("PledgeMonitor$Search", 30, ⟨"PledgeMonitor$State", "<init>", "()V"⟩, "PledgeMonitor"), ("PledgeMonitor", 163, ⟨"PledgeMonitor$Search", "firstCourse", "(LPledgeMonitor$Agreement;LPledgeMonitor$State;II)I"⟩, "PledgeMonitor"), ("PledgeMonitor", 166, ⟨"PledgeMonitor$Search", "changes", "(LPledgeMonitor$Agreement;LPledgeMonitor$State;LPledgeMonitor$State;II)Z"⟩, "PledgeMonitor")]
def aoT : List String := ["PledgeMonitor$Clause", "PledgeMonitor$State"]
abbrev zbPm_init : ByteArray := prog_1_method_1_code
def zyPm_init : MethodName := ⟨"PledgeMonitor", "<init>", "()V"⟩
abbrev zbPm_type : ByteArray := prog_1_method_2_code
def zyPm_type : MethodName := ⟨"PledgeMonitor", "type", "(J)Z"⟩
abbrev zbPm_erase : ByteArray := prog_1_method_3_code
def zyPm_erase : MethodName := ⟨"PledgeMonitor", "erase", "()I"⟩
abbrev zbPm_free : ByteArray := prog_1_method_4_code
def zyPm_free : MethodName := ⟨"PledgeMonitor", "free", "(I)Z"⟩
abbrev zbPm_begin : ByteArray := prog_1_method_5_code
def zyPm_begin : MethodName := ⟨"PledgeMonitor", "begin", "()I"⟩
abbrev zbPm_stop : ByteArray := prog_1_method_6_code
def zyPm_stop : MethodName := ⟨"PledgeMonitor", "stop", "()Z"⟩
abbrev zbPm_fault : ByteArray := prog_1_method_7_code
def zyPm_fault : MethodName := ⟨"PledgeMonitor", "fault", "()I"⟩
abbrev zbPm_event : ByteArray := prog_1_method_8_code
def zyPm_event : MethodName := ⟨"PledgeMonitor", "event", "(II)I"⟩
abbrev zbPm_nextDay : ByteArray := prog_1_method_9_code
def zyPm_nextDay : MethodName := ⟨"PledgeMonitor", "nextDay", "()I"⟩
abbrev zbPm_undo : ByteArray := prog_1_method_10_code
def zyPm_undo : MethodName := ⟨"PledgeMonitor", "undo", "()Z"⟩
abbrev zbPm_today : ByteArray := prog_1_method_11_code
def zyPm_today : MethodName := ⟨"PledgeMonitor", "today", "()I"⟩
abbrev zbPm_duty : ByteArray := prog_1_method_12_code
def zyPm_duty : MethodName := ⟨"PledgeMonitor", "duty", "(I)I"⟩
abbrev zbPm_count : ByteArray := prog_1_method_13_code
def zyPm_count : MethodName := ⟨"PledgeMonitor", "count", "(I)I"⟩
abbrev zbPm_breaches : ByteArray := prog_1_method_14_code
def zyPm_breaches : MethodName := ⟨"PledgeMonitor", "breaches", "(I)I"⟩
abbrev zbPm_may : ByteArray := prog_1_method_15_code
def zyPm_may : MethodName := ⟨"PledgeMonitor", "may", "(II)I"⟩
abbrev zbPm_owed : ByteArray := prog_1_method_16_code
def zyPm_owed : MethodName := ⟨"PledgeMonitor", "owed", "(II)I"⟩
abbrev zbPm_course : ByteArray := prog_1_method_17_code
def zyPm_course : MethodName := ⟨"PledgeMonitor", "course", "(II)I"⟩
abbrev zbPm_threat : ByteArray := prog_1_method_18_code
def zyPm_threat : MethodName := ⟨"PledgeMonitor", "threat", "(II)I"⟩
abbrev zbPm_isParty : ByteArray := prog_1_method_19_code
def zyPm_isParty : MethodName := ⟨"PledgeMonitor", "isParty", "(I)Z"⟩
abbrev zbPm_isKind : ByteArray := prog_1_method_20_code
def zyPm_isKind : MethodName := ⟨"PledgeMonitor", "isKind", "(I)Z"⟩
abbrev zbPm_canSearch : ByteArray := prog_1_method_21_code
def zyPm_canSearch : MethodName := ⟨"PledgeMonitor", "canSearch", "(II)Z"⟩
abbrev zbPm_moveToTrial : ByteArray := prog_1_method_22_code
def zyPm_moveToTrial : MethodName := ⟨"PledgeMonitor", "moveToTrial", "()V"⟩
abbrev zbMo_init : ByteArray := prog_11_method_1_code
def zyMo_init : MethodName := ⟨"PledgeMonitorModel", "<init>", "()V"⟩
abbrev zbMo_thrown : ByteArray := prog_11_method_2_code
def zyMo_thrown : MethodName := ⟨"PledgeMonitorModel", "thrown", "()I"⟩
abbrev zbMo_type : ByteArray := prog_11_method_3_code
def zyMo_type : MethodName := ⟨"PledgeMonitorModel", "type", "(J)Z"⟩
abbrev zbMo_erase : ByteArray := prog_11_method_4_code
def zyMo_erase : MethodName := ⟨"PledgeMonitorModel", "erase", "()I"⟩
abbrev zbMo_free : ByteArray := prog_11_method_5_code
def zyMo_free : MethodName := ⟨"PledgeMonitorModel", "free", "(I)Z"⟩
abbrev zbMo_charAt : ByteArray := prog_11_method_6_code
def zyMo_charAt : MethodName := ⟨"PledgeMonitorModel", "charAt", "(I)I"⟩
abbrev zbMo_party : ByteArray := prog_11_method_7_code
def zyMo_party : MethodName := ⟨"PledgeMonitorModel", "party", "(I)I"⟩
abbrev zbMo_kind : ByteArray := prog_11_method_8_code
def zyMo_kind : MethodName := ⟨"PledgeMonitorModel", "kind", "(I)I"⟩
abbrev zbMo_digit : ByteArray := prog_11_method_9_code
def zyMo_digit : MethodName := ⟨"PledgeMonitorModel", "digit", "(I)I"⟩
abbrev zbMo_readTrigger : ByteArray := prog_11_method_10_code
def zyMo_readTrigger : MethodName := ⟨"PledgeMonitorModel", "readTrigger", "(II)I"⟩
abbrev zbMo_overPair : ByteArray := prog_11_method_11_code
def zyMo_overPair : MethodName := ⟨"PledgeMonitorModel", "overPair", "(I)I"⟩
abbrev zbMo_readBound : ByteArray := prog_11_method_12_code
def zyMo_readBound : MethodName := ⟨"PledgeMonitorModel", "readBound", "(II)I"⟩
abbrev zbMo_readAction : ByteArray := prog_11_method_13_code
def zyMo_readAction : MethodName := ⟨"PledgeMonitorModel", "readAction", "(II)I"⟩
abbrev zbMo_readClause : ByteArray := prog_11_method_14_code
def zyMo_readClause : MethodName := ⟨"PledgeMonitorModel", "readClause", "(II)I"⟩
abbrev zbMo_readAll : ByteArray := prog_11_method_15_code
def zyMo_readAll : MethodName := ⟨"PledgeMonitorModel", "readAll", "(I)I"⟩
abbrev zbMo_refersWell : ByteArray := prog_11_method_16_code
def zyMo_refersWell : MethodName := ⟨"PledgeMonitorModel", "refersWell", "(III)Z"⟩
abbrev zbMo_goesRound : ByteArray := prog_11_method_17_code
def zyMo_goesRound : MethodName := ⟨"PledgeMonitorModel", "goesRound", "(II)Z"⟩
abbrev zbMo_faultOf : ByteArray := prog_11_method_18_code
def zyMo_faultOf : MethodName := ⟨"PledgeMonitorModel", "faultOf", "(II)I"⟩
abbrev zbMo_copy : ByteArray := prog_11_method_19_code
def zyMo_copy : MethodName := ⟨"PledgeMonitorModel", "copy", "(II)V"⟩
abbrev zbMo_dayAfter : ByteArray := prog_11_method_20_code
def zyMo_dayAfter : MethodName := ⟨"PledgeMonitorModel", "dayAfter", "(II)I"⟩
abbrev zbMo_put : ByteArray := prog_11_method_21_code
def zyMo_put : MethodName := ⟨"PledgeMonitorModel", "put", "(IIII)V"⟩
abbrev zbMo_takeOut : ByteArray := prog_11_method_22_code
def zyMo_takeOut : MethodName := ⟨"PledgeMonitorModel", "takeOut", "(III)V"⟩
abbrev zbMo_clauseAt : ByteArray := prog_11_method_23_code
def zyMo_clauseAt : MethodName := ⟨"PledgeMonitorModel", "clauseAt", "(III)I"⟩
abbrev zbMo_dayAt : ByteArray := prog_11_method_24_code
def zyMo_dayAt : MethodName := ⟨"PledgeMonitorModel", "dayAt", "(III)I"⟩
abbrev zbMo_isOf : ByteArray := prog_11_method_25_code
def zyMo_isOf : MethodName := ⟨"PledgeMonitorModel", "isOf", "(III)Z"⟩
abbrev zbMo_first : ByteArray := prog_11_method_26_code
def zyMo_first : MethodName := ⟨"PledgeMonitorModel", "first", "(IIII)I"⟩
abbrev zbMo_await : ByteArray := prog_11_method_27_code
def zyMo_await : MethodName := ⟨"PledgeMonitorModel", "await", "(III)V"⟩
abbrev zbMo_breach : ByteArray := prog_11_method_28_code
def zyMo_breach : MethodName := ⟨"PledgeMonitorModel", "breach", "(II)V"⟩
abbrev zbMo_act : ByteArray := prog_11_method_29_code
def zyMo_act : MethodName := ⟨"PledgeMonitorModel", "act", "(II)V"⟩
abbrev zbMo_run : ByteArray := prog_11_method_30_code
def zyMo_run : MethodName := ⟨"PledgeMonitorModel", "run", "(I)V"⟩
abbrev zbMo_start : ByteArray := prog_11_method_31_code
def zyMo_start : MethodName := ⟨"PledgeMonitorModel", "start", "()V"⟩
abbrev zbMo_eventIn : ByteArray := prog_11_method_32_code
def zyMo_eventIn : MethodName := ⟨"PledgeMonitorModel", "eventIn", "(III)V"⟩
abbrev zbMo_passOver : ByteArray := prog_11_method_33_code
def zyMo_passOver : MethodName := ⟨"PledgeMonitorModel", "passOver", "(II)V"⟩
abbrev zbMo_endIn : ByteArray := prog_11_method_34_code
def zyMo_endIn : MethodName := ⟨"PledgeMonitorModel", "endIn", "(I)V"⟩
abbrev zbMo_begin : ByteArray := prog_11_method_35_code
def zyMo_begin : MethodName := ⟨"PledgeMonitorModel", "begin", "()I"⟩
abbrev zbMo_stop : ByteArray := prog_11_method_36_code
def zyMo_stop : MethodName := ⟨"PledgeMonitorModel", "stop", "()Z"⟩
abbrev zbMo_fault : ByteArray := prog_11_method_37_code
def zyMo_fault : MethodName := ⟨"PledgeMonitorModel", "fault", "()I"⟩
abbrev zbMo_settle : ByteArray := prog_11_method_38_code
def zyMo_settle : MethodName := ⟨"PledgeMonitorModel", "settle", "()I"⟩
abbrev zbMo_isParty : ByteArray := prog_11_method_39_code
def zyMo_isParty : MethodName := ⟨"PledgeMonitorModel", "isParty", "(I)Z"⟩
abbrev zbMo_isKind : ByteArray := prog_11_method_40_code
def zyMo_isKind : MethodName := ⟨"PledgeMonitorModel", "isKind", "(I)Z"⟩
abbrev zbMo_event : ByteArray := prog_11_method_41_code
def zyMo_event : MethodName := ⟨"PledgeMonitorModel", "event", "(II)I"⟩
abbrev zbMo_nextDay : ByteArray := prog_11_method_42_code
def zyMo_nextDay : MethodName := ⟨"PledgeMonitorModel", "nextDay", "()I"⟩
abbrev zbMo_undo : ByteArray := prog_11_method_43_code
def zyMo_undo : MethodName := ⟨"PledgeMonitorModel", "undo", "()Z"⟩
abbrev zbMo_today : ByteArray := prog_11_method_44_code
def zyMo_today : MethodName := ⟨"PledgeMonitorModel", "today", "()I"⟩
abbrev zbMo_duty : ByteArray := prog_11_method_45_code
def zyMo_duty : MethodName := ⟨"PledgeMonitorModel", "duty", "(I)I"⟩
abbrev zbMo_count : ByteArray := prog_11_method_46_code
def zyMo_count : MethodName := ⟨"PledgeMonitorModel", "count", "(I)I"⟩
abbrev zbMo_breaches : ByteArray := prog_11_method_47_code
def zyMo_breaches : MethodName := ⟨"PledgeMonitorModel", "breaches", "(I)I"⟩
abbrev zbMo_may : ByteArray := prog_11_method_48_code
def zyMo_may : MethodName := ⟨"PledgeMonitorModel", "may", "(II)I"⟩
abbrev zbMo_owed : ByteArray := prog_11_method_49_code
def zyMo_owed : MethodName := ⟨"PledgeMonitorModel", "owed", "(II)I"⟩
abbrev zbMo_goes : ByteArray := prog_11_method_50_code
def zyMo_goes : MethodName := ⟨"PledgeMonitorModel", "goes", "(IIII)Z"⟩
abbrev zbMo_hasOne : ByteArray := prog_11_method_51_code
def zyMo_hasOne : MethodName := ⟨"PledgeMonitorModel", "hasOne", "(III)Z"⟩
abbrev zbMo_firstCourse : ByteArray := prog_11_method_52_code
def zyMo_firstCourse : MethodName := ⟨"PledgeMonitorModel", "firstCourse", "(III)I"⟩
abbrev zbMo_askCode : ByteArray := prog_11_method_53_code
def zyMo_askCode : MethodName := ⟨"PledgeMonitorModel", "askCode", "(II)I"⟩
abbrev zbMo_course : ByteArray := prog_11_method_54_code
def zyMo_course : MethodName := ⟨"PledgeMonitorModel", "course", "(II)I"⟩
abbrev zbMo_threat : ByteArray := prog_11_method_55_code
def zyMo_threat : MethodName := ⟨"PledgeMonitorModel", "threat", "(II)I"⟩
abbrev zbAg_init : ByteArray := prog_2_method_1_code
def zyAg_init : MethodName := ⟨"PledgeMonitor$Agreement", "<init>", "()V"⟩
abbrev zbAg_find : ByteArray := prog_2_method_2_code
def zyAg_find : MethodName := ⟨"PledgeMonitor$Agreement", "find", "(LPledgeMonitor$Terms;II)I"⟩
abbrev zbAg_isTouchedBy : ByteArray := prog_2_method_3_code
def zyAg_isTouchedBy : MethodName := ⟨"PledgeMonitor$Agreement", "isTouchedBy", "(LPledgeMonitor$State;II)Z"⟩
abbrev zbAg_hasDutyDue : ByteArray := prog_2_method_4_code
def zyAg_hasDutyDue : MethodName := ⟨"PledgeMonitor$Agreement", "hasDutyDue", "(LPledgeMonitor$State;I)Z"⟩
abbrev zbAg_faultOfReferences : ByteArray := prog_2_method_5_code
def zyAg_faultOfReferences : MethodName := ⟨"PledgeMonitor$Agreement", "faultOfReferences", "()I"⟩
abbrev zbAg_refersRightly : ByteArray := prog_2_method_6_code
def zyAg_refersRightly : MethodName := ⟨"PledgeMonitor$Agreement", "refersRightly", "(LPledgeMonitor$Clause;)Z"⟩
abbrev zbAg_liesOnRound : ByteArray := prog_2_method_7_code
def zyAg_liesOnRound : MethodName := ⟨"PledgeMonitor$Agreement", "liesOnRound", "(I)Z"⟩
abbrev zbCl_init : ByteArray := prog_3_method_1_code
def zyCl_init : MethodName := ⟨"PledgeMonitor$Clause", "<init>", "()V"⟩
abbrev zbCl_isOnEvent : ByteArray := prog_3_method_2_code
def zyCl_isOnEvent : MethodName := ⟨"PledgeMonitor$Clause", "isOnEvent", "(II)Z"⟩
abbrev zbCl_isOn : ByteArray := prog_3_method_3_code
def zyCl_isOn : MethodName := ⟨"PledgeMonitor$Clause", "isOn", "(II)Z"⟩
abbrev zbCl_isFor : ByteArray := prog_3_method_4_code
def zyCl_isFor : MethodName := ⟨"PledgeMonitor$Clause", "isFor", "(II)Z"⟩
abbrev zbCl_holds : ByteArray := prog_3_method_5_code
def zyCl_holds : MethodName := ⟨"PledgeMonitor$Clause", "holds", "(LPledgeMonitor$State;)Z"⟩
abbrev zbHi_init : ByteArray := prog_4_method_1_code
def zyHi_init : MethodName := ⟨"PledgeMonitor$History", "<init>", "()V"⟩
abbrev zbHi_keep : ByteArray := prog_4_method_2_code
def zyHi_keep : MethodName := ⟨"PledgeMonitor$History", "keep", "(LPledgeMonitor$State;)V"⟩
abbrev zbHi_giveBack : ByteArray := prog_4_method_3_code
def zyHi_giveBack : MethodName := ⟨"PledgeMonitor$History", "giveBack", "(LPledgeMonitor$State;)Z"⟩
abbrev zbHi_forget : ByteArray := prog_4_method_4_code
def zyHi_forget : MethodName := ⟨"PledgeMonitor$History", "forget", "()V"⟩
abbrev zbRu_init : ByteArray := prog_5_method_1_code
def zyRu_init : MethodName := ⟨"PledgeMonitor$Runner", "<init>", "()V"⟩
abbrev zbRu_start : ByteArray := prog_5_method_2_code
def zyRu_start : MethodName := ⟨"PledgeMonitor$Runner", "start", "(LPledgeMonitor$Agreement;LPledgeMonitor$State;)Z"⟩
abbrev zbRu_happen : ByteArray := prog_5_method_3_code
def zyRu_happen : MethodName := ⟨"PledgeMonitor$Runner", "happen", "(LPledgeMonitor$Agreement;LPledgeMonitor$State;II)I"⟩
abbrev zbRu_endDay : ByteArray := prog_5_method_4_code
def zyRu_endDay : MethodName := ⟨"PledgeMonitor$Runner", "endDay", "(LPledgeMonitor$Agreement;LPledgeMonitor$State;)I"⟩
abbrev zbRu_breachBans : ByteArray := prog_5_method_5_code
def zyRu_breachBans : MethodName := ⟨"PledgeMonitor$Runner", "breachBans", "(LPledgeMonitor$Agreement;LPledgeMonitor$State;II)I"⟩
abbrev zbRu_fulfilDuty : ByteArray := prog_5_method_6_code
def zyRu_fulfilDuty : MethodName := ⟨"PledgeMonitor$Runner", "fulfilDuty", "(LPledgeMonitor$Agreement;LPledgeMonitor$State;II)V"⟩
abbrev zbRu_awaitAllOn : ByteArray := prog_5_method_7_code
def zyRu_awaitAllOn : MethodName := ⟨"PledgeMonitor$Runner", "awaitAllOn", "(LPledgeMonitor$Agreement;III)V"⟩
abbrev zbRu_await : ByteArray := prog_5_method_8_code
def zyRu_await : MethodName := ⟨"PledgeMonitor$Runner", "await", "(I)V"⟩
abbrev zbRu_runWaiting : ByteArray := prog_5_method_9_code
def zyRu_runWaiting : MethodName := ⟨"PledgeMonitor$Runner", "runWaiting", "(LPledgeMonitor$Agreement;LPledgeMonitor$State;)Z"⟩
abbrev zbRu_act : ByteArray := prog_5_method_10_code
def zyRu_act : MethodName := ⟨"PledgeMonitor$Runner", "act", "(LPledgeMonitor$Clause;ILPledgeMonitor$State;)Z"⟩
abbrev zbRu_businessDay : ByteArray := prog_5_method_11_code
def zyRu_businessDay : MethodName := ⟨"PledgeMonitor$Runner", "businessDay", "(II)I"⟩
abbrev zbSe_init : ByteArray := prog_6_method_1_code
def zySe_init : MethodName := ⟨"PledgeMonitor$Search", "<init>", "()V"⟩
abbrev zbSe_firstCourse : ByteArray := prog_6_method_2_code
def zySe_firstCourse : MethodName := ⟨"PledgeMonitor$Search", "firstCourse", "(LPledgeMonitor$Agreement;LPledgeMonitor$State;II)I"⟩
abbrev zbSe_isKeptByEndOfDay : ByteArray := prog_6_method_3_code
def zySe_isKeptByEndOfDay : MethodName := ⟨"PledgeMonitor$Search", "isKeptByEndOfDay", "(LPledgeMonitor$Agreement;LPledgeMonitor$State;II)Z"⟩
abbrev zbSe_changes : ByteArray := prog_6_method_4_code
def zySe_changes : MethodName := ⟨"PledgeMonitor$Search", "changes", "(LPledgeMonitor$Agreement;LPledgeMonitor$State;LPledgeMonitor$State;II)Z"⟩
abbrev zbSt_init : ByteArray := prog_7_method_1_code
def zySt_init : MethodName := ⟨"PledgeMonitor$State", "<init>", "()V"⟩
abbrev zbSt_debtOf : ByteArray := prog_7_method_2_code
def zySt_debtOf : MethodName := ⟨"PledgeMonitor$State", "debtOf", "(II)I"⟩
abbrev zbSt_addDebt : ByteArray := prog_7_method_3_code
def zySt_addDebt : MethodName := ⟨"PledgeMonitor$State", "addDebt", "(III)Z"⟩
abbrev zbSt_clear : ByteArray := prog_7_method_4_code
def zySt_clear : MethodName := ⟨"PledgeMonitor$State", "clear", "()V"⟩
abbrev zbSt_copyFrom : ByteArray := prog_7_method_5_code
def zySt_copyFrom : MethodName := ⟨"PledgeMonitor$State", "copyFrom", "(LPledgeMonitor$State;)V"⟩
abbrev zbTe_init : ByteArray := prog_8_method_1_code
def zyTe_init : MethodName := ⟨"PledgeMonitor$Terms", "<init>", "()V"⟩
abbrev zbTe_clauseAt : ByteArray := prog_8_method_2_code
def zyTe_clauseAt : MethodName := ⟨"PledgeMonitor$Terms", "clauseAt", "(I)I"⟩
abbrev zbTe_dayAt : ByteArray := prog_8_method_3_code
def zyTe_dayAt : MethodName := ⟨"PledgeMonitor$Terms", "dayAt", "(I)I"⟩
abbrev zbTe_add : ByteArray := prog_8_method_4_code
def zyTe_add : MethodName := ⟨"PledgeMonitor$Terms", "add", "(II)Z"⟩
abbrev zbTe_remove : ByteArray := prog_8_method_5_code
def zyTe_remove : MethodName := ⟨"PledgeMonitor$Terms", "remove", "(II)V"⟩
abbrev zbTe_dropBefore : ByteArray := prog_8_method_6_code
def zyTe_dropBefore : MethodName := ⟨"PledgeMonitor$Terms", "dropBefore", "(I)V"⟩
abbrev zbTe_countUntil : ByteArray := prog_8_method_7_code
def zyTe_countUntil : MethodName := ⟨"PledgeMonitor$Terms", "countUntil", "(II)I"⟩
abbrev zbTe_copyFrom : ByteArray := prog_8_method_8_code
def zyTe_copyFrom : MethodName := ⟨"PledgeMonitor$Terms", "copyFrom", "(LPledgeMonitor$Terms;)V"⟩
abbrev zbTx_init : ByteArray := prog_9_method_1_code
def zyTx_init : MethodName := ⟨"PledgeMonitor$Text", "<init>", "()V"⟩
abbrev zbTx_put : ByteArray := prog_9_method_2_code
def zyTx_put : MethodName := ⟨"PledgeMonitor$Text", "put", "(J)Z"⟩
abbrev zbTx_characterOf : ByteArray := prog_9_method_3_code
def zyTx_characterOf : MethodName := ⟨"PledgeMonitor$Text", "characterOf", "(JI)I"⟩
abbrev zbTx_readInto : ByteArray := prog_9_method_4_code
def zyTx_readInto : MethodName := ⟨"PledgeMonitor$Text", "readInto", "(LPledgeMonitor$Agreement;)I"⟩
abbrev zbTx_readClause : ByteArray := prog_9_method_5_code
def zyTx_readClause : MethodName := ⟨"PledgeMonitor$Text", "readClause", "(LPledgeMonitor$Clause;)Z"⟩
abbrev zbTx_readTrigger : ByteArray := prog_9_method_6_code
def zyTx_readTrigger : MethodName := ⟨"PledgeMonitor$Text", "readTrigger", "(LPledgeMonitor$Clause;)Z"⟩
abbrev zbTx_readTriggerNumber : ByteArray := prog_9_method_7_code
def zyTx_readTriggerNumber : MethodName := ⟨"PledgeMonitor$Text", "readTriggerNumber", "(LPledgeMonitor$Clause;)Z"⟩
abbrev zbTx_readCondition : ByteArray := prog_9_method_8_code
def zyTx_readCondition : MethodName := ⟨"PledgeMonitor$Text", "readCondition", "(LPledgeMonitor$Clause;)Z"⟩
abbrev zbTx_readAction : ByteArray := prog_9_method_9_code
def zyTx_readAction : MethodName := ⟨"PledgeMonitor$Text", "readAction", "(LPledgeMonitor$Clause;)Z"⟩
abbrev zbTx_readTermSign : ByteArray := prog_9_method_10_code
def zyTx_readTermSign : MethodName := ⟨"PledgeMonitor$Text", "readTermSign", "(LPledgeMonitor$Clause;)Z"⟩
abbrev zbTx_readTwoParties : ByteArray := prog_9_method_11_code
def zyTx_readTwoParties : MethodName := ⟨"PledgeMonitor$Text", "readTwoParties", "()Z"⟩
abbrev zbTx_readPartyAndKind : ByteArray := prog_9_method_12_code
def zyTx_readPartyAndKind : MethodName := ⟨"PledgeMonitor$Text", "readPartyAndKind", "()Z"⟩
abbrev zbTx_readDigit : ByteArray := prog_9_method_13_code
def zyTx_readDigit : MethodName := ⟨"PledgeMonitor$Text", "readDigit", "()Z"⟩
abbrev zbTx_isNext : ByteArray := prog_9_method_14_code
def zyTx_isNext : MethodName := ⟨"PledgeMonitor$Text", "isNext", "(C)Z"⟩
abbrev zbTx_takes : ByteArray := prog_9_method_15_code
def zyTx_takes : MethodName := ⟨"PledgeMonitor$Text", "takes", "(C)Z"⟩
abbrev zbTx_takeParty : ByteArray := prog_9_method_16_code
def zyTx_takeParty : MethodName := ⟨"PledgeMonitor$Text", "takeParty", "()I"⟩
abbrev zbTx_takeKind : ByteArray := prog_9_method_17_code
def zyTx_takeKind : MethodName := ⟨"PledgeMonitor$Text", "takeKind", "()I"⟩
abbrev zbTx_takeDigit : ByteArray := prog_9_method_18_code
def zyTx_takeDigit : MethodName := ⟨"PledgeMonitor$Text", "takeDigit", "()I"⟩
abbrev zbTx_takeFrom : ByteArray := prog_9_method_19_code
def zyTx_takeFrom : MethodName := ⟨"PledgeMonitor$Text", "takeFrom", "(CI)I"⟩
abbrev zbLw_begin : ByteArray := method_3_code
def zyLw_begin : MethodName := ⟨"PledgeMonitorLaw", "begin", "(LPledgeMonitor;[J)I"⟩
abbrev zbLw_event : ByteArray := method_4_code
def zyLw_event : MethodName := ⟨"PledgeMonitorLaw", "event", "(LPledgeMonitor;II[J)I"⟩
abbrev zbLw_nextDay : ByteArray := method_5_code
def zyLw_nextDay : MethodName := ⟨"PledgeMonitorLaw", "nextDay", "(LPledgeMonitor;[J)I"⟩
abbrev zbLw_course : ByteArray := method_6_code
def zyLw_course : MethodName := ⟨"PledgeMonitorLaw", "course", "(LPledgeMonitor;II[J)I"⟩
abbrev zbLw_threat : ByteArray := method_7_code
def zyLw_threat : MethodName := ⟨"PledgeMonitorLaw", "threat", "(LPledgeMonitor;II[J)I"⟩
abbrev zbLw_law : ByteArray := code

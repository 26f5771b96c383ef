def RX0 : String := "LostMuseum$Graph"
def TX0 : u_T := fun k => match k with
  | 0 => ("LostMuseum$Graph", "plan", "LLostMuseum$Plan;", true)
  | 1 => ("LostMuseum$Graph", "state", "LLostMuseum$State;", true)
  | 2 => ("LostMuseum$Graph", "ahead", "[I", true)
  | 3 => ("LostMuseum$Graph", "behind", "[I", true)
  | 4 => ("LostMuseum$Graph", "likely", "[J", true)
  | 5 => ("LostMuseum$Graph", "ended", "[I", true)
  | 6 => ("LostMuseum$Graph", "fresh", "[I", true)
  | 7 => ("LostMuseum$Graph", "later", "[I", true)
  | 8 => ("LostMuseum$Graph", "many", "I", false)
  | _ => ("LostMuseum$Graph", "where", "I", false)
def tyX0 : Nat → FieldType := fun k => match k with
  | 0 => .object "LostMuseum$Plan"
  | 1 => .object "LostMuseum$State"
  | 2 => .array .int
  | 3 => .array .int
  | 4 => .array .long
  | 5 => .array .int
  | 6 => .array .int
  | 7 => .array .int
  | 8 => .int
  | _ => .int
theorem nmX0 : ∀ a, a < 10 → ∀ b, b < 10 → a ≠ b → (TX0 a).2.1 ≠ (TX0 b).2.1 := by decide +kernel
theorem tyX0_ok : ∀ k, k < 10 → parseFieldDescriptor (TX0 k).2.2.1 = some (tyX0 k) := by decide +kernel

def RX1 : String := "LostMuseum$Hours"
def TX1 : u_T := fun k => match k with
  | 0 => ("LostMuseum$Hours", "plan", "LLostMuseum$Plan;", true)
  | 1 => ("LostMuseum$Hours", "state", "LLostMuseum$State;", true)
  | _ => ("LostMuseum$Hours", "law", "LLostMuseum$Law;", true)
def tyX1 : Nat → FieldType := fun k => match k with
  | 0 => .object "LostMuseum$Plan"
  | 1 => .object "LostMuseum$State"
  | _ => .object "LostMuseum$Law"
theorem nmX1 : ∀ a, a < 3 → ∀ b, b < 3 → a ≠ b → (TX1 a).2.1 ≠ (TX1 b).2.1 := by decide +kernel
theorem tyX1_ok : ∀ k, k < 3 → parseFieldDescriptor (TX1 k).2.2.1 = some (tyX1 k) := by decide +kernel

def RX2 : String := "LostMuseum$Law"
def TX2 : u_T := fun k => match k with
  | 0 => ("LostMuseum$Law", "codes", "[I", true)
  | 1 => ("LostMuseum$Law", "drafted", "[I", true)
  | 2 => ("LostMuseum$Law", "stack", "[I", true)
  | 3 => ("LostMuseum$Law", "length", "I", false)
  | _ => ("LostMuseum$Law", "draftLength", "I", false)
def tyX2 : Nat → FieldType := fun k => match k with
  | 0 => .array .int
  | 1 => .array .int
  | 2 => .array .int
  | 3 => .int
  | _ => .int
theorem nmX2 : ∀ a, a < 5 → ∀ b, b < 5 → a ≠ b → (TX2 a).2.1 ≠ (TX2 b).2.1 := by decide +kernel
theorem tyX2_ok : ∀ k, k < 5 → parseFieldDescriptor (TX2 k).2.2.1 = some (tyX2 k) := by decide +kernel

def RX3 : String := "LostMuseum$Parting"
def TX3 : u_T := fun k => match k with
  | 0 => ("LostMuseum$Parting", "plan", "LLostMuseum$Plan;", true)
  | 1 => ("LostMuseum$Parting", "state", "LLostMuseum$State;", true)
  | 2 => ("LostMuseum$Parting", "queue", "[I", true)
  | 3 => ("LostMuseum$Parting", "via", "[I", true)
  | 4 => ("LostMuseum$Parting", "before", "[I", true)
  | _ => ("LostMuseum$Parting", "taken", "I", false)
def tyX3 : Nat → FieldType := fun k => match k with
  | 0 => .object "LostMuseum$Plan"
  | 1 => .object "LostMuseum$State"
  | 2 => .array .int
  | 3 => .array .int
  | 4 => .array .int
  | _ => .int
theorem nmX3 : ∀ a, a < 6 → ∀ b, b < 6 → a ≠ b → (TX3 a).2.1 ≠ (TX3 b).2.1 := by decide +kernel
theorem tyX3_ok : ∀ k, k < 6 → parseFieldDescriptor (TX3 k).2.2.1 = some (tyX3 k) := by decide +kernel

def RX4 : String := "LostMuseum$Plan"
def TX4 : u_T := fun k => match k with
  | 0 => ("LostMuseum$Plan", "rooms", "I", false)
  | 1 => ("LostMuseum$Plan", "doors", "I", false)
  | 2 => ("LostMuseum$Plan", "tours", "I", false)
  | 3 => ("LostMuseum$Plan", "exits", "I", false)
  | 4 => ("LostMuseum$Plan", "sees", "[I", true)
  | 5 => ("LostMuseum$Plan", "asleep", "[I", true)
  | 6 => ("LostMuseum$Plan", "leaving", "[I", true)
  | 7 => ("LostMuseum$Plan", "entering", "[I", true)
  | 8 => ("LostMuseum$Plan", "seeing", "[I", true)
  | 9 => ("LostMuseum$Plan", "from", "[I", true)
  | 10 => ("LostMuseum$Plan", "to", "[I", true)
  | 11 => ("LostMuseum$Plan", "opens", "[I", true)
  | 12 => ("LostMuseum$Plan", "shuts", "[I", true)
  | _ => ("LostMuseum$Plan", "stands", "[I", true)
def tyX4 : Nat → FieldType := fun k => match k with
  | 0 => .int
  | 1 => .int
  | 2 => .int
  | 3 => .int
  | 4 => .array .int
  | 5 => .array .int
  | 6 => .array .int
  | 7 => .array .int
  | 8 => .array .int
  | 9 => .array .int
  | 10 => .array .int
  | 11 => .array .int
  | 12 => .array .int
  | _ => .array .int
theorem nmX4 : ∀ a, a < 14 → ∀ b, b < 14 → a ≠ b → (TX4 a).2.1 ≠ (TX4 b).2.1 := by decide +kernel
theorem tyX4_ok : ∀ k, k < 14 → parseFieldDescriptor (TX4 k).2.2.1 = some (tyX4 k) := by decide +kernel

def RX5 : String := "LostMuseum$Reader"
def TX5 : u_T := fun k => match k with
  | 0 => ("LostMuseum$Reader", "text", "[B", true)
  | 1 => ("LostMuseum$Reader", "length", "I", false)
  | 2 => ("LostMuseum$Reader", "at", "I", false)
  | 3 => ("LostMuseum$Reader", "wordEnd", "I", false)
  | 4 => ("LostMuseum$Reader", "start", "I", false)
  | 5 => ("LostMuseum$Reader", "value", "I", false)
  | 6 => ("LostMuseum$Reader", "faultKind", "I", false)
  | _ => ("LostMuseum$Reader", "faultPlace", "I", false)
def tyX5 : Nat → FieldType := fun k => match k with
  | 0 => .array .byte
  | 1 => .int
  | 2 => .int
  | 3 => .int
  | 4 => .int
  | 5 => .int
  | 6 => .int
  | _ => .int
theorem nmX5 : ∀ a, a < 8 → ∀ b, b < 8 → a ≠ b → (TX5 a).2.1 ≠ (TX5 b).2.1 := by decide +kernel
theorem tyX5_ok : ∀ k, k < 8 → parseFieldDescriptor (TX5 k).2.2.1 = some (tyX5 k) := by decide +kernel

def RX6 : String := "LostMuseum$Sleeper"
def TX6 : u_T := fun k => match k with
  | 0 => ("LostMuseum$Sleeper", "plan", "LLostMuseum$Plan;", true)
  | 1 => ("LostMuseum$Sleeper", "state", "LLostMuseum$State;", true)
  | 2 => ("LostMuseum$Sleeper", "hours", "LLostMuseum$Hours;", true)
  | 3 => ("LostMuseum$Sleeper", "known", "[I", true)
  | 4 => ("LostMuseum$Sleeper", "open", "[I", true)
  | 5 => ("LostMuseum$Sleeper", "seed", "I", false)
  | 6 => ("LostMuseum$Sleeper", "stands", "I", false)
  | 7 => ("LostMuseum$Sleeper", "been", "I", false)
  | _ => ("LostMuseum$Sleeper", "passed", "I", false)
def tyX6 : Nat → FieldType := fun k => match k with
  | 0 => .object "LostMuseum$Plan"
  | 1 => .object "LostMuseum$State"
  | 2 => .object "LostMuseum$Hours"
  | 3 => .array .int
  | 4 => .array .int
  | 5 => .int
  | 6 => .int
  | 7 => .int
  | _ => .int
theorem nmX6 : ∀ a, a < 9 → ∀ b, b < 9 → a ≠ b → (TX6 a).2.1 ≠ (TX6 b).2.1 := by decide +kernel
theorem tyX6_ok : ∀ k, k < 9 → parseFieldDescriptor (TX6 k).2.2.1 = some (tyX6 k) := by decide +kernel

def RX7 : String := "LostMuseum$State"
def TX7 : u_T := fun k => match k with
  | 0 => ("LostMuseum$State", "hour", "I", false)
  | 1 => ("LostMuseum$State", "met", "I", false)
  | 2 => ("LostMuseum$State", "barred", "I", false)
  | 3 => ("LostMuseum$State", "used", "[I", true)
  | _ => ("LostMuseum$State", "stands", "[I", true)
def tyX7 : Nat → FieldType := fun k => match k with
  | 0 => .int
  | 1 => .int
  | 2 => .int
  | 3 => .array .int
  | _ => .array .int
theorem nmX7 : ∀ a, a < 5 → ∀ b, b < 5 → a ≠ b → (TX7 a).2.1 ≠ (TX7 b).2.1 := by decide +kernel
theorem tyX7_ok : ∀ k, k < 5 → parseFieldDescriptor (TX7 k).2.2.1 = some (tyX7 k) := by decide +kernel

def RX8 : String := "LostMuseum$Timeline"
def TX8 : u_T := fun k => match k with
  | 0 => ("LostMuseum$Timeline", "now", "LLostMuseum$State;", true)
  | 1 => ("LostMuseum$Timeline", "before", "[LLostMuseum$State;", true)
  | _ => ("LostMuseum$Timeline", "works", "I", false)
def tyX8 : Nat → FieldType := fun k => match k with
  | 0 => .object "LostMuseum$State"
  | 1 => .array (.object "LostMuseum$State")
  | _ => .int
theorem nmX8 : ∀ a, a < 3 → ∀ b, b < 3 → a ≠ b → (TX8 a).2.1 ≠ (TX8 b).2.1 := by decide +kernel
theorem tyX8_ok : ∀ k, k < 3 → parseFieldDescriptor (TX8 k).2.2.1 = some (tyX8 k) := by decide +kernel

def RX9 : String := "LostMuseum$Walk"
def TX9 : u_T := fun k => match k with
  | 0 => ("LostMuseum$Walk", "plan", "LLostMuseum$Plan;", true)
  | 1 => ("LostMuseum$Walk", "graph", "LLostMuseum$Graph;", true)
  | 2 => ("LostMuseum$Walk", "lines", "[I", true)
  | 3 => ("LostMuseum$Walk", "drafted", "[I", true)
  | 4 => ("LostMuseum$Walk", "wrong", "[I", true)
  | 5 => ("LostMuseum$Walk", "beliefs", "[Z", true)
  | 6 => ("LostMuseum$Walk", "later", "[Z", true)
  | _ => ("LostMuseum$Walk", "length", "I", false)
def tyX9 : Nat → FieldType := fun k => match k with
  | 0 => .object "LostMuseum$Plan"
  | 1 => .object "LostMuseum$Graph"
  | 2 => .array .int
  | 3 => .array .int
  | 4 => .array .int
  | 5 => .array .boolean
  | 6 => .array .boolean
  | _ => .int
theorem nmX9 : ∀ a, a < 8 → ∀ b, b < 8 → a ≠ b → (TX9 a).2.1 ≠ (TX9 b).2.1 := by decide +kernel
theorem tyX9_ok : ∀ k, k < 8 → parseFieldDescriptor (TX9 k).2.2.1 = some (tyX9 k) := by decide +kernel

def RX10 : String := "LostMuseum$Work"
def TX10 : u_T := fun k => match k with
  | 0 => ("LostMuseum$Work", "kinds", "[I", true)
  | 1 => ("LostMuseum$Work", "firsts", "[I", true)
  | 2 => ("LostMuseum$Work", "seconds", "[I", true)
  | 3 => ("LostMuseum$Work", "left", "[I", true)
  | 4 => ("LostMuseum$Work", "length", "I", false)
  | 5 => ("LostMuseum$Work", "doneSteps", "I", false)
  | _ => ("LostMuseum$Work", "refusedSteps", "I", false)
def tyX10 : Nat → FieldType := fun k => match k with
  | 0 => .array .int
  | 1 => .array .int
  | 2 => .array .int
  | 3 => .array .int
  | 4 => .int
  | 5 => .int
  | _ => .int
theorem nmX10 : ∀ a, a < 7 → ∀ b, b < 7 → a ≠ b → (TX10 a).2.1 ≠ (TX10 b).2.1 := by decide +kernel
theorem tyX10_ok : ∀ k, k < 7 → parseFieldDescriptor (TX10 k).2.2.1 = some (tyX10 k) := by decide +kernel

def RX11 : String := "LostMuseum"
def TX11 : u_T := fun k => match k with
  | 0 => ("LostMuseum", "tape", "[B", true)
  | 1 => ("LostMuseum", "tapeBytes", "I", false)
  | 2 => ("LostMuseum", "faultPlace", "I", false)
  | 3 => ("LostMuseum", "notFound", "I", false)
  | 4 => ("LostMuseum", "illegal", "I", false)
  | 5 => ("LostMuseum", "refused", "I", false)
  | 6 => ("LostMuseum", "reader", "LLostMuseum$Reader;", true)
  | 7 => ("LostMuseum", "plan", "LLostMuseum$Plan;", true)
  | 8 => ("LostMuseum", "draft", "LLostMuseum$Plan;", true)
  | 9 => ("LostMuseum", "rule", "LLostMuseum$Law;", true)
  | 10 => ("LostMuseum", "orders", "LLostMuseum$Work;", true)
  | 11 => ("LostMuseum", "seen", "LLostMuseum$Walk;", true)
  | 12 => ("LostMuseum", "past", "LLostMuseum$Timeline;", true)
  | 13 => ("LostMuseum", "images", "[LLostMuseum$Timeline;", true)
  | 14 => ("LostMuseum", "imageCount", "I", false)
  | 15 => ("LostMuseum", "now", "LLostMuseum$State;", true)
  | 16 => ("LostMuseum", "hours", "LLostMuseum$Hours;", true)
  | 17 => ("LostMuseum", "graph", "LLostMuseum$Graph;", true)
  | 18 => ("LostMuseum", "parting", "LLostMuseum$Parting;", true)
  | _ => ("LostMuseum", "sleeper", "LLostMuseum$Sleeper;", true)
def tyX11 : Nat → FieldType := fun k => match k with
  | 0 => .array .byte
  | 1 => .int
  | 2 => .int
  | 3 => .int
  | 4 => .int
  | 5 => .int
  | 6 => .object "LostMuseum$Reader"
  | 7 => .object "LostMuseum$Plan"
  | 8 => .object "LostMuseum$Plan"
  | 9 => .object "LostMuseum$Law"
  | 10 => .object "LostMuseum$Work"
  | 11 => .object "LostMuseum$Walk"
  | 12 => .object "LostMuseum$Timeline"
  | 13 => .array (.object "LostMuseum$Timeline")
  | 14 => .int
  | 15 => .object "LostMuseum$State"
  | 16 => .object "LostMuseum$Hours"
  | 17 => .object "LostMuseum$Graph"
  | 18 => .object "LostMuseum$Parting"
  | _ => .object "LostMuseum$Sleeper"
theorem nmX11 : ∀ a, a < 20 → ∀ b, b < 20 → a ≠ b → (TX11 a).2.1 ≠ (TX11 b).2.1 := by decide +kernel
theorem tyX11_ok : ∀ k, k < 20 → parseFieldDescriptor (TX11 k).2.2.1 = some (tyX11 k) := by decide +kernel

def RX12 : String := "LostMuseumModel"
def TX12 : u_T := fun k => match k with
  | 0 => ("LostMuseumModel", "thrown", "I", false)
  | 1 => ("LostMuseumModel", "tape", "I", false)
  | 2 => ("LostMuseumModel", "size", "I", false)
  | 3 => ("LostMuseumModel", "place", "I", false)
  | 4 => ("LostMuseumModel", "at", "I", false)
  | 5 => ("LostMuseumModel", "fault", "I", false)
  | 6 => ("LostMuseumModel", "faultAt", "I", false)
  | 7 => ("LostMuseumModel", "clauses", "I", false)
  | 8 => ("LostMuseumModel", "open", "I", false)
  | 9 => ("LostMuseumModel", "fed", "[I", true)
  | 10 => ("LostMuseumModel", "refused", "[I", true)
  | 11 => ("LostMuseumModel", "readTold", "[I", true)
  | 12 => ("LostMuseumModel", "told", "[I", true)
  | 13 => ("LostMuseumModel", "readSees", "[I", true)
  | 14 => ("LostMuseumModel", "sees", "[I", true)
  | 15 => ("LostMuseumModel", "readSleeps", "[I", true)
  | 16 => ("LostMuseumModel", "sleeps", "[I", true)
  | 17 => ("LostMuseumModel", "readTour", "[I", true)
  | 18 => ("LostMuseumModel", "tour", "[I", true)
  | 19 => ("LostMuseumModel", "readDoor", "[[I", true)
  | 20 => ("LostMuseumModel", "door", "[[I", true)
  | 21 => ("LostMuseumModel", "lawMany", "I", false)
  | 22 => ("LostMuseumModel", "readLawMany", "I", false)
  | 23 => ("LostMuseumModel", "law", "[[I", true)
  | 24 => ("LostMuseumModel", "readLaw", "[[I", true)
  | 25 => ("LostMuseumModel", "stack", "[I", true)
  | 26 => ("LostMuseumModel", "known", "[I", true)
  | 27 => ("LostMuseumModel", "walk", "[I", true)
  | 28 => ("LostMuseumModel", "readWalk", "[I", true)
  | 29 => ("LostMuseumModel", "step", "[[I", true)
  | 30 => ("LostMuseumModel", "steps", "I", false)
  | 31 => ("LostMuseumModel", "now", "[I", true)
  | 32 => ("LostMuseumModel", "before", "[[I", true)
  | 33 => ("LostMuseumModel", "kept", "[[I", true)
  | 34 => ("LostMuseumModel", "far", "[[I", true)
  | 35 => ("LostMuseumModel", "lines", "I", false)
  | 36 => ("LostMuseumModel", "works", "I", false)
  | 37 => ("LostMuseumModel", "refusedSteps", "I", false)
  | 38 => ("LostMuseumModel", "images", "I", false)
  | 39 => ("LostMuseumModel", "spot", "I", false)
  | 40 => ("LostMuseumModel", "begun", "I", false)
  | 41 => ("LostMuseumModel", "doneSteps", "I", false)
  | 42 => ("LostMuseumModel", "slipsFrom", "[[I", true)
  | 43 => ("LostMuseumModel", "firstFrom", "[[I", true)
  | 44 => ("LostMuseumModel", "rounds", "[[I", true)
  | 45 => ("LostMuseumModel", "flow", "[I", true)
  | 46 => ("LostMuseumModel", "seenRooms", "I", false)
  | 47 => ("LostMuseumModel", "likely", "[J", true)
  | 48 => ("LostMuseumModel", "likelier", "[J", true)
  | 49 => ("LostMuseumModel", "beenIn", "I", false)
  | _ => ("LostMuseumModel", "passed", "I", false)
def tyX12 : Nat → FieldType := fun k => match k with
  | 0 => .int
  | 1 => .int
  | 2 => .int
  | 3 => .int
  | 4 => .int
  | 5 => .int
  | 6 => .int
  | 7 => .int
  | 8 => .int
  | 9 => .array .int
  | 10 => .array .int
  | 11 => .array .int
  | 12 => .array .int
  | 13 => .array .int
  | 14 => .array .int
  | 15 => .array .int
  | 16 => .array .int
  | 17 => .array .int
  | 18 => .array .int
  | 19 => .array (.array .int)
  | 20 => .array (.array .int)
  | 21 => .int
  | 22 => .int
  | 23 => .array (.array .int)
  | 24 => .array (.array .int)
  | 25 => .array .int
  | 26 => .array .int
  | 27 => .array .int
  | 28 => .array .int
  | 29 => .array (.array .int)
  | 30 => .int
  | 31 => .array .int
  | 32 => .array (.array .int)
  | 33 => .array (.array .int)
  | 34 => .array (.array .int)
  | 35 => .int
  | 36 => .int
  | 37 => .int
  | 38 => .int
  | 39 => .int
  | 40 => .int
  | 41 => .int
  | 42 => .array (.array .int)
  | 43 => .array (.array .int)
  | 44 => .array (.array .int)
  | 45 => .array .int
  | 46 => .int
  | 47 => .array .long
  | 48 => .array .long
  | 49 => .int
  | _ => .int
theorem nmX12 : ∀ a, a < 51 → ∀ b, b < 51 → a ≠ b → (TX12 a).2.1 ≠ (TX12 b).2.1 := by decide +kernel
theorem tyX12_ok : ∀ k, k < 51 → parseFieldDescriptor (TX12 k).2.2.1 = some (tyX12 k) := by decide +kernel

abbrev cX0_init : ByteArray := prog_2_method_1_code
def yX0_init : MethodName := ⟨RX0, "<init>", "(LLostMuseum$Plan;LLostMuseum$State;)V"⟩

abbrev cX0_renew : ByteArray := prog_2_method_2_code
def yX0_renew : MethodName := ⟨RX0, "renew", "()V"⟩

abbrev cX0_aheadOf : ByteArray := prog_2_method_3_code
def yX0_aheadOf : MethodName := ⟨RX0, "aheadOf", "(I)I"⟩

abbrev cX0_oneAhead : ByteArray := prog_2_method_4_code
def yX0_oneAhead : MethodName := ⟨RX0, "oneAhead", "(I)I"⟩

abbrev cX0_joined : ByteArray := prog_2_method_5_code
def yX0_joined : MethodName := ⟨RX0, "joined", "([II)I"⟩

abbrev cX0_reachFrom : ByteArray := prog_2_method_6_code
def yX0_reachFrom : MethodName := ⟨RX0, "reachFrom", "(I)I"⟩

abbrev cX0_reachTo : ByteArray := prog_2_method_7_code
def yX0_reachTo : MethodName := ⟨RX0, "reachTo", "(I)I"⟩

abbrev cX0_closure : ByteArray := prog_2_method_8_code
def yX0_closure : MethodName := ⟨RX0, "closure", "([II)I"⟩

abbrev cX0_wingOf : ByteArray := prog_2_method_9_code
def yX0_wingOf : MethodName := ⟨RX0, "wingOf", "(I)I"⟩

abbrev cX0_fewestDoors : ByteArray := prog_2_method_10_code
def yX0_fewestDoors : MethodName := ⟨RX0, "fewestDoors", "(II)I"⟩

abbrev cX0_firstDoor : ByteArray := prog_2_method_11_code
def yX0_firstDoor : MethodName := ⟨RX0, "firstDoor", "(II)I"⟩

abbrev cX0_unrollFrom : ByteArray := prog_2_method_12_code
def yX0_unrollFrom : MethodName := ⟨RX0, "unrollFrom", "(I)V"⟩

abbrev cX0_newDoorsToJoinAll : ByteArray := prog_2_method_13_code
def yX0_newDoorsToJoinAll : MethodName := ⟨RX0, "newDoorsToJoinAll", "()I"⟩

abbrev cX0_bringTogether : ByteArray := prog_2_method_14_code
def yX0_bringTogether : MethodName := ⟨RX0, "bringTogether", "(II)V"⟩

abbrev cX0_goRound : ByteArray := prog_2_method_15_code
def yX0_goRound : MethodName := ⟨RX0, "goRound", "(I)V"⟩

abbrev cX0_goOneDoor : ByteArray := prog_2_method_16_code
def yX0_goOneDoor : MethodName := ⟨RX0, "goOneDoor", "(I)V"⟩

abbrev cX0_enterFrom : ByteArray := prog_2_method_17_code
def yX0_enterFrom : MethodName := ⟨RX0, "enterFrom", "(II)V"⟩

abbrev cX0_likeliest : ByteArray := prog_2_method_18_code
def yX0_likeliest : MethodName := ⟨RX0, "likeliest", "(II)J"⟩

abbrev cX0_aboveInLeastTerms : ByteArray := prog_2_method_19_code
def yX0_aboveInLeastTerms : MethodName := ⟨RX0, "aboveInLeastTerms", "(J)J"⟩

abbrev cX0_belowInLeastTerms : ByteArray := prog_2_method_20_code
def yX0_belowInLeastTerms : MethodName := ⟨RX0, "belowInLeastTerms", "(J)J"⟩

abbrev cX0_commonTwos : ByteArray := prog_2_method_21_code
def yX0_commonTwos : MethodName := ⟨RX0, "commonTwos", "(J)J"⟩

abbrev cX1_init : ByteArray := prog_3_method_1_code
def yX1_init : MethodName := ⟨RX1, "<init>", "(LLostMuseum$Plan;LLostMuseum$State;LLostMuseum$Law;)V"⟩

abbrev cX1_isOpen : ByteArray := prog_3_method_2_code
def yX1_isOpen : MethodName := ⟨RX1, "isOpen", "(II)Z"⟩

abbrev cX1_openDoors : ByteArray := prog_3_method_3_code
def yX1_openDoors : MethodName := ⟨RX1, "openDoors", "(I)I"⟩

abbrev cX1_soonest : ByteArray := prog_3_method_4_code
def yX1_soonest : MethodName := ⟨RX1, "soonest", "(II)I"⟩

abbrev cX1_reachedIn : ByteArray := prog_3_method_5_code
def yX1_reachedIn : MethodName := ⟨RX1, "reachedIn", "(II)I"⟩

abbrev cX1_comeTo : ByteArray := prog_3_method_6_code
def yX1_comeTo : MethodName := ⟨RX1, "comeTo", "(II)I"⟩

abbrev cX2_init : ByteArray := prog_4_method_1_code
def yX2_init : MethodName := ⟨RX2, "<init>", "()V"⟩

abbrev cX2_clear : ByteArray := prog_4_method_2_code
def yX2_clear : MethodName := ⟨RX2, "clear", "()V"⟩

abbrev cX2_read : ByteArray := prog_4_method_3_code
def yX2_read : MethodName := ⟨RX2, "read", "(LLostMuseum$Reader;)Z"⟩

abbrev cX2_put : ByteArray := prog_4_method_4_code
def yX2_put : MethodName := ⟨RX2, "put", "(I)V"⟩

abbrev cX2_readSum : ByteArray := prog_4_method_5_code
def yX2_readSum : MethodName := ⟨RX2, "readSum", "(LLostMuseum$Reader;I)Z"⟩

abbrev cX2_readProduct : ByteArray := prog_4_method_6_code
def yX2_readProduct : MethodName := ⟨RX2, "readProduct", "(LLostMuseum$Reader;I)Z"⟩

abbrev cX2_readUnit : ByteArray := prog_4_method_7_code
def yX2_readUnit : MethodName := ⟨RX2, "readUnit", "(LLostMuseum$Reader;I)Z"⟩

abbrev cX2_readBracket : ByteArray := prog_4_method_8_code
def yX2_readBracket : MethodName := ⟨RX2, "readBracket", "(LLostMuseum$Reader;I)Z"⟩

abbrev cX2_readPair : ByteArray := prog_4_method_9_code
def yX2_readPair : MethodName := ⟨RX2, "readPair", "(LLostMuseum$Reader;II)Z"⟩

abbrev cX2_codeOfWord : ByteArray := prog_4_method_10_code
def yX2_codeOfWord : MethodName := ⟨RX2, "codeOfWord", "(LLostMuseum$Reader;)I"⟩

abbrev cX2_valueFor : ByteArray := prog_4_method_11_code
def yX2_valueFor : MethodName := ⟨RX2, "valueFor", "(LLostMuseum$Plan;LLostMuseum$State;II)I"⟩

abbrev cX2_fact : ByteArray := prog_4_method_12_code
def yX2_fact : MethodName := ⟨RX2, "fact", "(ILLostMuseum$Plan;LLostMuseum$State;II)I"⟩

abbrev cX2_join : ByteArray := prog_4_method_13_code
def yX2_join : MethodName := ⟨RX2, "join", "(III)I"⟩

abbrev cX3_init : ByteArray := prog_5_method_1_code
def yX3_init : MethodName := ⟨RX3, "<init>", "(LLostMuseum$Plan;LLostMuseum$State;)V"⟩

abbrev cX3_fewest : ByteArray := prog_5_method_2_code
def yX3_fewest : MethodName := ⟨RX3, "fewest", "(II)I"⟩

abbrev cX3_firstDoors : ByteArray := prog_5_method_3_code
def yX3_firstDoors : MethodName := ⟨RX3, "firstDoors", "(II)I"⟩

abbrev cX3_waysApart : ByteArray := prog_5_method_4_code
def yX3_waysApart : MethodName := ⟨RX3, "waysApart", "(III)I"⟩

abbrev cX3_findsWay : ByteArray := prog_5_method_5_code
def yX3_findsWay : MethodName := ⟨RX3, "findsWay", "(III)Z"⟩

abbrev cX3_leadsTo : ByteArray := prog_5_method_6_code
def yX3_leadsTo : MethodName := ⟨RX3, "leadsTo", "(II)I"⟩

abbrev cX3_takeWay : ByteArray := prog_5_method_7_code
def yX3_takeWay : MethodName := ⟨RX3, "takeWay", "(II)V"⟩

abbrev cX4_init : ByteArray := prog_6_method_1_code
def yX4_init : MethodName := ⟨RX4, "<init>", "()V"⟩

abbrev cX4_allRooms : ByteArray := prog_6_method_2_code
def yX4_allRooms : MethodName := ⟨RX4, "allRooms", "()I"⟩

abbrev cX4_allDoors : ByteArray := prog_6_method_3_code
def yX4_allDoors : MethodName := ⟨RX4, "allDoors", "()I"⟩

abbrev cX4_copyFrom : ByteArray := prog_6_method_4_code
def yX4_copyFrom : MethodName := ⟨RX4, "copyFrom", "(LLostMuseum$Plan;)V"⟩

abbrev cX4_read : ByteArray := prog_6_method_5_code
def yX4_read : MethodName := ⟨RX4, "read", "(LLostMuseum$Reader;)Z"⟩

abbrev cX4_clear : ByteArray := prog_6_method_6_code
def yX4_clear : MethodName := ⟨RX4, "clear", "()V"⟩

abbrev cX4_readClause : ByteArray := prog_6_method_7_code
def yX4_readClause : MethodName := ⟨RX4, "readClause", "(LLostMuseum$Reader;Z)Z"⟩

abbrev cX4_readRoom : ByteArray := prog_6_method_8_code
def yX4_readRoom : MethodName := ⟨RX4, "readRoom", "(LLostMuseum$Reader;)Z"⟩

abbrev cX4_readDoor : ByteArray := prog_6_method_9_code
def yX4_readDoor : MethodName := ⟨RX4, "readDoor", "(LLostMuseum$Reader;)Z"⟩

abbrev cX4_readExit : ByteArray := prog_6_method_10_code
def yX4_readExit : MethodName := ⟨RX4, "readExit", "(LLostMuseum$Reader;)Z"⟩

abbrev cX4_readTour : ByteArray := prog_6_method_11_code
def yX4_readTour : MethodName := ⟨RX4, "readTour", "(LLostMuseum$Reader;)Z"⟩

abbrev cX4_readWarder : ByteArray := prog_6_method_12_code
def yX4_readWarder : MethodName := ⟨RX4, "readWarder", "(LLostMuseum$Reader;)Z"⟩

abbrev cX5_init : ByteArray := prog_7_method_1_code
def yX5_init : MethodName := ⟨RX5, "<init>", "([B)V"⟩

abbrev cX5_begin : ByteArray := prog_7_method_2_code
def yX5_begin : MethodName := ⟨RX5, "begin", "(I)V"⟩

abbrev cX5_fail : ByteArray := prog_7_method_3_code
def yX5_fail : MethodName := ⟨RX5, "fail", "(II)Z"⟩

abbrev cX5_peek : ByteArray := prog_7_method_4_code
def yX5_peek : MethodName := ⟨RX5, "peek", "()I"⟩

abbrev cX5_atEnd : ByteArray := prog_7_method_5_code
def yX5_atEnd : MethodName := ⟨RX5, "atEnd", "()Z"⟩

abbrev cX5_takes : ByteArray := prog_7_method_6_code
def yX5_takes : MethodName := ⟨RX5, "takes", "(I)Z"⟩

abbrev cX5_needs : ByteArray := prog_7_method_7_code
def yX5_needs : MethodName := ⟨RX5, "needs", "(I)Z"⟩

abbrev cX5_needsEnd : ByteArray := prog_7_method_8_code
def yX5_needsEnd : MethodName := ⟨RX5, "needsEnd", "()Z"⟩

abbrev cX5_needsNumber : ByteArray := prog_7_method_9_code
def yX5_needsNumber : MethodName := ⟨RX5, "needsNumber", "(I)Z"⟩

abbrev cX5_needsWord : ByteArray := prog_7_method_10_code
def yX5_needsWord : MethodName := ⟨RX5, "needsWord", "()Z"⟩

abbrev cX5_isWord : ByteArray := prog_7_method_11_code
def yX5_isWord : MethodName := ⟨RX5, "isWord", "(Ljava/lang/String;)Z"⟩

abbrev cX5_byteAt : ByteArray := prog_7_method_12_code
def yX5_byteAt : MethodName := ⟨RX5, "byteAt", "(I)I"⟩

abbrev cX5_isDigit : ByteArray := prog_7_method_13_code
def yX5_isDigit : MethodName := ⟨RX5, "isDigit", "(I)Z"⟩

abbrev cX5_isLetter : ByteArray := prog_7_method_14_code
def yX5_isLetter : MethodName := ⟨RX5, "isLetter", "(I)Z"⟩

abbrev cX6_init : ByteArray := prog_8_method_1_code
def yX6_init : MethodName := ⟨RX6, "<init>", "(LLostMuseum$Plan;LLostMuseum$State;LLostMuseum$Hours;)V"⟩

abbrev cX6_lieDown : ByteArray := prog_8_method_2_code
def yX6_lieDown : MethodName := ⟨RX6, "lieDown", "()V"⟩

abbrev cX6_sleep : ByteArray := prog_8_method_3_code
def yX6_sleep : MethodName := ⟨RX6, "sleep", "(III)V"⟩

abbrev cX6_openFrom : ByteArray := prog_8_method_4_code
def yX6_openFrom : MethodName := ⟨RX6, "openFrom", "(II)I"⟩

abbrev cX6_draw : ByteArray := prog_8_method_5_code
def yX6_draw : MethodName := ⟨RX6, "draw", "()I"⟩

abbrev cX6_pick : ByteArray := prog_8_method_6_code
def yX6_pick : MethodName := ⟨RX6, "pick", "(II)I"⟩

abbrev cX7_init : ByteArray := prog_9_method_1_code
def yX7_init : MethodName := ⟨RX7, "<init>", "()V"⟩

abbrev cX7_begin : ByteArray := prog_9_method_2_code
def yX7_begin : MethodName := ⟨RX7, "begin", "(LLostMuseum$Plan;)V"⟩

abbrev cX7_copyFrom : ByteArray := prog_9_method_3_code
def yX7_copyFrom : MethodName := ⟨RX7, "copyFrom", "(LLostMuseum$State;)V"⟩

abbrev cX7_setsBar : ByteArray := prog_9_method_4_code
def yX7_setsBar : MethodName := ⟨RX7, "setsBar", "(IZ)Z"⟩

abbrev cX7_waits : ByteArray := prog_9_method_5_code
def yX7_waits : MethodName := ⟨RX7, "waits", "()Z"⟩

abbrev cX7_usedInAll : ByteArray := prog_9_method_6_code
def yX7_usedInAll : MethodName := ⟨RX7, "usedInAll", "()I"⟩

abbrev cX7_toursIn : ByteArray := prog_9_method_7_code
def yX7_toursIn : MethodName := ⟨RX7, "toursIn", "(II)I"⟩

abbrev cX8_init : ByteArray := prog_10_method_1_code
def yX8_init : MethodName := ⟨RX8, "<init>", "()V"⟩

abbrev cX8_begin : ByteArray := prog_10_method_2_code
def yX8_begin : MethodName := ⟨RX8, "begin", "(LLostMuseum$Plan;)V"⟩

abbrev cX8_keep : ByteArray := prog_10_method_3_code
def yX8_keep : MethodName := ⟨RX8, "keep", "()V"⟩

abbrev cX8_takeBack : ByteArray := prog_10_method_4_code
def yX8_takeBack : MethodName := ⟨RX8, "takeBack", "()V"⟩

abbrev cX8_copyFrom : ByteArray := prog_10_method_5_code
def yX8_copyFrom : MethodName := ⟨RX8, "copyFrom", "(LLostMuseum$Timeline;)V"⟩

abbrev cX9_init : ByteArray := prog_11_method_1_code
def yX9_init : MethodName := ⟨RX9, "<init>", "(LLostMuseum$Plan;LLostMuseum$Graph;)V"⟩

abbrev cX9_clear : ByteArray := prog_11_method_2_code
def yX9_clear : MethodName := ⟨RX9, "clear", "()V"⟩

abbrev cX9_read : ByteArray := prog_11_method_3_code
def yX9_read : MethodName := ⟨RX9, "read", "(LLostMuseum$Reader;)Z"⟩

abbrev cX9_standing : ByteArray := prog_11_method_4_code
def yX9_standing : MethodName := ⟨RX9, "standing", "()I"⟩

abbrev cX9_roomsToKnow : ByteArray := prog_11_method_5_code
def yX9_roomsToKnow : MethodName := ⟨RX9, "roomsToKnow", "()I"⟩

abbrev cX9_allKnow : ByteArray := prog_11_method_6_code
def yX9_allKnow : MethodName := ⟨RX9, "allKnow", "(I)Z"⟩

abbrev cX9_lookOnce : ByteArray := prog_11_method_7_code
def yX9_lookOnce : MethodName := ⟨RX9, "lookOnce", "(I)V"⟩

abbrev cX9_fewestWrong : ByteArray := prog_11_method_8_code
def yX9_fewestWrong : MethodName := ⟨RX9, "fewestWrong", "()I"⟩

abbrev cX9_slip : ByteArray := prog_11_method_9_code
def yX9_slip : MethodName := ⟨RX9, "slip", "(II)I"⟩

abbrev cX9_fewestBehind : ByteArray := prog_11_method_10_code
def yX9_fewestBehind : MethodName := ⟨RX9, "fewestBehind", "(II)I"⟩

abbrev cX9_firstWrong : ByteArray := prog_11_method_11_code
def yX9_firstWrong : MethodName := ⟨RX9, "firstWrong", "(I)I"⟩

abbrev cX10_init : ByteArray := prog_12_method_1_code
def yX10_init : MethodName := ⟨RX10, "<init>", "()V"⟩

abbrev cX10_read : ByteArray := prog_12_method_2_code
def yX10_read : MethodName := ⟨RX10, "read", "(LLostMuseum$Reader;LLostMuseum$Plan;)Z"⟩

abbrev cX10_put : ByteArray := prog_12_method_3_code
def yX10_put : MethodName := ⟨RX10, "put", "(III)V"⟩

abbrev cX10_readSteps : ByteArray := prog_12_method_4_code
def yX10_readSteps : MethodName := ⟨RX10, "readSteps", "(LLostMuseum$Reader;LLostMuseum$Plan;I)Z"⟩

abbrev cX10_readStep : ByteArray := prog_12_method_5_code
def yX10_readStep : MethodName := ⟨RX10, "readStep", "(LLostMuseum$Reader;LLostMuseum$Plan;I)Z"⟩

abbrev cX10_readGo : ByteArray := prog_12_method_6_code
def yX10_readGo : MethodName := ⟨RX10, "readGo", "(LLostMuseum$Reader;LLostMuseum$Plan;)Z"⟩

abbrev cX10_readDoorStep : ByteArray := prog_12_method_7_code
def yX10_readDoorStep : MethodName := ⟨RX10, "readDoorStep", "(LLostMuseum$Reader;LLostMuseum$Plan;I)Z"⟩

abbrev cX10_readAgain : ByteArray := prog_12_method_8_code
def yX10_readAgain : MethodName := ⟨RX10, "readAgain", "(LLostMuseum$Reader;LLostMuseum$Plan;I)Z"⟩

abbrev cX10_run : ByteArray := prog_12_method_9_code
def yX10_run : MethodName := ⟨RX10, "run", "(LLostMuseum$Plan;LLostMuseum$State;LLostMuseum$Hours;)V"⟩

abbrev cX10_turnBack : ByteArray := prog_12_method_10_code
def yX10_turnBack : MethodName := ⟨RX10, "turnBack", "(I)I"⟩

abbrev cX10_isDone : ByteArray := prog_12_method_11_code
def yX10_isDone : MethodName := ⟨RX10, "isDone", "(ILLostMuseum$Plan;LLostMuseum$State;LLostMuseum$Hours;)Z"⟩

abbrev cX10_goes : ByteArray := prog_12_method_12_code
def yX10_goes : MethodName := ⟨RX10, "goes", "(IILLostMuseum$Plan;LLostMuseum$State;LLostMuseum$Hours;)Z"⟩

abbrev cX11_init : ByteArray := prog_1_method_1_code
def yX11_init : MethodName := ⟨RX11, "<init>", "()V"⟩

abbrev cX11_feed : ByteArray := prog_1_method_2_code
def yX11_feed : MethodName := ⟨RX11, "feed", "(IIIII)I"⟩

abbrev cX11_museum : ByteArray := prog_1_method_3_code
def yX11_museum : MethodName := ⟨RX11, "museum", "(I)I"⟩

abbrev cX11_law : ByteArray := prog_1_method_4_code
def yX11_law : MethodName := ⟨RX11, "law", "(I)I"⟩

abbrev cX11_work : ByteArray := prog_1_method_5_code
def yX11_work : MethodName := ⟨RX11, "work", "(I)I"⟩

abbrev cX11_walk : ByteArray := prog_1_method_6_code
def yX11_walk : MethodName := ⟨RX11, "walk", "(I)I"⟩

abbrev cX11_fault : ByteArray := prog_1_method_7_code
def yX11_fault : MethodName := ⟨RX11, "fault", "()I"⟩

abbrev cX11_undo : ByteArray := prog_1_method_8_code
def yX11_undo : MethodName := ⟨RX11, "undo", "()I"⟩

abbrev cX11_told : ByteArray := prog_1_method_9_code
def yX11_told : MethodName := ⟨RX11, "told", "(I)I"⟩

abbrev cX11_room : ByteArray := prog_1_method_10_code
def yX11_room : MethodName := ⟨RX11, "room", "(II)I"⟩

abbrev cX11_door : ByteArray := prog_1_method_11_code
def yX11_door : MethodName := ⟨RX11, "door", "(II)I"⟩

abbrev cX11_tour : ByteArray := prog_1_method_12_code
def yX11_tour : MethodName := ⟨RX11, "tour", "(I)I"⟩

abbrev cX11_open : ByteArray := prog_1_method_13_code
def yX11_open : MethodName := ⟨RX11, "open", "(III)Z"⟩

abbrev cX11_fits : ByteArray := prog_1_method_14_code
def yX11_fits : MethodName := ⟨RX11, "fits", "()I"⟩

abbrev cX11_knows : ByteArray := prog_1_method_15_code
def yX11_knows : MethodName := ⟨RX11, "knows", "()I"⟩

abbrev cX11_slips : ByteArray := prog_1_method_16_code
def yX11_slips : MethodName := ⟨RX11, "slips", "(I)I"⟩

abbrev cX11_ends : ByteArray := prog_1_method_17_code
def yX11_ends : MethodName := ⟨RX11, "ends", "(I)Z"⟩

abbrev cX11_soon : ByteArray := prog_1_method_18_code
def yX11_soon : MethodName := ⟨RX11, "soon", "(II)I"⟩

abbrev cX11_within : ByteArray := prog_1_method_19_code
def yX11_within : MethodName := ⟨RX11, "within", "(II)I"⟩

abbrev cX11_out : ByteArray := prog_1_method_20_code
def yX11_out : MethodName := ⟨RX11, "out", "(I)I"⟩

abbrev cX11_string : ByteArray := prog_1_method_21_code
def yX11_string : MethodName := ⟨RX11, "string", "(I)I"⟩

abbrev cX11_longest : ByteArray := prog_1_method_22_code
def yX11_longest : MethodName := ⟨RX11, "longest", "(I)I"⟩

abbrev cX11_lost : ByteArray := prog_1_method_23_code
def yX11_lost : MethodName := ⟨RX11, "lost", "(I)I"⟩

abbrev cX11_cuts : ByteArray := prog_1_method_24_code
def yX11_cuts : MethodName := ⟨RX11, "cuts", "()I"⟩

abbrev cX11_wing : ByteArray := prog_1_method_25_code
def yX11_wing : MethodName := ⟨RX11, "wing", "(I)I"⟩

abbrev cX11_round : ByteArray := prog_1_method_26_code
def yX11_round : MethodName := ⟨RX11, "round", "(I)I"⟩

abbrev cX11_last : ByteArray := prog_1_method_27_code
def yX11_last : MethodName := ⟨RX11, "last", "(I)I"⟩

abbrev cX11_meet : ByteArray := prog_1_method_28_code
def yX11_meet : MethodName := ⟨RX11, "meet", "(III)I"⟩

abbrev cX11_parted : ByteArray := prog_1_method_29_code
def yX11_parted : MethodName := ⟨RX11, "parted", "(III)I"⟩

abbrev cX11_quiet : ByteArray := prog_1_method_30_code
def yX11_quiet : MethodName := ⟨RX11, "quiet", "(III)J"⟩

abbrev cX11_way : ByteArray := prog_1_method_31_code
def yX11_way : MethodName := ⟨RX11, "way", "(II)I"⟩

abbrev cX11_next : ByteArray := prog_1_method_32_code
def yX11_next : MethodName := ⟨RX11, "next", "(II)I"⟩

abbrev cX11_loop : ByteArray := prog_1_method_33_code
def yX11_loop : MethodName := ⟨RX11, "loop", "(I)I"⟩

abbrev cX11_closed : ByteArray := prog_1_method_34_code
def yX11_closed : MethodName := ⟨RX11, "closed", "(II)I"⟩

abbrev cX11_crowded : ByteArray := prog_1_method_35_code
def yX11_crowded : MethodName := ⟨RX11, "crowded", "(I)I"⟩

abbrev cX11_worn : ByteArray := prog_1_method_36_code
def yX11_worn : MethodName := ⟨RX11, "worn", "(I)I"⟩

abbrev cX11_sleepwalk : ByteArray := prog_1_method_37_code
def yX11_sleepwalk : MethodName := ⟨RX11, "sleepwalk", "(IIII)I"⟩

abbrev cX11_span : ByteArray := prog_1_method_38_code
def yX11_span : MethodName := ⟨RX11, "span", "(IIIIII)I"⟩

abbrev cX11_image : ByteArray := prog_1_method_39_code
def yX11_image : MethodName := ⟨RX11, "image", "()I"⟩

abbrev cX11_restore : ByteArray := prog_1_method_40_code
def yX11_restore : MethodName := ⟨RX11, "restore", "()I"⟩

abbrev cX11_status : ByteArray := prog_1_method_41_code
def yX11_status : MethodName := ⟨RX11, "status", "(I)I"⟩

abbrev cX11_count : ByteArray := prog_1_method_42_code
def yX11_count : MethodName := ⟨RX11, "count", "(I)I"⟩

abbrev cX11_putNumber : ByteArray := prog_1_method_43_code
def yX11_putNumber : MethodName := ⟨RX11, "putNumber", "(I)V"⟩

abbrev cX11_takeTape : ByteArray := prog_1_method_44_code
def yX11_takeTape : MethodName := ⟨RX11, "takeTape", "(I)V"⟩

abbrev cX11_faultOfText : ByteArray := prog_1_method_45_code
def yX11_faultOfText : MethodName := ⟨RX11, "faultOfText", "()I"⟩

abbrev cX11_needBytes : ByteArray := prog_1_method_46_code
def yX11_needBytes : MethodName := ⟨RX11, "needBytes", "(II)V"⟩

abbrev cX11_needWithin : ByteArray := prog_1_method_47_code
def yX11_needWithin : MethodName := ⟨RX11, "needWithin", "(III)V"⟩

abbrev cX11_needRoom : ByteArray := prog_1_method_48_code
def yX11_needRoom : MethodName := ⟨RX11, "needRoom", "(I)V"⟩

abbrev cX11_needDoor : ByteArray := prog_1_method_49_code
def yX11_needDoor : MethodName := ⟨RX11, "needDoor", "(I)V"⟩

abbrev cX11_lowest : ByteArray := prog_1_method_50_code
def yX11_lowest : MethodName := ⟨RX11, "lowest", "(I)I"⟩

abbrev cX12_init : ByteArray := prog_14_method_1_code
def yX12_init : MethodName := ⟨RX12, "<init>", "()V"⟩

abbrev cX12_tellsNothing : ByteArray := prog_14_method_2_code
def yX12_tellsNothing : MethodName := ⟨RX12, "tellsNothing", "()V"⟩

abbrev cX12_thrown : ByteArray := prog_14_method_3_code
def yX12_thrown : MethodName := ⟨RX12, "thrown", "()I"⟩

abbrev cX12_bad : ByteArray := prog_14_method_4_code
def yX12_bad : MethodName := ⟨RX12, "bad", "(ZII)Z"⟩

abbrev cX12_in : ByteArray := prog_14_method_5_code
def yX12_in : MethodName := ⟨RX12, "in", "(III)Z"⟩

abbrev cX12_less : ByteArray := prog_14_method_6_code
def yX12_less : MethodName := ⟨RX12, "less", "(II)I"⟩

abbrev cX12_more : ByteArray := prog_14_method_7_code
def yX12_more : MethodName := ⟨RX12, "more", "(II)I"⟩

abbrev cX12_has : ByteArray := prog_14_method_8_code
def yX12_has : MethodName := ⟨RX12, "has", "(II)Z"⟩

abbrev cX12_feed : ByteArray := prog_14_method_9_code
def yX12_feed : MethodName := ⟨RX12, "feed", "(IIIII)I"⟩

abbrev cX12_byteAt : ByteArray := prog_14_method_10_code
def yX12_byteAt : MethodName := ⟨RX12, "byteAt", "(I)I"⟩

abbrev cX12_blanks : ByteArray := prog_14_method_11_code
def yX12_blanks : MethodName := ⟨RX12, "blanks", "()V"⟩

abbrev cX12_wrong : ByteArray := prog_14_method_12_code
def yX12_wrong : MethodName := ⟨RX12, "wrong", "(II)V"⟩

abbrev cX12_isDigit : ByteArray := prog_14_method_13_code
def yX12_isDigit : MethodName := ⟨RX12, "isDigit", "(I)Z"⟩

abbrev cX12_isSmall : ByteArray := prog_14_method_14_code
def yX12_isSmall : MethodName := ⟨RX12, "isSmall", "(I)Z"⟩

abbrev cX12_number : ByteArray := prog_14_method_15_code
def yX12_number : MethodName := ⟨RX12, "number", "(II)I"⟩

abbrev cX12_wordHere : ByteArray := prog_14_method_16_code
def yX12_wordHere : MethodName := ⟨RX12, "wordHere", "()I"⟩

abbrev cX12_six : ByteArray := prog_14_method_17_code
def yX12_six : MethodName := ⟨RX12, "six", "(IIIIII)I"⟩

abbrev cX12_isWord : ByteArray := prog_14_method_18_code
def yX12_isWord : MethodName := ⟨RX12, "isWord", "(IIIIII)Z"⟩

abbrev cX12_skipWord : ByteArray := prog_14_method_19_code
def yX12_skipWord : MethodName := ⟨RX12, "skipWord", "()V"⟩

abbrev cX12_takes : ByteArray := prog_14_method_20_code
def yX12_takes : MethodName := ⟨RX12, "takes", "(IIIIII)Z"⟩

abbrev cX12_sign : ByteArray := prog_14_method_21_code
def yX12_sign : MethodName := ⟨RX12, "sign", "(I)V"⟩

abbrev cX12_takesSign : ByteArray := prog_14_method_22_code
def yX12_takesSign : MethodName := ⟨RX12, "takesSign", "(I)Z"⟩

abbrev cX12_starts : ByteArray := prog_14_method_23_code
def yX12_starts : MethodName := ⟨RX12, "starts", "(I)V"⟩

abbrev cX12_ends2 : ByteArray := prog_14_method_24_code
def yX12_ends2 : MethodName := ⟨RX12, "ends2", "()I"⟩

abbrev cX12_kindHere : ByteArray := prog_14_method_25_code
def yX12_kindHere : MethodName := ⟨RX12, "kindHere", "()I"⟩

abbrev cX12_roomHere : ByteArray := prog_14_method_26_code
def yX12_roomHere : MethodName := ⟨RX12, "roomHere", "()I"⟩

abbrev cX12_clause : ByteArray := prog_14_method_27_code
def yX12_clause : MethodName := ⟨RX12, "clause", "()V"⟩

abbrev cX12_museum : ByteArray := prog_14_method_28_code
def yX12_museum : MethodName := ⟨RX12, "museum", "(I)I"⟩

abbrev cX12_lays : ByteArray := prog_14_method_29_code
def yX12_lays : MethodName := ⟨RX12, "lays", "([[I[[II)V"⟩

abbrev cX12_copies : ByteArray := prog_14_method_30_code
def yX12_copies : MethodName := ⟨RX12, "copies", "([I[I)V"⟩

abbrev cX12_beginsAnew : ByteArray := prog_14_method_31_code
def yX12_beginsAnew : MethodName := ⟨RX12, "beginsAnew", "()V"⟩

abbrev cX12_notes : ByteArray := prog_14_method_32_code
def yX12_notes : MethodName := ⟨RX12, "notes", "(II)V"⟩

abbrev cX12_opensOne : ByteArray := prog_14_method_33_code
def yX12_opensOne : MethodName := ⟨RX12, "opensOne", "()Z"⟩

abbrev cX12_sum : ByteArray := prog_14_method_34_code
def yX12_sum : MethodName := ⟨RX12, "sum", "()V"⟩

abbrev cX12_product : ByteArray := prog_14_method_35_code
def yX12_product : MethodName := ⟨RX12, "product", "()V"⟩

abbrev cX12_knownHere : ByteArray := prog_14_method_36_code
def yX12_knownHere : MethodName := ⟨RX12, "knownHere", "()I"⟩

abbrev cX12_isTo : ByteArray := prog_14_method_37_code
def yX12_isTo : MethodName := ⟨RX12, "isTo", "()Z"⟩

abbrev cX12_one : ByteArray := prog_14_method_38_code
def yX12_one : MethodName := ⟨RX12, "one", "()V"⟩

abbrev cX12_law : ByteArray := prog_14_method_39_code
def yX12_law : MethodName := ⟨RX12, "law", "(I)I"⟩

abbrev cX12_by : ByteArray := prog_14_method_40_code
def yX12_by : MethodName := ⟨RX12, "by", "(III)I"⟩

abbrev cX12_byLaw : ByteArray := prog_14_method_41_code
def yX12_byLaw : MethodName := ⟨RX12, "byLaw", "()I"⟩

abbrev cX12_stepHere : ByteArray := prog_14_method_42_code
def yX12_stepHere : MethodName := ⟨RX12, "stepHere", "()I"⟩

abbrev cX12_readsStep : ByteArray := prog_14_method_43_code
def yX12_readsStep : MethodName := ⟨RX12, "readsStep", "()V"⟩

abbrev cX12_walk : ByteArray := prog_14_method_44_code
def yX12_walk : MethodName := ⟨RX12, "walk", "(I)I"⟩

abbrev cX12_fault : ByteArray := prog_14_method_45_code
def yX12_fault : MethodName := ⟨RX12, "fault", "()I"⟩

abbrev cX12_isBarred : ByteArray := prog_14_method_46_code
def yX12_isBarred : MethodName := ⟨RX12, "isBarred", "([II)Z"⟩

abbrev cX12_isLawful : ByteArray := prog_14_method_47_code
def yX12_isLawful : MethodName := ⟨RX12, "isLawful", "([IIII)Z"⟩

abbrev cX12_isOpenBy : ByteArray := prog_14_method_48_code
def yX12_isOpenBy : MethodName := ⟨RX12, "isOpenBy", "([IIII)Z"⟩

abbrev cX12_isOpenIn : ByteArray := prog_14_method_49_code
def yX12_isOpenIn : MethodName := ⟨RX12, "isOpenIn", "([III)Z"⟩

abbrev cX12_does : ByteArray := prog_14_method_50_code
def yX12_does : MethodName := ⟨RX12, "does", "([I[I)Z"⟩

abbrev cX12_goes : ByteArray := prog_14_method_51_code
def yX12_goes : MethodName := ⟨RX12, "goes", "(II)V"⟩

abbrev cX12_work : ByteArray := prog_14_method_52_code
def yX12_work : MethodName := ⟨RX12, "work", "(I)I"⟩

abbrev cX12_undo : ByteArray := prog_14_method_53_code
def yX12_undo : MethodName := ⟨RX12, "undo", "()I"⟩

abbrev cX12_sumOf : ByteArray := prog_14_method_54_code
def yX12_sumOf : MethodName := ⟨RX12, "sumOf", "(I)I"⟩

abbrev cX12_told : ByteArray := prog_14_method_55_code
def yX12_told : MethodName := ⟨RX12, "told", "(I)I"⟩

abbrev cX12_isRoom : ByteArray := prog_14_method_56_code
def yX12_isRoom : MethodName := ⟨RX12, "isRoom", "(I)Z"⟩

abbrev cX12_isDoor : ByteArray := prog_14_method_57_code
def yX12_isDoor : MethodName := ⟨RX12, "isDoor", "(I)Z"⟩

abbrev cX12_toursIn : ByteArray := prog_14_method_58_code
def yX12_toursIn : MethodName := ⟨RX12, "toursIn", "(I)I"⟩

abbrev cX12_doorsOf : ByteArray := prog_14_method_59_code
def yX12_doorsOf : MethodName := ⟨RX12, "doorsOf", "(III)I"⟩

abbrev cX12_room : ByteArray := prog_14_method_60_code
def yX12_room : MethodName := ⟨RX12, "room", "(II)I"⟩

abbrev cX12_door : ByteArray := prog_14_method_61_code
def yX12_door : MethodName := ⟨RX12, "door", "(II)I"⟩

abbrev cX12_tour : ByteArray := prog_14_method_62_code
def yX12_tour : MethodName := ⟨RX12, "tour", "(I)I"⟩

abbrev cX12_open : ByteArray := prog_14_method_63_code
def yX12_open : MethodName := ⟨RX12, "open", "(III)Z"⟩

abbrev cX12_isExit : ByteArray := prog_14_method_64_code
def yX12_isExit : MethodName := ⟨RX12, "isExit", "(I)Z"⟩

abbrev cX12_allRooms : ByteArray := prog_14_method_65_code
def yX12_allRooms : MethodName := ⟨RX12, "allRooms", "()I"⟩

abbrev cX12_behind : ByteArray := prog_14_method_66_code
def yX12_behind : MethodName := ⟨RX12, "behind", "(I)I"⟩

abbrev cX12_seen : ByteArray := prog_14_method_67_code
def yX12_seen : MethodName := ⟨RX12, "seen", "(II)I"⟩

abbrev cX12_fitsNow : ByteArray := prog_14_method_68_code
def yX12_fitsNow : MethodName := ⟨RX12, "fitsNow", "()I"⟩

abbrev cX12_fits : ByteArray := prog_14_method_69_code
def yX12_fits : MethodName := ⟨RX12, "fits", "()I"⟩

abbrev cX12_ends : ByteArray := prog_14_method_70_code
def yX12_ends : MethodName := ⟨RX12, "ends", "(I)Z"⟩

abbrev cX12_isOne : ByteArray := prog_14_method_71_code
def yX12_isOne : MethodName := ⟨RX12, "isOne", "(I)Z"⟩

abbrev cX12_isKnown : ByteArray := prog_14_method_72_code
def yX12_isKnown : MethodName := ⟨RX12, "isKnown", "(II)Z"⟩

abbrev cX12_knows : ByteArray := prog_14_method_73_code
def yX12_knows : MethodName := ⟨RX12, "knows", "()I"⟩

abbrev cX12_laysSlips : ByteArray := prog_14_method_74_code
def yX12_laysSlips : MethodName := ⟨RX12, "laysSlips", "()V"⟩

abbrev cX12_slips : ByteArray := prog_14_method_75_code
def yX12_slips : MethodName := ⟨RX12, "slips", "(I)I"⟩

abbrev cX12_behindIn : ByteArray := prog_14_method_76_code
def yX12_behindIn : MethodName := ⟨RX12, "behindIn", "(II)I"⟩

abbrev cX12_soonTo : ByteArray := prog_14_method_77_code
def yX12_soonTo : MethodName := ⟨RX12, "soonTo", "(II)I"⟩

abbrev cX12_soon : ByteArray := prog_14_method_78_code
def yX12_soon : MethodName := ⟨RX12, "soon", "(II)I"⟩

abbrev cX12_within : ByteArray := prog_14_method_79_code
def yX12_within : MethodName := ⟨RX12, "within", "(II)I"⟩

abbrev cX12_out : ByteArray := prog_14_method_80_code
def yX12_out : MethodName := ⟨RX12, "out", "(I)I"⟩

abbrev cX12_laysWays : ByteArray := prog_14_method_81_code
def yX12_laysWays : MethodName := ⟨RX12, "laysWays", "()V"⟩

abbrev cX12_orNone : ByteArray := prog_14_method_82_code
def yX12_orNone : MethodName := ⟨RX12, "orNone", "(I)I"⟩

abbrev cX12_stringTo : ByteArray := prog_14_method_83_code
def yX12_stringTo : MethodName := ⟨RX12, "stringTo", "(I)I"⟩

abbrev cX12_string : ByteArray := prog_14_method_84_code
def yX12_string : MethodName := ⟨RX12, "string", "(I)I"⟩

abbrev cX12_longest : ByteArray := prog_14_method_85_code
def yX12_longest : MethodName := ⟨RX12, "longest", "(I)I"⟩

abbrev cX12_lost : ByteArray := prog_14_method_86_code
def yX12_lost : MethodName := ⟨RX12, "lost", "(I)I"⟩

abbrev cX12_wingOf : ByteArray := prog_14_method_87_code
def yX12_wingOf : MethodName := ⟨RX12, "wingOf", "(I)I"⟩

abbrev cX12_wing : ByteArray := prog_14_method_88_code
def yX12_wing : MethodName := ⟨RX12, "wing", "(I)I"⟩

abbrev cX12_cuts : ByteArray := prog_14_method_89_code
def yX12_cuts : MethodName := ⟨RX12, "cuts", "()I"⟩

abbrev cX12_laysRounds : ByteArray := prog_14_method_90_code
def yX12_laysRounds : MethodName := ⟨RX12, "laysRounds", "(I)V"⟩

abbrev cX12_roundTo : ByteArray := prog_14_method_91_code
def yX12_roundTo : MethodName := ⟨RX12, "roundTo", "()I"⟩

abbrev cX12_round : ByteArray := prog_14_method_92_code
def yX12_round : MethodName := ⟨RX12, "round", "(I)I"⟩

abbrev cX12_last : ByteArray := prog_14_method_93_code
def yX12_last : MethodName := ⟨RX12, "last", "(I)I"⟩

abbrev cX12_meet : ByteArray := prog_14_method_94_code
def yX12_meet : MethodName := ⟨RX12, "meet", "(III)I"⟩

abbrev cX12_isMore : ByteArray := prog_14_method_95_code
def yX12_isMore : MethodName := ⟨RX12, "isMore", "(III)Z"⟩

abbrev cX12_flowsTo : ByteArray := prog_14_method_96_code
def yX12_flowsTo : MethodName := ⟨RX12, "flowsTo", "(III)I"⟩

abbrev cX12_parted : ByteArray := prog_14_method_97_code
def yX12_parted : MethodName := ⟨RX12, "parted", "(III)I"⟩

abbrev cX12_quiet : ByteArray := prog_14_method_98_code
def yX12_quiet : MethodName := ⟨RX12, "quiet", "(III)J"⟩

abbrev cX12_way : ByteArray := prog_14_method_99_code
def yX12_way : MethodName := ⟨RX12, "way", "(II)I"⟩

abbrev cX12_next : ByteArray := prog_14_method_100_code
def yX12_next : MethodName := ⟨RX12, "next", "(II)I"⟩

abbrev cX12_loop : ByteArray := prog_14_method_101_code
def yX12_loop : MethodName := ⟨RX12, "loop", "(I)I"⟩

abbrev cX12_closed : ByteArray := prog_14_method_102_code
def yX12_closed : MethodName := ⟨RX12, "closed", "(II)I"⟩

abbrev cX12_crowded : ByteArray := prog_14_method_103_code
def yX12_crowded : MethodName := ⟨RX12, "crowded", "(I)I"⟩

abbrev cX12_worn : ByteArray := prog_14_method_104_code
def yX12_worn : MethodName := ⟨RX12, "worn", "(I)I"⟩

abbrev cX12_walksBy : ByteArray := prog_14_method_105_code
def yX12_walksBy : MethodName := ⟨RX12, "walksBy", "(III)I"⟩

abbrev cX12_behindDoor : ByteArray := prog_14_method_106_code
def yX12_behindDoor : MethodName := ⟨RX12, "behindDoor", "(III)I"⟩

abbrev cX12_ones : ByteArray := prog_14_method_107_code
def yX12_ones : MethodName := ⟨RX12, "ones", "(I)I"⟩

abbrev cX12_sleepwalk : ByteArray := prog_14_method_108_code
def yX12_sleepwalk : MethodName := ⟨RX12, "sleepwalk", "(IIII)I"⟩

abbrev cX12_span : ByteArray := prog_14_method_109_code
def yX12_span : MethodName := ⟨RX12, "span", "(IIIIII)I"⟩

abbrev cX12_puts : ByteArray := prog_14_method_110_code
def yX12_puts : MethodName := ⟨RX12, "puts", "([IIZ)I"⟩

abbrev cX12_putsAll : ByteArray := prog_14_method_111_code
def yX12_putsAll : MethodName := ⟨RX12, "putsAll", "([IZ)V"⟩

abbrev cX12_image : ByteArray := prog_14_method_112_code
def yX12_image : MethodName := ⟨RX12, "image", "()I"⟩

abbrev cX12_restore : ByteArray := prog_14_method_113_code
def yX12_restore : MethodName := ⟨RX12, "restore", "()I"⟩

abbrev cX12_status : ByteArray := prog_14_method_114_code
def yX12_status : MethodName := ⟨RX12, "status", "(I)I"⟩

abbrev cX12_count : ByteArray := prog_14_method_115_code
def yX12_count : MethodName := ⟨RX12, "count", "(I)I"⟩

abbrev cJ6_bitCount_0f7a4 : ByteArray := prog_20_method_49_code
def yJ6_bitCount_0f7a4 : MethodName := ⟨"java/lang/Integer", "bitCount", "(I)I"⟩

abbrev cJ0_length_8abf5 : ByteArray := prog_23_method_54_code
def yJ0_length_8abf5 : MethodName := ⟨"java/lang/String", "length", "()I"⟩

abbrev cJ0_charAt_5068e : ByteArray := prog_23_method_56_code
def yJ0_charAt_5068e : MethodName := ⟨"java/lang/String", "charAt", "(I)C"⟩

abbrev cJ0_coder_7d493 : ByteArray := prog_23_method_152_code
def yJ0_coder_7d493 : MethodName := ⟨"java/lang/String", "coder", "()B"⟩

abbrev cJ0_isLatin1_aae02 : ByteArray := prog_23_method_154_code
def yJ0_isLatin1_aae02 : MethodName := ⟨"java/lang/String", "isLatin1", "()Z"⟩

abbrev cJ1_charAt_3b067 : ByteArray := prog_24_method_2_code
def yJ1_charAt_3b067 : MethodName := ⟨"java/lang/StringLatin1", "charAt", "([BI)C"⟩

abbrev classes : List vw_C := [(RX0, TX0, 10), (RX1, TX1, 3), (RX2, TX2, 5), (RX3, TX3, 6), (RX4, TX4, 14), (RX5, TX5, 8), (RX6, TX6, 9), (RX7, TX7, 5), (RX8, TX8, 3), (RX9, TX9, 8), (RX10, TX10, 7), (RX11, TX11, 20), (RX12, TX12, 51)]

def WD : List Cond := lw_tbl.filter goodWord

theorem inW {i : Nat} {w : Cond} (h : tables_1[i]? = some w) (g : goodWord w = true) : w ∈ WD := List.mem_filter.mpr ⟨List.mem_append_right _ (List.mem_of_getElem? h), g⟩

theorem inS {i : Nat} {w : Cond} (h : (k2_sels lw_privs)[i]? = some w) (g : goodWord w = true) : w ∈ WD := List.mem_filter.mpr ⟨List.mem_append_left _ (List.mem_of_getElem? h), g⟩

theorem inX0 : ∀ w ∈ u_ws RX0 TX0 10, w ∈ WD := by
  intro w hw
  obtain ⟨k, hk, rfl⟩ := List.mem_map.mp hw
  have hk := List.mem_range.mp hk
  have h : ∀ k, k < 10 → tables_1[([313, 315, 317, 319, 321, 323, 325, 327, 329, 331] : List Nat).getD k 0]? = some (u_lay RX0 TX0 k) ∧ goodWord (u_lay RX0 TX0 k) = true := by decide +kernel
  exact inW (h k hk).1 (h k hk).2

theorem inX1 : ∀ w ∈ u_ws RX1 TX1 3, w ∈ WD := by
  intro w hw
  obtain ⟨k, hk, rfl⟩ := List.mem_map.mp hw
  have hk := List.mem_range.mp hk
  have h : ∀ k, k < 3 → tables_1[([288, 290, 292] : List Nat).getD k 0]? = some (u_lay RX1 TX1 k) ∧ goodWord (u_lay RX1 TX1 k) = true := by decide +kernel
  exact inW (h k hk).1 (h k hk).2

theorem inX2 : ∀ w ∈ u_ws RX2 TX2 5, w ∈ WD := by
  intro w hw
  obtain ⟨k, hk, rfl⟩ := List.mem_map.mp hw
  have hk := List.mem_range.mp hk
  have h : ∀ k, k < 5 → tables_1[([181, 183, 185, 187, 189] : List Nat).getD k 0]? = some (u_lay RX2 TX2 k) ∧ goodWord (u_lay RX2 TX2 k) = true := by decide +kernel
  exact inW (h k hk).1 (h k hk).2

theorem inX3 : ∀ w ∈ u_ws RX3 TX3 6, w ∈ WD := by
  intro w hw
  obtain ⟨k, hk, rfl⟩ := List.mem_map.mp hw
  have hk := List.mem_range.mp hk
  have h : ∀ k, k < 6 → tables_1[([380, 382, 384, 386, 388, 390] : List Nat).getD k 0]? = some (u_lay RX3 TX3 k) ∧ goodWord (u_lay RX3 TX3 k) = true := by decide +kernel
  exact inW (h k hk).1 (h k hk).2

theorem inX4 : ∀ w ∈ u_ws RX4 TX4 14, w ∈ WD := by
  intro w hw
  obtain ⟨k, hk, rfl⟩ := List.mem_map.mp hw
  have hk := List.mem_range.mp hk
  have h : ∀ k, k < 14 → tables_1[([136, 138, 140, 142, 144, 146, 148, 150, 152, 154, 156, 158, 160, 162] : List Nat).getD k 0]? = some (u_lay RX4 TX4 k) ∧ goodWord (u_lay RX4 TX4 k) = true := by decide +kernel
  exact inW (h k hk).1 (h k hk).2

theorem inX5 : ∀ w ∈ u_ws RX5 TX5 8, w ∈ WD := by
  intro w hw
  obtain ⟨k, hk, rfl⟩ := List.mem_map.mp hw
  have hk := List.mem_range.mp hk
  have h : ∀ k, k < 8 → tables_1[([58, 60, 62, 64, 66, 68, 70, 72] : List Nat).getD k 0]? = some (u_lay RX5 TX5 k) ∧ goodWord (u_lay RX5 TX5 k) = true := by decide +kernel
  exact inW (h k hk).1 (h k hk).2

theorem inX6 : ∀ w ∈ u_ws RX6 TX6 9, w ∈ WD := by
  intro w hw
  obtain ⟨k, hk, rfl⟩ := List.mem_map.mp hw
  have hk := List.mem_range.mp hk
  have h : ∀ k, k < 9 → tables_1[([411, 413, 415, 417, 419, 421, 423, 425, 427] : List Nat).getD k 0]? = some (u_lay RX6 TX6 k) ∧ goodWord (u_lay RX6 TX6 k) = true := by decide +kernel
  exact inW (h k hk).1 (h k hk).2

theorem inX7 : ∀ w ∈ u_ws RX7 TX7 5, w ∈ WD := by
  intro w hw
  obtain ⟨k, hk, rfl⟩ := List.mem_map.mp hw
  have hk := List.mem_range.mp hk
  have h : ∀ k, k < 5 → tables_1[([254, 256, 258, 260, 262] : List Nat).getD k 0]? = some (u_lay RX7 TX7 k) ∧ goodWord (u_lay RX7 TX7 k) = true := by decide +kernel
  exact inW (h k hk).1 (h k hk).2

theorem inX8 : ∀ w ∈ u_ws RX8 TX8 3, w ∈ WD := by
  intro w hw
  obtain ⟨k, hk, rfl⟩ := List.mem_map.mp hw
  have hk := List.mem_range.mp hk
  have h : ∀ k, k < 3 → tables_1[([271, 273, 275] : List Nat).getD k 0]? = some (u_lay RX8 TX8 k) ∧ goodWord (u_lay RX8 TX8 k) = true := by decide +kernel
  exact inW (h k hk).1 (h k hk).2

theorem inX9 : ∀ w ∈ u_ws RX9 TX9 8, w ∈ WD := by
  intro w hw
  obtain ⟨k, hk, rfl⟩ := List.mem_map.mp hw
  have hk := List.mem_range.mp hk
  have h : ∀ k, k < 8 → tables_1[([350, 352, 354, 356, 358, 360, 362, 364] : List Nat).getD k 0]? = some (u_lay RX9 TX9 k) ∧ goodWord (u_lay RX9 TX9 k) = true := by decide +kernel
  exact inW (h k hk).1 (h k hk).2

theorem inX10 : ∀ w ∈ u_ws RX10 TX10 7, w ∈ WD := by
  intro w hw
  obtain ⟨k, hk, rfl⟩ := List.mem_map.mp hw
  have hk := List.mem_range.mp hk
  have h : ∀ k, k < 7 → tables_1[([207, 209, 211, 213, 215, 217, 219] : List Nat).getD k 0]? = some (u_lay RX10 TX10 k) ∧ goodWord (u_lay RX10 TX10 k) = true := by decide +kernel
  exact inW (h k hk).1 (h k hk).2

theorem inX11 : ∀ w ∈ u_ws RX11 TX11 20, w ∈ WD := by
  intro w hw
  obtain ⟨k, hk, rfl⟩ := List.mem_map.mp hw
  have hk := List.mem_range.mp hk
  have h : ∀ k, k < 20 → tables_1[([450, 452, 454, 456, 458, 460, 462, 464, 466, 468, 470, 472, 474, 476, 478, 480, 482, 484, 486, 488] : List Nat).getD k 0]? = some (u_lay RX11 TX11 k) ∧ goodWord (u_lay RX11 TX11 k) = true := by decide +kernel
  exact inW (h k hk).1 (h k hk).2

theorem inX12 : ∀ w ∈ u_ws RX12 TX12 51, w ∈ WD := by
  intro w hw
  obtain ⟨k, hk, rfl⟩ := List.mem_map.mp hw
  have hk := List.mem_range.mp hk
  have h : ∀ k, k < 51 → tables_1[([1468, 1470, 1472, 1474, 1476, 1478, 1480, 1482, 1484, 1486, 1488, 1490, 1492, 1494, 1496, 1498, 1500, 1502, 1504, 1506, 1508, 1510, 1512, 1514, 1516, 1518, 1520, 1522, 1524, 1526, 1528, 1530, 1532, 1534, 1536, 1538, 1540, 1542, 1544, 1546, 1548, 1550, 1552, 1554, 1556, 1558, 1560, 1562, 1564, 1566, 1568] : List Nat).getD k 0]? = some (u_lay RX12 TX12 k) ∧ goodWord (u_lay RX12 TX12 k) = true := by decide +kernel
  exact inW (h k hk).1 (h k hk).2

def ownN : Nat → String := fun o => match o with
  | 0 => RX0
  | 1 => RX1
  | 2 => RX2
  | 3 => RX3
  | 4 => RX4
  | 5 => RX5
  | 6 => RX6
  | 7 => RX7
  | 8 => RX8
  | 9 => RX9
  | 10 => RX10
  | 11 => RX11
  | 12 => RX12
  | 13 => "java/lang/Integer"
  | 14 => "java/lang/String"
  | 15 => "java/lang/StringLatin1"
  | _ => "LostMuseumLaw"

def fl_0 : List (Nat × Nat × Nat × Nat) := [(66, 4, 0, 84), (46, 4, 1, 87), (119, 4, 5, 104), (86, 4, 6, 108), (56, 4, 9, 114), (59, 4, 10, 121), (51, 7, 2, 245), (38, 0, 0, 301), (42, 0, 1, 302), (9, 0, 2, 303), (15, 0, 3, 304), (18, 0, 4, 305), (22, 0, 5, 306), (25, 0, 6, 307), (28, 0, 7, 308), (31, 0, 8, 309), (35, 0, 9, 311)]

def fl_1 : List (Nat × Nat × Nat × Nat) := [(35, 4, 1, 88), (51, 4, 9, 115), (55, 4, 10, 124), (44, 7, 0, 235), (23, 7, 2, 243), (9, 1, 0, 285), (15, 1, 1, 286), (19, 1, 2, 287)]

def fl_2 : List (Nat × Nat × Nat × Nat) := [(84, 5, 4, 48), (71, 5, 5, 52), (142, 4, 4, 101), (138, 4, 9, 119), (140, 4, 10, 127), (130, 4, 11, 130), (135, 4, 12, 133), (9, 2, 0, 176), (15, 2, 1, 177), (18, 2, 2, 178), (21, 2, 3, 179), (25, 2, 4, 180), (144, 7, 3, 250)]

def fl_3 : List (Nat × Nat × Nat × Nat) := [(48, 4, 1, 89), (66, 4, 9, 116), (63, 4, 10, 123), (39, 7, 2, 244), (25, 3, 0, 374), (29, 3, 1, 375), (9, 3, 2, 376), (15, 3, 3, 377), (18, 3, 4, 378), (21, 3, 5, 379)]

def fl_4 : List (Nat × Nat × Nat × Nat) := [(78, 5, 4, 46), (121, 5, 5, 53), (9, 4, 0, 82), (15, 4, 1, 86), (18, 4, 2, 93), (21, 4, 3, 96), (24, 4, 4, 98), (28, 4, 5, 102), (31, 4, 6, 105), (34, 4, 7, 109), (37, 4, 8, 111), (40, 4, 9, 113), (43, 4, 10, 120), (46, 4, 11, 128), (49, 4, 12, 131), (52, 4, 13, 134)]

def fl_5 : List (Nat × Nat × Nat × Nat) := [(33, 5, 0, 40), (9, 5, 1, 41), (15, 5, 2, 42), (18, 5, 3, 43), (21, 5, 4, 44), (24, 5, 5, 49), (27, 5, 6, 54), (30, 5, 7, 56)]

def fl_6 : List (Nat × Nat × Nat × Nat) := [(68, 4, 1, 90), (65, 4, 6, 106), (53, 4, 10, 122), (71, 7, 0, 236), (31, 6, 0, 399), (35, 6, 1, 400), (39, 6, 2, 401), (9, 6, 3, 402), (15, 6, 4, 403), (18, 6, 5, 404), (22, 6, 6, 405), (25, 6, 7, 407), (28, 6, 8, 409)]

def fl_7 : List (Nat × Nat × Nat × Nat) := [(28, 4, 13, 135), (9, 7, 0, 234), (15, 7, 1, 239), (18, 7, 2, 242), (21, 7, 3, 247), (25, 7, 4, 251)]

def fl_8 : List (Nat × Nat × Nat × Nat) := [(12, 8, 0, 266), (18, 8, 1, 268), (22, 8, 2, 269)]

def fl_9 : List (Nat × Nat × Nat × Nat) := [(50, 5, 4, 45), (57, 5, 5, 50), (102, 4, 0, 85), (117, 4, 4, 99), (84, 4, 8, 112), (32, 9, 0, 341), (36, 9, 1, 342), (9, 9, 2, 343), (15, 9, 3, 344), (18, 9, 4, 345), (21, 9, 5, 346), (25, 9, 6, 347), (28, 9, 7, 348)]

def fl_10 : List (Nat × Nat × Nat × Nat) := [(85, 5, 4, 47), (103, 5, 5, 51), (106, 4, 1, 91), (95, 4, 2, 94), (133, 4, 9, 118), (146, 4, 10, 126), (11, 10, 0, 198), (15, 10, 1, 199), (18, 10, 2, 200), (21, 10, 3, 201), (24, 10, 4, 202), (28, 10, 5, 203), (31, 10, 6, 205), (136, 7, 0, 238), (143, 7, 1, 241), (153, 7, 3, 249), (130, 7, 4, 252)]

def fl_11 : List (Nat × Nat × Nat × Nat) := [(368, 5, 6, 55), (367, 5, 7, 57), (154, 4, 0, 83), (187, 4, 1, 92), (190, 4, 2, 95), (223, 4, 3, 97), (219, 4, 4, 100), (226, 4, 5, 103), (233, 4, 6, 107), (236, 4, 7, 110), (242, 4, 9, 117), (245, 4, 10, 125), (248, 4, 11, 129), (251, 4, 12, 132), (173, 10, 5, 204), (170, 10, 6, 206), (193, 7, 0, 237), (213, 7, 1, 240), (207, 7, 2, 246), (258, 7, 3, 248), (268, 7, 4, 253), (72, 8, 0, 267), (158, 8, 2, 270), (298, 0, 8, 310), (301, 0, 9, 312), (177, 9, 7, 349), (354, 6, 6, 406), (356, 6, 7, 408), (359, 6, 8, 410), (9, 11, 0, 430), (13, 11, 1, 431), (17, 11, 2, 432), (20, 11, 3, 433), (23, 11, 4, 434), (26, 11, 5, 435), (37, 11, 6, 436), (44, 11, 7, 437), (48, 11, 8, 438), (54, 11, 9, 439), (61, 11, 10, 440), (104, 11, 11, 441), (68, 11, 12, 442), (77, 11, 13, 443), (29, 11, 14, 444), (76, 11, 15, 445), (86, 11, 16, 446), (95, 11, 17, 447), (111, 11, 18, 448), (120, 11, 19, 449)]

def fl_12 : List (Nat × Nat × Nat × Nat) := [(110, 12, 0, 1417), (113, 12, 1, 1418), (116, 12, 2, 1419), (9, 12, 3, 1420), (119, 12, 4, 1421), (126, 12, 5, 1422), (129, 12, 6, 1423), (166, 12, 7, 1424), (169, 12, 8, 1425), (13, 12, 9, 1426), (17, 12, 10, 1427), (20, 12, 11, 1428), (23, 12, 12, 1429), (26, 12, 13, 1430), (29, 12, 14, 1431), (32, 12, 15, 1432), (35, 12, 16, 1433), (38, 12, 17, 1434), (41, 12, 18, 1435), (46, 12, 19, 1436), (49, 12, 20, 1437), (203, 12, 21, 1438), (218, 12, 22, 1439), (52, 12, 23, 1440), (55, 12, 24, 1441), (58, 12, 25, 1442), (61, 12, 26, 1443), (64, 12, 27, 1444), (67, 12, 28, 1445), (70, 12, 29, 1446), (262, 12, 30, 1447), (73, 12, 31, 1448), (76, 12, 32, 1449), (79, 12, 33, 1450), (82, 12, 34, 1451), (206, 12, 35, 1452), (209, 12, 36, 1453), (212, 12, 37, 1454), (215, 12, 38, 1455), (399, 12, 39, 1456), (286, 12, 40, 1457), (296, 12, 41, 1458), (85, 12, 42, 1459), (88, 12, 43, 1460), (91, 12, 44, 1461), (94, 12, 45, 1462), (370, 12, 46, 1463), (97, 12, 47, 1464), (101, 12, 48, 1465), (383, 12, 49, 1466), (386, 12, 50, 1467)]

def flT : Nat → List (Nat × Nat × Nat × Nat) := fun o => match o with
  | 0 => fl_0
  | 1 => fl_1
  | 2 => fl_2
  | 3 => fl_3
  | 4 => fl_4
  | 5 => fl_5
  | 6 => fl_6
  | 7 => fl_7
  | 8 => fl_8
  | 9 => fl_9
  | 10 => fl_10
  | 11 => fl_11
  | 12 => fl_12
  | _ => []

def lk {α : Type} : List (Nat × α) → Nat → Option α
  | [], _ => none
  | q :: r, i => bif Nat.beq q.1 i then some q.2 else lk r i
theorem lk_mem {α : Type} {l : List (Nat × α)} {i : Nat} {a : α} (h : lk l i = some a) : (i, a) ∈ l := by
  induction l with
  | nil => cases h
  | cons q r ih =>
    unfold lk at h
    cases hb : Nat.beq q.1 i with
    | true =>
      rw [hb] at h
      have h1 : q.1 = i := Nat.eq_of_beq_eq_true hb
      have h2 : q.2 = a := Option.some.inj h
      rw [← h1, ← h2]
      exact List.mem_cons_self
    | false =>
      rw [hb] at h
      exact List.mem_cons_of_mem _ (ih h)
def chF (o : Nat) (q : Nat × Nat × Nat × Nat) : Bool := match classes[q.2.1]? with
  | some (_, T, N) => decide (q.2.2.1 < N) && decide (tables_1[q.2.2.2]? = some (Cond.fieldLink (ownN o) q.1 (T q.2.2.1).1 (T q.2.2.1).2.1 (T q.2.2.1).2.2.1)) && goodWord (Cond.fieldLink (ownN o) q.1 (T q.2.2.1).1 (T q.2.2.1).2.1 (T q.2.2.1).2.2.1)
  | none => false

theorem chF_0 : (fl_0).all (chF 0) = true := by decide +kernel

theorem chF_1 : (fl_1).all (chF 1) = true := by decide +kernel

theorem chF_2 : (fl_2).all (chF 2) = true := by decide +kernel

theorem chF_3 : (fl_3).all (chF 3) = true := by decide +kernel

theorem chF_4 : (fl_4).all (chF 4) = true := by decide +kernel

theorem chF_5 : (fl_5).all (chF 5) = true := by decide +kernel

theorem chF_6 : (fl_6).all (chF 6) = true := by decide +kernel

theorem chF_7 : (fl_7).all (chF 7) = true := by decide +kernel

theorem chF_8 : (fl_8).all (chF 8) = true := by decide +kernel

theorem chF_9 : (fl_9).all (chF 9) = true := by decide +kernel

theorem chF_10 : (fl_10).all (chF 10) = true := by decide +kernel

theorem chF_11 : (fl_11).all (chF 11) = true := by decide +kernel

theorem chF_12 : (fl_12).all (chF 12) = true := by decide +kernel

theorem chF_all : ∀ o, o < 17 → (flT o).all (chF o) = true := by
  intro o h
  match o, h with
  | 0, _ => exact chF_0
  | 1, _ => exact chF_1
  | 2, _ => exact chF_2
  | 3, _ => exact chF_3
  | 4, _ => exact chF_4
  | 5, _ => exact chF_5
  | 6, _ => exact chF_6
  | 7, _ => exact chF_7
  | 8, _ => exact chF_8
  | 9, _ => exact chF_9
  | 10, _ => exact chF_10
  | 11, _ => exact chF_11
  | 12, _ => exact chF_12
  | 13, _ => rfl
  | 14, _ => rfl
  | 15, _ => rfl
  | 16, _ => rfl
  | k + 17, h => exact absurd h (by omega)

def icT : Nat → List (Nat × Int32 × Nat) := fun o => match o with
  | 0 => []
  | 1 => []
  | 2 => []
  | 3 => []
  | 4 => []
  | 5 => [(59, 100000, 808)]
  | 6 => [(82, 1103515245, 1386)]
  | 7 => []
  | 8 => []
  | 9 => []
  | 10 => []
  | 11 => []
  | 12 => [(143, 100000, 1639), (389, 1103515245, 1970)]
  | 13 => [(265, 1431655765, 558), (266, 858993459, 559), (267, 252645135, 560)]
  | _ => []

def lcT : Nat → List (Nat × Int64 × Nat) := fun o => match o with
  | 0 => [(115, 68719476736, 1300), (117, 16, 1301)]
  | 1 => []
  | 2 => []
  | 3 => []
  | 4 => []
  | 5 => []
  | 6 => []
  | 7 => []
  | 8 => []
  | 9 => []
  | 10 => []
  | 11 => []
  | 12 => [(379, 68719476736, 1936), (381, 16, 1937)]
  | _ => []

theorem icT_ok : ∀ o, o < 17 → (icT o).all (fun q => decide (tables_1[q.2.2]? = some (Cond.constant (ownN o) q.1 q.2.1)) && goodWord (Cond.constant (ownN o) q.1 q.2.1)) = true := by decide +kernel

theorem lcT_ok : ∀ o, o < 17 → (lcT o).all (fun q => decide (tables_1[q.2.2]? = some (Cond.constantLong (ownN o) q.1 q.2.1)) && goodWord (Cond.constantLong (ownN o) q.1 q.2.1)) = true := by decide +kernel

def strT : List (String × Nat × String × Nat) := [("LostMuseum", 373, "out of its range", 0), ("LostMuseum$Plan", 88, "room", 1), ("LostMuseum$Plan", 98, "door", 2), ("LostMuseum$Plan", 103, "exit", 3), ("LostMuseum$Plan", 108, "tour", 4), ("LostMuseum$Plan", 113, "warder", 5), ("LostMuseum$Law", 98, "plan", 6), ("LostMuseum$Law", 104, "hour", 7), ("LostMuseum$Law", 106, "day", 8), ("LostMuseum$Law", 108, "door", 2), ("LostMuseum$Law", 110, "from", 9), ("LostMuseum$Law", 112, "to", 10), ("LostMuseum$Law", 114, "sees", 11), ("LostMuseum$Law", 116, "used", 12), ("LostMuseum$Law", 118, "least", 13), ("LostMuseum$Law", 120, "most", 14), ("LostMuseum$Work", 60, "go", 15), ("LostMuseum$Work", 70, "bar", 16), ("LostMuseum$Work", 75, "unbar", 17), ("LostMuseum$Work", 77, "hour", 7), ("LostMuseum$Work", 83, "again", 18), ("LostMuseum", 376, "no such room", 19), ("LostMuseum", 378, "no such door", 20), ("LostMuseum", 263, "no such tour", 21)]

def lenT : List Nat := [16, 4, 4, 4, 4, 6, 4, 4, 3, 4, 2, 4, 4, 5, 4, 2, 3, 5, 5, 12, 12, 12]

def bytT : List (List Int32) := [[111, 117, 116, 32, 111, 102, 32, 105, 116, 115, 32, 114, 97, 110, 103, 101], [114, 111, 111, 109], [100, 111, 111, 114], [101, 120, 105, 116], [116, 111, 117, 114], [119, 97, 114, 100, 101, 114], [112, 108, 97, 110], [104, 111, 117, 114], [100, 97, 121], [102, 114, 111, 109], [116, 111], [115, 101, 101, 115], [117, 115, 101, 100], [108, 101, 97, 115, 116], [109, 111, 115, 116], [103, 111], [98, 97, 114], [117, 110, 98, 97, 114], [97, 103, 97, 105, 110], [110, 111, 32, 115, 117, 99, 104, 32, 114, 111, 111, 109], [110, 111, 32, 115, 117, 99, 104, 32, 100, 111, 111, 114], [110, 111, 32, 115, 117, 99, 104, 32, 116, 111, 117, 114]]

abbrev nTX : Nat := 22

def nestT : List (String × Nat × MethodName × String) := [("LostMuseum", 43, ⟨"LostMuseum$Plan", "<init>", "()V"⟩, "LostMuseum"), ("LostMuseum", 60, ⟨"LostMuseum$Work", "<init>", "()V"⟩, "LostMuseum"), ("LostMuseum$Timeline", 11, ⟨"LostMuseum$State", "<init>", "()V"⟩, "LostMuseum"), ("LostMuseum$Graph", 89, ⟨"LostMuseum", "lowest", "(I)I"⟩, "LostMuseum"), ("LostMuseum$Sleeper", 83, ⟨"LostMuseum", "lowest", "(I)I"⟩, "LostMuseum")]

def declT : List MethodName := [⟨"java/lang/RuntimeException", "<init>", "()V"⟩, ⟨"java/lang/RuntimeException", "<init>", "(Ljava/lang/String;)V"⟩, ⟨"java/lang/Exception", "<init>", "()V"⟩, ⟨"java/lang/Exception", "<init>", "(Ljava/lang/String;)V"⟩, ⟨"java/lang/Throwable", "<init>", "()V"⟩, ⟨"java/lang/Throwable", "<init>", "(Ljava/lang/String;)V"⟩]

def castT : List (String × String) := [("java/lang/IllegalArgumentException", "java/lang/IllegalArgumentException"), ("java/util/NoSuchElementException", "java/util/NoSuchElementException"), ("LostMuseum", "java/lang/Object"), ("LostMuseum$Reader", "java/lang/Object"), ("LostMuseum$Plan", "java/lang/Object"), ("LostMuseum$Law", "java/lang/Object"), ("LostMuseum$Work", "java/lang/Object"), ("LostMuseum$Timeline", "java/lang/Object"), ("LostMuseum$State", "java/lang/Object"), ("LostMuseum$Hours", "java/lang/Object"), ("LostMuseum$Graph", "java/lang/Object"), ("LostMuseum$Walk", "java/lang/Object"), ("LostMuseum$Parting", "java/lang/Object"), ("LostMuseum$Sleeper", "java/lang/Object"), ("LostMuseumModel", "java/lang/Object"), ("java/lang/IllegalArgumentException", "java/lang/Object"), ("java/util/NoSuchElementException", "java/lang/Object"), ("java/lang/Throwable", "java/lang/Object"), ("java/lang/String", "java/lang/Object")]

def kd (c : Nat) : Nat × Nat := if c < 1566 then (if c < 24 then (if c < 15 then (if c < 5 then (if c < 2 then (if c < 1 then ((0, 12)) else ((1, 600))) else (if c < 3 then ((1, 2)) else ((1, 4)))) else (if c < 11 then (if c < 9 then ((1, 10)) else ((1, 6))) else (if c < 13 then ((5, 24)) else ((5, 160))))) else (if c < 20 then (if c < 17 then (if c < 16 then ((1, 160)) else ((1, 8))) else (if c < 19 then ((1, 12)) else ((5, 80)))) else (if c < 22 then (if c < 21 then ((1, 56)) else ((5, 16))) else (if c < 23 then ((5, 3)) else ((5, 10)))))) else (if c < 494 then (if c < 30 then (if c < 27 then (if c < 26 then ((5, 13)) else ((5, 1024))) else (if c < 28 then ((1, 24)) else ((4, 10)))) else (if c < 398 then (if c < 78 then ((1, 4)) else ((1, 2))) else (if c < 478 then ((1, 4)) else ((1, 56))))) else (if c < 1559 then (if c < 1557 then (if c < 497 then ((1, 953)) else ((1, 10))) else (if c < 1558 then ((4, 1)) else ((0, 11)))) else (if c < 1561 then (if c < 1560 then ((2, 600)) else ((0, 5))) else (if c < 1562 then ((0, 4)) else ((1, 10))))))) else (if c < 1596 then (if c < 1583 then (if c < 1573 then (if c < 1571 then (if c < 1567 then ((1, 8)) else ((1, 24))) else (if c < 1572 then ((1, 6)) else ((0, 4)))) else (if c < 1578 then (if c < 1577 then ((1, 10)) else ((1, 8))) else (if c < 1582 then ((1, 24)) else ((1, 6))))) else (if c < 1588 then (if c < 1586 then (if c < 1584 then ((0, 2)) else ((1, 150))) else (if c < 1587 then ((1, 48)) else ((0, 10)))) else (if c < 1593 then (if c < 1592 then ((1, 150)) else ((0, 9))) else (if c < 1595 then ((1, 12)) else ((1, 120)))))) else (if c < 1610 then (if c < 1602 then (if c < 1599 then (if c < 1598 then ((3, 1024)) else ((0, 1))) else (if c < 1600 then ((0, 0)) else ((1, 10)))) else (if c < 1606 then (if c < 1603 then ((4, 10)) else ((1, 1024))) else (if c < 1607 then ((0, 3)) else ((1, 10))))) else (if c < 1615 then (if c < 1613 then (if c < 1611 then ((0, 6)) else ((1, 96))) else (if c < 1614 then ((7, 3)) else ((0, 8)))) else (if c < 1617 then (if c < 1616 then ((0, 8)) else ((0, 8))) else (if c < 1618 then ((0, 8)) else (if c < 1622 then ((6, 16)) else (if (c - 1622) % 3 = 0 then (0, 7) else if (c - 1622) % 3 = 1 then (1, 24) else (1, 6))))))))

def rf (c j : Nat) : Nat := if c < 1583 then (if c < 23 then (if c < 14 then (if c < 11 then (if c < 1 then (([0, 0, 0, 0, 0, 0, 0, 0, 0, 1, 2, 3, 4, 5, 6, 7, 8, 9, 10, 11, 12, 0, 0, 13, 14, 15, 16, 17, 18, 19, 0, 20, 21, 22, 23, 0, 0, 0, 0, 0, 0, 0, 24, 25, 26, 27, 0, 28, 29] : List Nat).getD j 0) else (0)) else (if c < 12 then (30 + j) else (if c < 13 then (54 + j) else (78 + j)))) else (if c < 20 then (if c < 15 then (238 + j) else (if c < 19 then (0) else (398 + j))) else (if c < 21 then (0) else (if c < 22 then (478 + j) else (494 + j))))) else (if c < 1559 then (if c < 26 then (if c < 24 then (497 + j) else (if c < 25 then (507 + j) else (520 + j))) else (if c < 27 then (533 + j) else (if c < 1558 then (0) else (([1559, 0, 0, 0, 0, 0, 1560, 1561, 1572, 1583, 1587, 1592, 1614, 1613, 0, 1622, 1598, 1599, 1606, 1610] : List Nat).getD j 0)))) else (if c < 1562 then (if c < 1560 then (0) else (if c < 1561 then (([1559] : List Nat).getD j 0) else (([0, 0, 0, 0, 1562, 1563, 1564, 1565, 1566, 1567, 1568, 1569, 1570, 1571] : List Nat).getD j 0))) else (if c < 1572 then (0) else (if c < 1573 then (([0, 0, 0, 0, 1573, 1574, 1575, 1576, 1577, 1578, 1579, 1580, 1581, 1582] : List Nat).getD j 0) else (0)))))) else (if c < 1610 then (if c < 1593 then (if c < 1587 then (if c < 1584 then (([1584, 1585, 1586] : List Nat).getD j 0) else (0)) else (if c < 1588 then (([1588, 1589, 1590, 1591] : List Nat).getD j 0) else (if c < 1592 then (0) else (([1561, 1599, 1593, 1594, 1595, 1596, 1597] : List Nat).getD j 0)))) else (if c < 1600 then (if c < 1598 then (0) else (if c < 1599 then (([1561, 1622, 1583] : List Nat).getD j 0) else (([1561, 1622, 1600, 1601, 1602, 1603, 1604, 1605] : List Nat).getD j 0))) else (if c < 1606 then (0) else (if c < 1607 then (([1561, 1622, 1607, 1608, 1609] : List Nat).getD j 0) else (0))))) else (if c < 1617 then (if c < 1614 then (if c < 1611 then (([1561, 1622, 1598, 1611, 1612] : List Nat).getD j 0) else (if c < 1613 then (0) else (1615 + j))) else (if c < 1615 then (([1622, 1618] : List Nat).getD j 0) else (if c < 1616 then (([1673, 1619] : List Nat).getD j 0) else (([1724, 1620] : List Nat).getD j 0)))) else (if c < 1620 then (if c < 1618 then (([1775, 1621] : List Nat).getD j 0) else (if c < 1619 then (1625 + 3 * j) else (1676 + 3 * j))) else (if c < 1621 then (1727 + 3 * j) else (if c < 1622 then (1778 + 3 * j) else (if j = 3 then c + 1 else c + 2))))))

def frT : List (List Bool) := [[true, true, true, true, true, true, true, true, false, false], [true, true, true], [true, true, true, false, false], [true, true, true, true, true, false], [false, false, false, false, true, true, true, true, true, true, true, true, true, true], [true, false, false, false, false, false, false, false], [true, true, true, true, true, false, false, false, false], [false, false, false, true, true], [true, true, false], [true, true, true, true, true, true, true, false], [true, true, true, true, false, false, false], [true, false, false, false, false, false, true, true, true, true, true, true, true, true, false, true, true, true, true, true], [false, false, false, false, false, false, false, false, false, true, true, true, true, true, true, true, true, true, true, true, true, false, false, true, true, true, true, true, true, true, false, true, true, true, true, false, false, false, false, false, false, false, true, true, true, true, false, true, true, false, false]]

def frq (ci j : Nat) : Bool := (frT.getD ci []).getD j false

def nfl (ci : Nat) : Nat := ([10, 3, 5, 6, 14, 8, 9, 5, 3, 8, 7, 20, 51] : List Nat).getD ci 0

abbrev NC : Nat := 1826

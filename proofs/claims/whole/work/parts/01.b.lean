/-! Names: classes, fields, kinds (by program, out of the listing). -/
def fT_0 : u_T := fun k => match k with
  | 0 => ("FederationWire$Frame", "kind", "I", false)
  | 1 => ("FederationWire$Frame", "number", "I", false)
  | 2 => ("FederationWire$Frame", "length", "I", false)
  | _ => ("FederationWire$Frame", "body", "[I", true)
def fY_0 : Nat → FieldType := fun k => match k with
  | 0 => .int
  | 1 => .int
  | 2 => .int
  | _ => (.array .int)
def fT_1 : u_T := fun k => match k with
  | 0 => ("FederationWire$Memory", "number", "I", false)
  | 1 => ("FederationWire$Memory", "askStep", "I", false)
  | 2 => ("FederationWire$Memory", "latestStep", "I", false)
  | _ => ("FederationWire$Memory", "rows", "LFederationWire$Pairs;", true)
def fY_1 : Nat → FieldType := fun k => match k with
  | 0 => .int
  | 1 => .int
  | 2 => .int
  | _ => (.object "FederationWire$Pairs")
def fT_2 : u_T := fun k => match k with
  | 0 => ("FederationWire$Pairs", "keys", "[I", true)
  | 1 => ("FederationWire$Pairs", "values", "[I", true)
  | _ => ("FederationWire$Pairs", "size", "I", false)
def fY_2 : Nat → FieldType := fun k => match k with
  | 0 => (.array .int)
  | 1 => (.array .int)
  | _ => .int
def fT_3 : u_T := fun k => match k with
  | 0 => ("FederationWire$Request", "house", "I", true)
  | 1 => ("FederationWire$Request", "silent", "Z", true)
  | 2 => ("FederationWire$Request", "partSize", "I", true)
  | 3 => ("FederationWire$Request", "bindings", "LFederationWire$Pairs;", true)
  | 4 => ("FederationWire$Request", "keys", "[I", true)
  | 5 => ("FederationWire$Request", "keyCount", "I", false)
  | 6 => ("FederationWire$Request", "keysAsked", "I", false)
  | 7 => ("FederationWire$Request", "rows", "LFederationWire$Pairs;", true)
  | 8 => ("FederationWire$Request", "rowsOfPart", "I", false)
  | 9 => ("FederationWire$Request", "latest", "LFederationWire$Frame;", true)
  | 10 => ("FederationWire$Request", "number", "I", true)
  | 11 => ("FederationWire$Request", "step", "I", false)
  | 12 => ("FederationWire$Request", "sentAt", "I", false)
  | 13 => ("FederationWire$Request", "repeats", "I", false)
  | 14 => ("FederationWire$Request", "state", "I", false)
  | _ => ("FederationWire$Request", "why", "I", false)
def fY_3 : Nat → FieldType := fun k => match k with
  | 0 => .int
  | 1 => .boolean
  | 2 => .int
  | 3 => (.object "FederationWire$Pairs")
  | 4 => (.array .int)
  | 5 => .int
  | 6 => .int
  | 7 => (.object "FederationWire$Pairs")
  | 8 => .int
  | 9 => (.object "FederationWire$Frame")
  | 10 => .int
  | 11 => .int
  | 12 => .int
  | 13 => .int
  | 14 => .int
  | _ => .int
def fT_4 : u_T := fun k => match k with
  | 0 => ("FederationWire$ServingEnd", "facts", "LFederationWire$Pairs;", true)
  | 1 => ("FederationWire$ServingEnd", "memories", "[LFederationWire$Memory;", true)
  | 2 => ("FederationWire$ServingEnd", "remembered", "I", false)
  | 3 => ("FederationWire$ServingEnd", "repeats", "I", false)
  | _ => ("FederationWire$ServingEnd", "answer", "LFederationWire$Frame;", true)
def fY_4 : Nat → FieldType := fun k => match k with
  | 0 => (.object "FederationWire$Pairs")
  | 1 => (.array (.object "FederationWire$Memory"))
  | 2 => .int
  | 3 => .int
  | _ => (.object "FederationWire$Frame")
def fT_5 : u_T := fun k => match k with
  | 0 => ("FederationWire$Wire", "live", "Z", false)
  | 1 => ("FederationWire$Wire", "outRow", "[I", true)
  | 2 => ("FederationWire$Wire", "outFirst", "I", false)
  | 3 => ("FederationWire$Wire", "outSize", "I", false)
  | 4 => ("FederationWire$Wire", "incoming", "LFederationWire$Frame;", true)
  | 5 => ("FederationWire$Wire", "came", "I", false)
  | _ => ("FederationWire$Wire", "announced", "I", false)
def fY_5 : Nat → FieldType := fun k => match k with
  | 0 => .boolean
  | 1 => (.array .int)
  | 2 => .int
  | 3 => .int
  | 4 => (.object "FederationWire$Frame")
  | 5 => .int
  | _ => .int
def fT_6 : u_T := fun k => match k with
  | 0 => ("FederationWire", "wires", "[LFederationWire$Wire;", true)
  | 1 => ("FederationWire", "requests", "[LFederationWire$Request;", true)
  | 2 => ("FederationWire", "requestCount", "I", false)
  | 3 => ("FederationWire", "nextBindings", "LFederationWire$Pairs;", true)
  | 4 => ("FederationWire", "servingEnd", "LFederationWire$ServingEnd;", true)
  | 5 => ("FederationWire", "estimates", "[I", true)
  | 6 => ("FederationWire", "estimated", "[Z", true)
  | 7 => ("FederationWire", "bulk", "I", false)
  | 8 => ("FederationWire", "patience", "I", false)
  | 9 => ("FederationWire", "retries", "I", false)
  | 10 => ("FederationWire", "clock", "I", false)
  | 11 => ("FederationWire", "dropped", "I", false)
  | _ => ("FederationWire", "lost", "I", false)
def fY_6 : Nat → FieldType := fun k => match k with
  | 0 => (.array (.object "FederationWire$Wire"))
  | 1 => (.array (.object "FederationWire$Request"))
  | 2 => .int
  | 3 => (.object "FederationWire$Pairs")
  | 4 => (.object "FederationWire$ServingEnd")
  | 5 => (.array .int)
  | 6 => (.array .boolean)
  | 7 => .int
  | 8 => .int
  | 9 => .int
  | 10 => .int
  | 11 => .int
  | _ => .int
def fT_7 : u_T := fun k => match k with
  | 0 => ("FederationWireModel", "isUp", "[Z", true)
  | 1 => ("FederationWireModel", "outs", "[I", true)
  | 2 => ("FederationWireModel", "outSizes", "[I", true)
  | 3 => ("FederationWireModel", "opens", "[I", true)
  | 4 => ("FederationWireModel", "openSizes", "[I", true)
  | 5 => ("FederationWireModel", "bulk", "I", false)
  | 6 => ("FederationWireModel", "patience", "I", false)
  | 7 => ("FederationWireModel", "retries", "I", false)
  | 8 => ("FederationWireModel", "clock", "I", false)
  | 9 => ("FederationWireModel", "dropped", "I", false)
  | 10 => ("FederationWireModel", "lost", "I", false)
  | 11 => ("FederationWireModel", "bindings", "I", false)
  | 12 => ("FederationWireModel", "nextKeys", "[I", true)
  | 13 => ("FederationWireModel", "nextTags", "[I", true)
  | 14 => ("FederationWireModel", "requests", "I", false)
  | 15 => ("FederationWireModel", "houses", "[I", true)
  | 16 => ("FederationWireModel", "isSilent", "[Z", true)
  | 17 => ("FederationWireModel", "states", "[I", true)
  | 18 => ("FederationWireModel", "whys", "[I", true)
  | 19 => ("FederationWireModel", "boundCounts", "[I", true)
  | 20 => ("FederationWireModel", "boundKeys", "[I", true)
  | 21 => ("FederationWireModel", "boundTags", "[I", true)
  | 22 => ("FederationWireModel", "keyCounts", "[I", true)
  | 23 => ("FederationWireModel", "keys", "[I", true)
  | 24 => ("FederationWireModel", "bulks", "[I", true)
  | 25 => ("FederationWireModel", "asked", "[I", true)
  | 26 => ("FederationWireModel", "rowCounts", "[I", true)
  | 27 => ("FederationWireModel", "rowKeys", "[I", true)
  | 28 => ("FederationWireModel", "rowValues", "[I", true)
  | 29 => ("FederationWireModel", "partRows", "[I", true)
  | 30 => ("FederationWireModel", "steps", "[I", true)
  | 31 => ("FederationWireModel", "repeats", "[I", true)
  | 32 => ("FederationWireModel", "sentAt", "[I", true)
  | 33 => ("FederationWireModel", "lastKinds", "[I", true)
  | 34 => ("FederationWireModel", "lastSizes", "[I", true)
  | 35 => ("FederationWireModel", "lastBytes", "[I", true)
  | 36 => ("FederationWireModel", "estimates", "[I", true)
  | 37 => ("FederationWireModel", "isEstimated", "[Z", true)
  | 38 => ("FederationWireModel", "facts", "I", false)
  | 39 => ("FederationWireModel", "factKeys", "[I", true)
  | 40 => ("FederationWireModel", "factValues", "[I", true)
  | 41 => ("FederationWireModel", "known", "I", false)
  | 42 => ("FederationWireModel", "doubles", "I", false)
  | 43 => ("FederationWireModel", "numbers", "[I", true)
  | 44 => ("FederationWireModel", "askSteps", "[I", true)
  | 45 => ("FederationWireModel", "lastSteps", "[I", true)
  | 46 => ("FederationWireModel", "foundCounts", "[I", true)
  | 47 => ("FederationWireModel", "foundKeys", "[I", true)
  | 48 => ("FederationWireModel", "foundValues", "[I", true)
  | 49 => ("FederationWireModel", "made", "I", false)
  | _ => ("FederationWireModel", "bytes", "[I", true)
def fY_7 : Nat → FieldType := fun k => match k with
  | 0 => (.array .boolean)
  | 1 => (.array .int)
  | 2 => (.array .int)
  | 3 => (.array .int)
  | 4 => (.array .int)
  | 5 => .int
  | 6 => .int
  | 7 => .int
  | 8 => .int
  | 9 => .int
  | 10 => .int
  | 11 => .int
  | 12 => (.array .int)
  | 13 => (.array .int)
  | 14 => .int
  | 15 => (.array .int)
  | 16 => (.array .boolean)
  | 17 => (.array .int)
  | 18 => (.array .int)
  | 19 => (.array .int)
  | 20 => (.array .int)
  | 21 => (.array .int)
  | 22 => (.array .int)
  | 23 => (.array .int)
  | 24 => (.array .int)
  | 25 => (.array .int)
  | 26 => (.array .int)
  | 27 => (.array .int)
  | 28 => (.array .int)
  | 29 => (.array .int)
  | 30 => (.array .int)
  | 31 => (.array .int)
  | 32 => (.array .int)
  | 33 => (.array .int)
  | 34 => (.array .int)
  | 35 => (.array .int)
  | 36 => (.array .int)
  | 37 => (.array .boolean)
  | 38 => .int
  | 39 => (.array .int)
  | 40 => (.array .int)
  | 41 => .int
  | 42 => .int
  | 43 => (.array .int)
  | 44 => (.array .int)
  | 45 => (.array .int)
  | 46 => (.array .int)
  | 47 => (.array .int)
  | 48 => (.array .int)
  | 49 => .int
  | _ => (.array .int)
def fw_ft : Nat → List (Option Nat) := fun K => match K with
  | 0 => [none, none, none, some 100]
  | 1 => [none, none, none, some 2]
  | 2 => [some 100, some 100, none]
  | 3 => [none, none, none, some 2, some 100, none, none, some 2, none, some 0, none, none, none, none, none, none]
  | 4 => [some 2, some 201, none, none, some 0]
  | 5 => [none, some 100, none, none, some 0, none, none]
  | 6 => [some 205, some 203, none, some 2, some 4, some 100, some 101, none, none, none, none, none, none]
  | 7 => [some 101, some 100, some 100, some 100, some 100, none, none, none, none, none, none, none, some 100, some 100, none, some 100, some 101, some 100, some 100, some 100, some 100, some 100, some 100, some 100, some 100, some 100, some 100, some 100, some 100, some 100, some 100, some 100, some 100, some 100, some 100, some 100, some 100, some 101, none, some 100, some 100, none, none, some 100, some 100, some 100, some 100, some 100, some 100, none, some 100]
  | _ => []
abbrev fw_cl : List vw_C := [("FederationWire$Frame", fT_0, 4), ("FederationWire$Memory", fT_1, 4), ("FederationWire$Pairs", fT_2, 3), ("FederationWire$Request", fT_3, 16), ("FederationWire$ServingEnd", fT_4, 5), ("FederationWire$Wire", fT_5, 7), ("FederationWire", fT_6, 13), ("FederationWireModel", fT_7, 51)]
abbrev fw_tys : List (Nat × FieldType) := [(100, .int), (101, .boolean), (201, .object "FederationWire$Memory"), (203, .object "FederationWire$Request"), (205, .object "FederationWire$Wire")]
abbrev fw_ao : List String := ["FederationWire$Memory", "FederationWire$Request", "FederationWire$Wire"]
def fw_isN : Cond → Bool
  | .fieldLinkNest .. => true
  | .methodLinkNest .. => true
  | _ => false
def fw_WS : List Cond := lw_tbl.filter goodWord
def fw_NS : List Cond := lw_tbl.filter fw_isN
theorem fw_tb {w : Cond} {i : Nat} (h : tables_1[i]? = some w) : w ∈ lw_tbl := List.mem_append_right _ (List.mem_of_getElem? h)
theorem fw_ts {w : Cond} (i : Nat) (h : (k2_sels lw_privs)[i]? = some w) : w ∈ lw_tbl := List.mem_append_left _ (List.mem_of_getElem? h)
theorem fw_in {w : Cond} (h : w ∈ lw_tbl) (hg : goodWord w = true) : w ∈ fw_WS := List.mem_filter.mpr ⟨h, hg⟩
theorem fw_inN {w : Cond} (h : w ∈ lw_tbl) (hg : fw_isN w = true) : w ∈ fw_NS := List.mem_filter.mpr ⟨h, hg⟩
theorem fw_WS_ok : ∀ w ∈ fw_WS, goodWord w = true := fun _ h => (List.mem_filter.mp h).2
theorem fw_NS_ok : ∀ w ∈ fw_NS, fw_isN w = true := fun _ h => (List.mem_filter.mp h).2
theorem fw_NS_in : ∀ w ∈ fw_NS, w ∈ lw_tbl := fun _ h => (List.mem_filter.mp h).1
theorem fw_WS_in : ∀ w ∈ fw_WS, w ∈ lw_tbl := fun _ h => (List.mem_filter.mp h).1
def fw_at (own : String) (idx : Nat) : Cond → Bool
  | .fieldLinkNest o i _ _ _ _ => o == own && i == idx
  | _ => false
theorem fw_noN (own : String) (idx : Nat) (h : lw_tbl.all (fun w => !fw_at own idx w) = true) : ∀ host Cn nm d, Cond.fieldLinkNest own idx Cn nm d host ∉ fw_NS := by
  intro host Cn nm d hm
  have h1 := List.all_eq_true.mp h _ (fw_NS_in _ hm)
  simp [fw_at] at h1

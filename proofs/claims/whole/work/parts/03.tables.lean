/-! The tables of the small machine, by a program (gen2.py) out of the claim's own words: classes, fields, methods. -/
def mj_isNest : Cond → Bool
  | .fieldLinkNest .. => true
  | .methodLinkNest .. => true
  | .declares .. => true
  | .castable .. => true
  | _ => false
def mt_TB : List Cond := lw_tbl.filter goodWord
def mt_NW : List Cond := lw_tbl.filter mj_isNest
theorem mt_in {w : Cond} (i : Nat) (h : tables_1[i]? = some w) (hg : goodWord w = true) : w ∈ mt_TB := List.mem_filter.mpr ⟨List.mem_append_right _ (List.mem_of_getElem? h), hg⟩
theorem mt_nin {w : Cond} (i : Nat) (h : tables_1[i]? = some w) (hg : mj_isNest w = true) : w ∈ mt_NW := List.mem_filter.mpr ⟨List.mem_append_right _ (List.mem_of_getElem? h), hg⟩
theorem mt_inS {q : MethodName × Nat} (i : Nat) (h : lw_privs[i]? = some q) : Cond.selects q.1.cls q.1 q.1 ∈ mt_TB := List.mem_filter.mpr ⟨List.mem_append_left _ (List.mem_map.mpr ⟨q, List.mem_of_getElem? h, rfl⟩), rfl⟩
theorem mt_ins {ws : List Cond} (ps : List Nat) (hp : ws = ps.filterMap (fun i => tables_1[i]?)) (h : ws.all goodWord = true) : ∀ w ∈ ws, w ∈ mt_TB := by
  intro w hw
  have h1 := List.all_eq_true.mp h w hw
  rw [hp] at hw
  obtain ⟨i, -, hi⟩ := List.mem_filterMap.mp hw
  exact mt_in i hi h1
def mt_F0 : u_T := fun k => match k with
  | 0 => ("HealBench", "net", "LHealBench$Graph;", true)
  | 1 => ("HealBench", "view", "LHealBench$View;", true)
  | 2 => ("HealBench", "rules", "LHealBench$Rules;", true)
  | 3 => ("HealBench", "finder", "LHealBench$Search;", true)
  | 4 => ("HealBench", "text", "[C", true)
  | 5 => ("HealBench", "typed", "I", false)
  | 6 => ("HealBench", "current", "I", false)
  | 7 => ("HealBench", "steps", "I", false)
  | _ => ("HealBench", "moves", "I", false)
def mt_F1 : u_T := fun k => match k with
  | 0 => ("HealBench$Comparison", "left", "LHealBench$Sum;", true)
  | 1 => ("HealBench$Comparison", "sign", "C", true)
  | _ => ("HealBench$Comparison", "right", "LHealBench$Sum;", true)
def mt_F2 : u_T := fun k => match k with
  | 0 => ("HealBench$Graph", "links", "[I", true)
  | 1 => ("HealBench$Graph", "weights", "[I", true)
  | 2 => ("HealBench$Graph", "n", "I", false)
  | 3 => ("HealBench$Graph", "k", "I", false)
  | 4 => ("HealBench$Graph", "edges", "I", false)
  | _ => ("HealBench$Graph", "states", "I", false)
def mt_F3 : u_T := fun k => match k with
  | 0 => ("HealBench$Neighbours", "inner", "LHealBench$Test;", true)
  | _ => ("HealBench$Neighbours", "needsAll", "Z", true)
def mt_F4 : u_T := fun k => match k with
  | _ => ("HealBench$Not", "inner", "LHealBench$Test;", true)
def mt_F5 : u_T := fun k => match k with
  | 0 => ("HealBench$Pair", "left", "LHealBench$Test;", true)
  | 1 => ("HealBench$Pair", "right", "LHealBench$Test;", true)
  | _ => ("HealBench$Pair", "needsBoth", "Z", true)
def mt_F6 : u_T := fun k => match k with
  | 0 => ("HealBench$Reader", "text", "[C", true)
  | 1 => ("HealBench$Reader", "at", "I", false)
  | _ => ("HealBench$Reader", "fault", "I", false)
def mt_F7 : u_T := fun k => match k with
  | 0 => ("HealBench$Rules", "guards", "[LHealBench$Test;", true)
  | 1 => ("HealBench$Rules", "sums", "[LHealBench$Sum;", true)
  | 2 => ("HealBench$Rules", "size", "I", false)
  | 3 => ("HealBench$Rules", "aimKind", "I", false)
  | _ => ("HealBench$Rules", "aimGuard", "LHealBench$Test;", false)
def mt_F8 : u_T := fun k => match k with
  | 0 => ("HealBench$Search", "net", "LHealBench$Graph;", true)
  | 1 => ("HealBench$Search", "rules", "LHealBench$Rules;", true)
  | 2 => ("HealBench$Search", "view", "LHealBench$View;", true)
  | 3 => ("HealBench$Search", "able", "[I", true)
  | 4 => ("HealBench$Search", "shifts", "[I", true)
  | 5 => ("HealBench$Search", "isGood", "[Z", true)
  | 6 => ("HealBench$Search", "distance", "[I", true)
  | 7 => ("HealBench$Search", "mark", "[I", true)
  | 8 => ("HealBench$Search", "tried", "[I", true)
  | 9 => ("HealBench$Search", "path", "[I", true)
  | 10 => ("HealBench$Search", "run", "[I", true)
  | 11 => ("HealBench$Search", "runLength", "I", false)
  | 12 => ("HealBench$Search", "scheduler", "I", false)
  | 13 => ("HealBench$Search", "verdict", "I", false)
  | 14 => ("HealBench$Search", "longest", "I", false)
  | 15 => ("HealBench$Search", "goodStates", "I", false)
  | 16 => ("HealBench$Search", "movesKnown", "Z", false)
  | _ => ("HealBench$Search", "verdictKnown", "Z", false)
def mt_F9 : u_T := fun k => match k with
  | 0 => ("HealBench$Sum", "text", "[C", true)
  | 1 => ("HealBench$Sum", "from", "I", true)
  | 2 => ("HealBench$Sum", "end", "I", true)
  | _ => ("HealBench$Sum", "wraps", "Z", true)
def mt_F10 : u_T := fun k => match k with
  | 0 => ("HealBench$View", "net", "LHealBench$Graph;", true)
  | 1 => ("HealBench$View", "values", "[I", true)
  | 2 => ("HealBench$View", "parts", "[I", true)
  | 3 => ("HealBench$View", "shifts", "[I", true)
  | 4 => ("HealBench$View", "able", "I", false)
  | _ => ("HealBench$View", "node", "I", false)
def mt_F11 : u_T := fun k => match k with
  | 0 => ("HealBenchModel", "nodes", "I", false)
  | 1 => ("HealBenchModel", "most", "I", false)
  | 2 => ("HealBenchModel", "edges", "I", false)
  | 3 => ("HealBenchModel", "near", "[Z", true)
  | 4 => ("HealBenchModel", "values", "[I", true)
  | 5 => ("HealBenchModel", "steps", "I", false)
  | 6 => ("HealBenchModel", "moves", "I", false)
  | 7 => ("HealBenchModel", "scheduler", "I", false)
  | 8 => ("HealBenchModel", "kind", "I", false)
  | 9 => ("HealBenchModel", "typed", "I", false)
  | 10 => ("HealBenchModel", "text", "[I", true)
  | 11 => ("HealBenchModel", "rules", "I", false)
  | 12 => ("HealBenchModel", "guards", "[I", true)
  | 13 => ("HealBenchModel", "ends", "[I", true)
  | 14 => ("HealBenchModel", "guardSizes", "[I", true)
  | 15 => ("HealBenchModel", "sums", "[I", true)
  | 16 => ("HealBenchModel", "sumSizes", "[I", true)
  | 17 => ("HealBenchModel", "open", "I", false)
  | 18 => ("HealBenchModel", "opens", "[I", true)
  | 19 => ("HealBenchModel", "outerAnds", "[Z", true)
  | 20 => ("HealBenchModel", "outerOrs", "[Z", true)
  | 21 => ("HealBenchModel", "begins", "[I", true)
  | 22 => ("HealBenchModel", "and", "Z", false)
  | 23 => ("HealBenchModel", "or", "Z", false)
  | 24 => ("HealBenchModel", "quantified", "I", false)
  | 25 => ("HealBenchModel", "side", "I", false)
  | 26 => ("HealBenchModel", "comparing", "I", false)
  | 27 => ("HealBenchModel", "adding", "I", false)
  | 28 => ("HealBenchModel", "look", "[I", true)
  | 29 => ("HealBenchModel", "heap", "[I", true)
  | 30 => ("HealBenchModel", "top", "I", false)
  | 31 => ("HealBenchModel", "known", "Z", false)
  | 32 => ("HealBenchModel", "verdict", "I", false)
  | 33 => ("HealBenchModel", "enabled", "[I", true)
  | 34 => ("HealBenchModel", "adds", "[I", true)
  | 35 => ("HealBenchModel", "isGood", "[Z", true)
  | 36 => ("HealBenchModel", "lasts", "[Z", true)
  | 37 => ("HealBenchModel", "fars", "[I", true)
  | 38 => ("HealBenchModel", "runs", "I", false)
  | _ => ("HealBenchModel", "run", "[I", true)
def mt_cl : List vw_C := [("HealBench", mt_F0, 9), ("HealBench$Comparison", mt_F1, 3), ("HealBench$Graph", mt_F2, 6), ("HealBench$Neighbours", mt_F3, 2), ("HealBench$Not", mt_F4, 1), ("HealBench$Pair", mt_F5, 3), ("HealBench$Reader", mt_F6, 3), ("HealBench$Rules", mt_F7, 5), ("HealBench$Search", mt_F8, 18), ("HealBench$Sum", mt_F9, 4), ("HealBench$View", mt_F10, 6), ("HealBenchModel", mt_F11, 40)]
def mt_fts : List (List FieldType) := [[.object "HealBench$Graph", .object "HealBench$View", .object "HealBench$Rules", .object "HealBench$Search", .array .char, .int, .int, .int, .int], [.object "HealBench$Sum", .char, .object "HealBench$Sum"], [.array .int, .array .int, .int, .int, .int, .int], [.object "HealBench$Test", .boolean], [.object "HealBench$Test"], [.object "HealBench$Test", .object "HealBench$Test", .boolean], [.array .char, .int, .int], [.array (.object "HealBench$Test"), .array (.object "HealBench$Sum"), .int, .int, .object "HealBench$Test"], [.object "HealBench$Graph", .object "HealBench$Rules", .object "HealBench$View", .array .int, .array .int, .array .boolean, .array .int, .array .int, .array .int, .array .int, .array .int, .int, .int, .int, .int, .int, .boolean, .boolean], [.array .char, .int, .int, .boolean], [.object "HealBench$Graph", .array .int, .array .int, .array .int, .int, .int], [.int, .int, .int, .array .boolean, .array .int, .int, .int, .int, .int, .int, .array .int, .int, .array .int, .array .int, .array .int, .array .int, .array .int, .int, .array .int, .array .boolean, .array .boolean, .array .int, .boolean, .boolean, .int, .int, .int, .int, .array .int, .array .int, .int, .boolean, .int, .array .int, .array .int, .array .boolean, .array .boolean, .array .int, .int, .array .int]]
def mt_cns : List String := ["", "HealBench", "HealBench$Comparison", "HealBench$Graph", "HealBench$Neighbours", "HealBench$Not", "HealBench$Pair", "HealBench$Reader", "HealBench$Rules", "HealBench$Search", "HealBench$Sum", "HealBench$Test", "HealBench$View", "HealBenchLaw", "HealBenchModel", "java/lang/Integer", "java/lang/Math", "java/lang/String", "java/lang/StringLatin1", "java/util/Arrays"]
def mt_cn (o : Nat) : String := mt_cns.getD o ""
abbrev mt_Row : Type := MethodName × ByteArray × Nat × Option FieldType × Nat × Nat
def mt_T0 : mt_Row := (⟨"HealBenchLaw", "law", "([I)Z"⟩, code, 4, (some (.boolean)), 13, 1)
def mt_T1 : mt_Row := (⟨"HealBench", "<init>", "()V"⟩, prog_1_method_1_code, 1, none, 1, 1)
def mt_T2 : mt_Row := (⟨"HealBench$Graph", "<init>", "()V"⟩, prog_3_method_1_code, 1, none, 3, 1)
def mt_T3 : mt_Row := (⟨"HealBench$Graph", "renew", "(II)V"⟩, prog_3_method_2_code, 4, none, 3, 3)
def mt_T4 : mt_Row := (⟨"HealBench$View", "<init>", "(LHealBench$Graph;)V"⟩, prog_12_method_1_code, 3, none, 12, 2)
def mt_T5 : mt_Row := (⟨"HealBench$Rules", "<init>", "()V"⟩, prog_8_method_1_code, 1, none, 8, 1)
def mt_T6 : mt_Row := (⟨"HealBench$Search", "<init>", "(LHealBench$Graph;LHealBench$Rules;)V"⟩, prog_9_method_1_code, 3, none, 9, 3)
def mt_T7 : mt_Row := (⟨"HealBench", "graph", "(II)I"⟩, prog_1_method_2_code, 3, (some (.int)), 1, 3)
def mt_T8 : mt_Row := (⟨"HealBench$Rules", "clear", "()V"⟩, prog_8_method_2_code, 1, none, 8, 1)
def mt_T9 : mt_Row := (⟨"HealBench$Rules", "aimAt", "(ILHealBench$Test;)V"⟩, prog_8_method_5_code, 3, none, 8, 3)
def mt_T10 : mt_Row := (⟨"HealBench$Search", "forgetMoves", "()V"⟩, prog_9_method_2_code, 1, none, 9, 1)
def mt_T11 : mt_Row := (⟨"HealBench", "startCounts", "()V"⟩, prog_1_method_21_code, 1, none, 1, 1)
def mt_T12 : mt_Row := (⟨"HealBench", "edge", "(II)I"⟩, prog_1_method_3_code, 3, (some (.int)), 1, 3)
def mt_T13 : mt_Row := (⟨"HealBench$Graph", "has", "(I)Z"⟩, prog_3_method_3_code, 2, (some (.boolean)), 3, 2)
def mt_T14 : mt_Row := (⟨"HealBench$Graph", "linked", "(II)Z"⟩, prog_3_method_4_code, 3, (some (.boolean)), 3, 3)
def mt_T15 : mt_Row := (⟨"HealBench$Graph", "link", "(II)V"⟩, prog_3_method_5_code, 3, none, 3, 3)
def mt_T16 : mt_Row := (⟨"HealBench", "type", "(I)I"⟩, prog_1_method_4_code, 2, (some (.int)), 1, 2)
def mt_T17 : mt_Row := (⟨"HealBench", "rule", "()I"⟩, prog_1_method_5_code, 4, (some (.int)), 1, 1)
def mt_T18 : mt_Row := (⟨"HealBench", "takeText", "()LHealBench$Reader;"⟩, prog_1_method_22_code, 2, (some (.object "HealBench$Reader")), 1, 1)
def mt_T19 : mt_Row := (⟨"HealBench$Reader", "<init>", "([C)V"⟩, prog_7_method_1_code, 2, none, 7, 2)
def mt_T20 : mt_Row := (⟨"HealBench$Reader", "readGuard", "(IZ)LHealBench$Test;"⟩, prog_7_method_7_code, 5, (some (.object "HealBench$Test")), 7, 3)
def mt_T21 : mt_Row := (⟨"HealBench$Reader", "readBoth", "(IZ)LHealBench$Test;"⟩, prog_7_method_8_code, 5, (some (.object "HealBench$Test")), 7, 3)
def mt_T22 : mt_Row := (⟨"HealBench$Reader", "readTest", "(IZ)LHealBench$Test;"⟩, prog_7_method_9_code, 4, (some (.object "HealBench$Test")), 7, 3)
def mt_T23 : mt_Row := (⟨"HealBench$Reader", "take", "(C)Z"⟩, prog_7_method_4_code, 2, (some (.boolean)), 7, 2)
def mt_T24 : mt_Row := (⟨"HealBench$Reader", "next", "()C"⟩, prog_7_method_2_code, 1, (some (.char)), 7, 1)
def mt_T25 : mt_Row := (⟨"HealBench$Not", "<init>", "(LHealBench$Test;)V"⟩, prog_5_method_1_code, 2, none, 5, 2)
def mt_T26 : mt_Row := (⟨"HealBench$Test", "<init>", "()V"⟩, prog_11_method_1_code, 1, none, 11, 1)
def mt_T27 : mt_Row := (⟨"HealBench$Reader", "need", "(C)V"⟩, prog_7_method_5_code, 2, none, 7, 2)
def mt_T28 : mt_Row := (⟨"HealBench$Reader", "refuse", "()V"⟩, prog_7_method_3_code, 1, none, 7, 1)
def mt_T29 : mt_Row := (⟨"HealBench$Neighbours", "<init>", "(LHealBench$Test;Z)V"⟩, prog_4_method_1_code, 3, none, 4, 3)
def mt_T30 : mt_Row := (⟨"HealBench$Reader", "readComparison", "(Z)LHealBench$Test;"⟩, prog_7_method_10_code, 4, (some (.object "HealBench$Test")), 7, 2)
def mt_T31 : mt_Row := (⟨"HealBench$Reader", "readSum", "(Z)LHealBench$Sum;"⟩, prog_7_method_11_code, 4, (some (.object "HealBench$Sum")), 7, 2)
def mt_T32 : mt_Row := (⟨"HealBench$Reader", "readPart", "(Z)V"⟩, prog_7_method_12_code, 3, none, 7, 2)
def mt_T33 : mt_Row := (⟨"HealBench$Sum", "<init>", "([CIIZ)V"⟩, prog_10_method_1_code, 5, none, 10, 5)
def mt_T34 : mt_Row := (⟨"HealBench$Comparison", "<init>", "(LHealBench$Sum;CLHealBench$Sum;)V"⟩, prog_2_method_1_code, 4, none, 2, 4)
def mt_T35 : mt_Row := (⟨"HealBench$Pair", "<init>", "(LHealBench$Test;LHealBench$Test;Z)V"⟩, prog_6_method_1_code, 4, none, 6, 4)
def mt_T36 : mt_Row := (⟨"HealBench$Reader", "needEnd", "()V"⟩, prog_7_method_6_code, 1, none, 7, 1)
def mt_T37 : mt_Row := (⟨"HealBench$Rules", "add", "(LHealBench$Test;LHealBench$Sum;)V"⟩, prog_8_method_3_code, 3, none, 8, 3)
def mt_T38 : mt_Row := (⟨"HealBench", "drop", "()I"⟩, prog_1_method_6_code, 1, (some (.int)), 1, 1)
def mt_T39 : mt_Row := (⟨"HealBench$Rules", "removeLast", "()V"⟩, prog_8_method_4_code, 1, none, 8, 1)
def mt_T40 : mt_Row := (⟨"HealBench", "aim", "(I)I"⟩, prog_1_method_7_code, 4, (some (.int)), 1, 2)
def mt_T41 : mt_Row := (⟨"HealBench$Search", "forgetVerdict", "()V"⟩, prog_9_method_3_code, 1, none, 9, 1)
def mt_T42 : mt_Row := (⟨"HealBench", "scheduler", "(I)I"⟩, prog_1_method_8_code, 3, (some (.int)), 1, 2)
def mt_T43 : mt_Row := (⟨"HealBench", "set", "(II)I"⟩, prog_1_method_9_code, 4, (some (.int)), 1, 3)
def mt_T44 : mt_Row := (⟨"HealBench$Graph", "digit", "(II)I"⟩, prog_3_method_6_code, 3, (some (.int)), 3, 3)
def mt_T45 : mt_Row := (⟨"HealBench", "value", "(I)I"⟩, prog_1_method_10_code, 2, (some (.int)), 1, 2)
def mt_T46 : mt_Row := (⟨"HealBench", "enabled", "(I)I"⟩, prog_1_method_11_code, 2, (some (.int)), 1, 2)
def mt_T47 : mt_Row := (⟨"HealBench$View", "load", "(I)V"⟩, prog_12_method_2_code, 3, none, 12, 2)
def mt_T48 : mt_Row := (⟨"HealBench$View", "standAt", "(I)V"⟩, prog_12_method_3_code, 4, none, 12, 2)
def mt_T49 : mt_Row := (⟨"HealBench$Rules", "first", "(LHealBench$View;)I"⟩, prog_8_method_6_code, 3, (some (.int)), 8, 2)
def mt_T50 : mt_Row := (⟨"HealBench$Comparison", "holds", "(LHealBench$View;)Z"⟩, prog_2_method_2_code, 4, (some (.boolean)), 2, 2)
def mt_T51 : mt_Row := (⟨"HealBench$Sum", "total", "(LHealBench$View;)I"⟩, prog_10_method_2_code, 5, (some (.int)), 10, 2)
def mt_T52 : mt_Row := (⟨"HealBench$Neighbours", "holds", "(LHealBench$View;)Z"⟩, prog_4_method_2_code, 3, (some (.boolean)), 4, 2)
def mt_T53 : mt_Row := (⟨"HealBench$View", "lookAt", "(I)V"⟩, prog_12_method_4_code, 2, none, 12, 2)
def mt_T54 : mt_Row := (⟨"HealBench$Not", "holds", "(LHealBench$View;)Z"⟩, prog_5_method_2_code, 2, (some (.boolean)), 5, 2)
def mt_T55 : mt_Row := (⟨"HealBench$Pair", "holds", "(LHealBench$View;)Z"⟩, prog_6_method_2_code, 2, (some (.boolean)), 6, 2)
def mt_T56 : mt_Row := (⟨"HealBench", "fire", "(I)I"⟩, prog_1_method_12_code, 3, (some (.int)), 1, 2)
def mt_T57 : mt_Row := (⟨"HealBench", "lookAround", "()V"⟩, prog_1_method_23_code, 1, none, 1, 1)
def mt_T58 : mt_Row := (⟨"HealBench$Rules", "findMoves", "(LHealBench$View;)V"⟩, prog_8_method_7_code, 6, none, 8, 2)
def mt_T59 : mt_Row := (⟨"HealBench$Search", "allows", "(II)Z"⟩, prog_9_method_4_code, 3, (some (.boolean)), 9, 3)
def mt_T60 : mt_Row := (⟨"HealBench", "good", "()Z"⟩, prog_1_method_13_code, 1, (some (.boolean)), 1, 1)
def mt_T61 : mt_Row := (⟨"HealBench$Rules", "meetAim", "(LHealBench$View;)Z"⟩, prog_8_method_8_code, 3, (some (.boolean)), 8, 2)
def mt_T62 : mt_Row := (⟨"HealBench", "state", "()I"⟩, prog_1_method_14_code, 1, (some (.int)), 1, 1)
def mt_T63 : mt_Row := (⟨"HealBench", "count", "(I)I"⟩, prog_1_method_15_code, 2, (some (.int)), 1, 2)
def mt_T64 : mt_Row := (⟨"HealBench", "search", "()I"⟩, prog_1_method_16_code, 1, (some (.int)), 1, 1)
def mt_T65 : mt_Row := (⟨"HealBench$Search", "judge", "()V"⟩, prog_9_method_5_code, 1, none, 9, 1)
def mt_T66 : mt_Row := (⟨"HealBench$Search", "findAllMoves", "()V"⟩, prog_9_method_6_code, 2, none, 9, 1)
def mt_T67 : mt_Row := (⟨"HealBench$Search", "findGoodStates", "()V"⟩, prog_9_method_7_code, 2, none, 9, 1)
def mt_T68 : mt_Row := (⟨"HealBench$Search", "findVerdict", "()I"⟩, prog_9_method_8_code, 1, (some (.int)), 9, 1)
def mt_T69 : mt_Row := (⟨"HealBench$Search", "findStepOutOfGood", "()Z"⟩, prog_9_method_11_code, 3, (some (.boolean)), 9, 1)
def mt_T70 : mt_Row := (⟨"HealBench$Search", "after", "(II)I"⟩, prog_9_method_9_code, 5, (some (.int)), 9, 3)
def mt_T71 : mt_Row := (⟨"HealBench$Search", "addToRun", "(I)V"⟩, prog_9_method_10_code, 2, none, 9, 2)
def mt_T72 : mt_Row := (⟨"HealBench$Search", "findStandstill", "()Z"⟩, prog_9_method_12_code, 2, (some (.boolean)), 9, 1)
def mt_T73 : mt_Row := (⟨"HealBench$Search", "measure", "()V"⟩, prog_9_method_13_code, 2, none, 9, 1)
def mt_T74 : mt_Row := (⟨"HealBench$Search", "measureFrom", "(I)V"⟩, prog_9_method_14_code, 7, none, 9, 2)
def mt_T75 : mt_Row := (⟨"HealBench$Search", "learn", "(II)V"⟩, prog_9_method_15_code, 4, none, 9, 3)
def mt_T76 : mt_Row := (⟨"HealBench$Search", "findEndlessRun", "()Z"⟩, prog_9_method_16_code, 3, (some (.boolean)), 9, 1)
def mt_T77 : mt_Row := (⟨"HealBench$Search", "endlessAfter", "(I)I"⟩, prog_9_method_17_code, 3, (some (.int)), 9, 2)
def mt_T78 : mt_Row := (⟨"HealBench", "worst", "()I"⟩, prog_1_method_17_code, 1, (some (.int)), 1, 1)
def mt_T79 : mt_Row := (⟨"HealBench", "far", "(I)I"⟩, prog_1_method_18_code, 2, (some (.int)), 1, 2)
def mt_T80 : mt_Row := (⟨"HealBench", "bad", "(I)I"⟩, prog_1_method_19_code, 2, (some (.int)), 1, 2)
def mt_T81 : mt_Row := (⟨"HealBench", "goods", "()I"⟩, prog_1_method_20_code, 1, (some (.int)), 1, 1)
def mt_T82 : mt_Row := (⟨"HealBenchModel", "<init>", "()V"⟩, prog_14_method_1_code, 1, none, 14, 1)
def mt_T83 : mt_Row := (⟨"HealBenchModel", "graph", "(II)I"⟩, prog_14_method_5_code, 4, (some (.int)), 14, 3)
def mt_T84 : mt_Row := (⟨"HealBenchModel", "states", "()I"⟩, prog_14_method_3_code, 1, (some (.int)), 14, 1)
def mt_T85 : mt_Row := (⟨"HealBenchModel", "power", "(II)I"⟩, prog_14_method_2_code, 4, (some (.int)), 14, 2)
def mt_T86 : mt_Row := (⟨"HealBenchModel", "edge", "(II)I"⟩, prog_14_method_6_code, 3, (some (.int)), 14, 3)
def mt_T87 : mt_Row := (⟨"HealBenchModel", "isNode", "(I)Z"⟩, prog_14_method_4_code, 2, (some (.boolean)), 14, 2)
def mt_T88 : mt_Row := (⟨"HealBenchModel", "type", "(I)I"⟩, prog_14_method_7_code, 2, (some (.int)), 14, 2)
def mt_T89 : mt_Row := (⟨"HealBenchModel", "rule", "()I"⟩, prog_14_method_19_code, 2, (some (.int)), 14, 1)
def mt_T90 : mt_Row := (⟨"HealBenchModel", "read", "(Z)I"⟩, prog_14_method_17_code, 4, (some (.int)), 14, 2)
def mt_T91 : mt_Row := (⟨"HealBenchModel", "start", "(IZ)I"⟩, prog_14_method_14_code, 3, (some (.int)), 14, 3)
def mt_T92 : mt_Row := (⟨"HealBenchModel", "isPart", "(I)Z"⟩, prog_14_method_9_code, 3, (some (.boolean)), 14, 2)
def mt_T93 : mt_Row := (⟨"HealBenchModel", "sign", "(I)V"⟩, prog_14_method_8_code, 2, none, 14, 2)
def mt_T94 : mt_Row := (⟨"HealBenchModel", "begins", "(I)Z"⟩, prog_14_method_10_code, 3, (some (.boolean)), 14, 2)
def mt_T95 : mt_Row := (⟨"HealBenchModel", "follow", "(IIZ)I"⟩, prog_14_method_16_code, 4, (some (.int)), 14, 4)
def mt_T96 : mt_Row := (⟨"HealBenchModel", "endComparison", "()V"⟩, prog_14_method_13_code, 1, none, 14, 1)
def mt_T97 : mt_Row := (⟨"HealBenchModel", "endTest", "()V"⟩, prog_14_method_11_code, 1, none, 14, 1)
def mt_T98 : mt_Row := (⟨"HealBenchModel", "goOn", "(IZ)I"⟩, prog_14_method_15_code, 3, (some (.int)), 14, 3)
def mt_T99 : mt_Row := (⟨"HealBenchModel", "endBoth", "()V"⟩, prog_14_method_12_code, 1, none, 14, 1)
def mt_T100 : mt_Row := (⟨"HealBenchModel", "keep", "(I)V"⟩, prog_14_method_18_code, 3, none, 14, 2)
def mt_T101 : mt_Row := (⟨"HealBenchModel", "drop", "()I"⟩, prog_14_method_20_code, 1, (some (.int)), 14, 1)
def mt_T102 : mt_Row := (⟨"HealBenchModel", "aim", "(I)I"⟩, prog_14_method_21_code, 3, (some (.int)), 14, 2)
def mt_T103 : mt_Row := (⟨"HealBenchModel", "scheduler", "(I)I"⟩, prog_14_method_22_code, 3, (some (.int)), 14, 2)
def mt_T104 : mt_Row := (⟨"HealBenchModel", "search", "()I"⟩, prog_14_method_44_code, 1, (some (.int)), 14, 1)
def mt_T105 : mt_Row := (⟨"HealBenchModel", "findOut", "()V"⟩, prog_14_method_43_code, 1, none, 14, 1)
def mt_T106 : mt_Row := (⟨"HealBenchModel", "layTables", "()V"⟩, prog_14_method_37_code, 6, none, 14, 1)
def mt_T107 : mt_Row := (⟨"HealBenchModel", "lookAt", "(I)V"⟩, prog_14_method_34_code, 4, none, 14, 2)
def mt_T108 : mt_Row := (⟨"HealBenchModel", "ruleFor", "(I)I"⟩, prog_14_method_32_code, 3, (some (.int)), 14, 2)
def mt_T109 : mt_Row := (⟨"HealBenchModel", "holds", "(II)Z"⟩, prog_14_method_31_code, 7, (some (.boolean)), 14, 3)
def mt_T110 : mt_Row := (⟨"HealBenchModel", "around", "(IIII)I"⟩, prog_14_method_30_code, 9, (some (.int)), 14, 5)
def mt_T111 : mt_Row := (⟨"HealBenchModel", "work", "(III)V"⟩, prog_14_method_29_code, 4, none, 14, 4)
def mt_T112 : mt_Row := (⟨"HealBenchModel", "modulo", "(I)I"⟩, prog_14_method_25_code, 3, (some (.int)), 14, 2)
def mt_T113 : mt_Row := (⟨"HealBenchModel", "join", "(III)I"⟩, prog_14_method_28_code, 3, (some (.int)), 14, 3)
def mt_T114 : mt_Row := (⟨"HealBenchModel", "truth", "(Z)I"⟩, prog_14_method_27_code, 1, (some (.int)), 14, 1)
def mt_T115 : mt_Row := (⟨"HealBenchModel", "part", "(III)I"⟩, prog_14_method_26_code, 4, (some (.int)), 14, 4)
def mt_T116 : mt_Row := (⟨"HealBenchModel", "neighbours", "(I)I"⟩, prog_14_method_23_code, 4, (some (.int)), 14, 2)
def mt_T117 : mt_Row := (⟨"HealBenchModel", "extreme", "(IZ)I"⟩, prog_14_method_24_code, 5, (some (.int)), 14, 3)
def mt_T118 : mt_Row := (⟨"HealBenchModel", "sumFor", "(II)I"⟩, prog_14_method_33_code, 4, (some (.int)), 14, 3)
def mt_T119 : mt_Row := (⟨"HealBenchModel", "leavesGood", "()Z"⟩, prog_14_method_39_code, 3, (some (.boolean)), 14, 1)
def mt_T120 : mt_Row := (⟨"HealBenchModel", "choiceTo", "(IZZ)I"⟩, prog_14_method_38_code, 6, (some (.int)), 14, 4)
def mt_T121 : mt_Row := (⟨"HealBenchModel", "isChoice", "(II)Z"⟩, prog_14_method_35_code, 3, (some (.boolean)), 14, 3)
def mt_T122 : mt_Row := (⟨"HealBenchModel", "behind", "(II)I"⟩, prog_14_method_36_code, 5, (some (.int)), 14, 3)
def mt_T123 : mt_Row := (⟨"HealBenchModel", "isStuck", "()Z"⟩, prog_14_method_40_code, 2, (some (.boolean)), 14, 1)
def mt_T124 : mt_Row := (⟨"HealBenchModel", "goesRound", "()Z"⟩, prog_14_method_41_code, 6, (some (.boolean)), 14, 1)
def mt_T125 : mt_Row := (⟨"HealBenchModel", "layFars", "()V"⟩, prog_14_method_42_code, 6, none, 14, 1)
def mt_T126 : mt_Row := (⟨"HealBenchModel", "worst", "()I"⟩, prog_14_method_45_code, 3, (some (.int)), 14, 1)
def mt_T127 : mt_Row := (⟨"HealBenchModel", "far", "(I)I"⟩, prog_14_method_46_code, 2, (some (.int)), 14, 2)
def mt_T128 : mt_Row := (⟨"HealBenchModel", "bad", "(I)I"⟩, prog_14_method_47_code, 2, (some (.int)), 14, 2)
def mt_T129 : mt_Row := (⟨"HealBenchModel", "goods", "()I"⟩, prog_14_method_48_code, 3, (some (.int)), 14, 1)
def mt_T130 : mt_Row := (⟨"HealBenchModel", "state", "()I"⟩, prog_14_method_49_code, 3, (some (.int)), 14, 1)
def mt_T131 : mt_Row := (⟨"HealBenchModel", "set", "(II)I"⟩, prog_14_method_50_code, 4, (some (.int)), 14, 3)
def mt_T132 : mt_Row := (⟨"HealBenchModel", "value", "(I)I"⟩, prog_14_method_51_code, 2, (some (.int)), 14, 2)
def mt_T133 : mt_Row := (⟨"HealBenchModel", "enabled", "(I)I"⟩, prog_14_method_52_code, 2, (some (.int)), 14, 2)
def mt_T134 : mt_Row := (⟨"HealBenchModel", "fire", "(I)I"⟩, prog_14_method_53_code, 4, (some (.int)), 14, 2)
def mt_T135 : mt_Row := (⟨"HealBenchModel", "good", "()Z"⟩, prog_14_method_54_code, 1, (some (.boolean)), 14, 1)
def mt_T136 : mt_Row := (⟨"HealBenchModel", "count", "(I)I"⟩, prog_14_method_55_code, 2, (some (.int)), 14, 2)
def mt_T137 : mt_Row := (⟨"java/util/Arrays", "fill", "([II)V"⟩, prog_22_method_103_code, 4, none, 19, 2)
def mt_T138 : mt_Row := (⟨"java/lang/Integer", "bitCount", "(I)I"⟩, prog_16_method_49_code, 1, (some (.int)), 15, 1)
def mt_T139 : mt_Row := (⟨"java/lang/Math", "floorMod", "(II)I"⟩, prog_17_method_50_code, 3, (some (.int)), 16, 2)
def mt_T140 : mt_Row := (⟨"java/lang/Math", "max", "(II)I"⟩, prog_17_method_65_code, 2, (some (.int)), 16, 2)
def mt_T141 : mt_Row := (⟨"java/lang/Math", "min", "(II)I"⟩, prog_17_method_69_code, 2, (some (.int)), 16, 2)
def mt_T142 : mt_Row := (⟨"java/lang/String", "indexOf", "(I)I"⟩, prog_18_method_79_code, 2, (some (.int)), 17, 2)
def mt_T143 : mt_Row := (⟨"java/lang/String", "indexOf", "(II)I"⟩, prog_18_method_80_code, 3, (some (.int)), 17, 3)
def mt_T144 : mt_Row := (⟨"java/lang/String", "isLatin1", "()Z"⟩, prog_18_method_154_code, 1, (some (.boolean)), 17, 1)
def mt_T145 : mt_Row := (⟨"java/lang/String", "length", "()I"⟩, prog_18_method_54_code, 1, (some (.int)), 17, 1)
def mt_T146 : mt_Row := (⟨"java/lang/String", "coder", "()B"⟩, prog_18_method_152_code, 1, (some (.byte)), 17, 1)
def mt_T147 : mt_Row := (⟨"java/lang/StringLatin1", "indexOf", "([BIII)I"⟩, prog_19_method_22_code, 4, (some (.int)), 18, 4)
def mt_T148 : mt_Row := (⟨"java/lang/StringLatin1", "canEncode", "(I)Z"⟩, prog_19_method_4_code, 1, (some (.boolean)), 18, 1)
def mt_T149 : mt_Row := (⟨"java/lang/StringLatin1", "indexOfChar", "([BIII)I"⟩, prog_19_method_23_code, 6, (some (.int)), 18, 4)
def mt_T : List mt_Row := [mt_T0, mt_T1, mt_T2, mt_T3, mt_T4, mt_T5, mt_T6, mt_T7, mt_T8, mt_T9, mt_T10, mt_T11, mt_T12, mt_T13, mt_T14, mt_T15, mt_T16, mt_T17, mt_T18, mt_T19, mt_T20, mt_T21, mt_T22, mt_T23, mt_T24, mt_T25, mt_T26, mt_T27, mt_T28, mt_T29, mt_T30, mt_T31, mt_T32, mt_T33, mt_T34, mt_T35, mt_T36, mt_T37, mt_T38, mt_T39, mt_T40, mt_T41, mt_T42, mt_T43, mt_T44, mt_T45, mt_T46, mt_T47, mt_T48, mt_T49, mt_T50, mt_T51, mt_T52, mt_T53, mt_T54, mt_T55, mt_T56, mt_T57, mt_T58, mt_T59, mt_T60, mt_T61, mt_T62, mt_T63, mt_T64, mt_T65, mt_T66, mt_T67, mt_T68, mt_T69, mt_T70, mt_T71, mt_T72, mt_T73, mt_T74, mt_T75, mt_T76, mt_T77, mt_T78, mt_T79, mt_T80, mt_T81, mt_T82, mt_T83, mt_T84, mt_T85, mt_T86, mt_T87, mt_T88, mt_T89, mt_T90, mt_T91, mt_T92, mt_T93, mt_T94, mt_T95, mt_T96, mt_T97, mt_T98, mt_T99, mt_T100, mt_T101, mt_T102, mt_T103, mt_T104, mt_T105, mt_T106, mt_T107, mt_T108, mt_T109, mt_T110, mt_T111, mt_T112, mt_T113, mt_T114, mt_T115, mt_T116, mt_T117, mt_T118, mt_T119, mt_T120, mt_T121, mt_T122, mt_T123, mt_T124, mt_T125, mt_T126, mt_T127, mt_T128, mt_T129, mt_T130, mt_T131, mt_T132, mt_T133, mt_T134, mt_T135, mt_T136, mt_T137, mt_T138, mt_T139, mt_T140, mt_T141, mt_T142, mt_T143, mt_T144, mt_T145, mt_T146, mt_T147, mt_T148, mt_T149]
def mt_ty : List (Nat × FieldType) := [(100, .int), (101, .boolean), (102, .char), (200, .object "HealBench$Test"), (201, .object "HealBench$Sum")]
def mt_AO : List String := ["HealBench$Test", "HealBench$Sum"]
def mt_lits : List (List Int32) := [[48, 49, 50, 51, 52, 53, 54, 55, 56, 57, 120, 105, 100, 109, 77, 108, 117, 110, 107], [121, 106]]
def mt_KS : List (String × Nat × String × Nat) := [("HealBench$Reader", 84, "0123456789xidmMlunk", 0), ("HealBench$Reader", 92, "yj", 1)]
def mt_SZ : List (String × String × String × Int32) := [("java/lang/String", "COMPACT_STRINGS", "Z", 1)]
def mt_Pm (r : mt_Row) : Prop := plainFor r.1 = true ∧ Cond.code r.1 r.2.1 r.2.2.1 r.2.2.2.1 ∈ mt_TB ∧ Cond.initialized r.1.cls ∈ mt_TB ∧ (r.1.cls ≠ "java/lang/invoke/MethodHandle" ∧ r.1.cls ≠ "java/lang/invoke/VarHandle") ∧ r.2.2.2.2.2 ≤ r.2.2.1 ∧ r.2.2.1 + 19 ≤ 64
set_option maxRecDepth 100000 in
theorem mt_m1 : mt_Pm mt_T1 := ⟨by decide +kernel, mt_in 27 rfl rfl, mt_in 1 (by decide +kernel) rfl, ⟨by decide +kernel, by decide +kernel⟩, by decide, by decide⟩
set_option maxRecDepth 100000 in
theorem mt_m2 : mt_Pm mt_T2 := ⟨by decide +kernel, mt_in 35 rfl rfl, mt_in 2 (by decide +kernel) rfl, ⟨by decide +kernel, by decide +kernel⟩, by decide, by decide⟩
set_option maxRecDepth 100000 in
theorem mt_m3 : mt_Pm mt_T3 := ⟨by decide +kernel, mt_in 40 rfl rfl, mt_in 2 (by decide +kernel) rfl, ⟨by decide +kernel, by decide +kernel⟩, by decide, by decide⟩
set_option maxRecDepth 100000 in
theorem mt_m4 : mt_Pm mt_T4 := ⟨by decide +kernel, mt_in 83 rfl rfl, mt_in 4 (by decide +kernel) rfl, ⟨by decide +kernel, by decide +kernel⟩, by decide, by decide⟩
set_option maxRecDepth 100000 in
theorem mt_m5 : mt_Pm mt_T5 := ⟨by decide +kernel, mt_in 119 rfl rfl, mt_in 5 (by decide +kernel) rfl, ⟨by decide +kernel, by decide +kernel⟩, by decide, by decide⟩
set_option maxRecDepth 100000 in
theorem mt_m6 : mt_Pm mt_T6 := ⟨by decide +kernel, mt_in 146 rfl rfl, mt_in 6 (by decide +kernel) rfl, ⟨by decide +kernel, by decide +kernel⟩, by decide, by decide⟩
set_option maxRecDepth 100000 in
theorem mt_m7 : mt_Pm mt_T7 := ⟨by decide +kernel, mt_in 245 rfl rfl, mt_in 1 (by decide +kernel) rfl, ⟨by decide +kernel, by decide +kernel⟩, by decide, by decide⟩
set_option maxRecDepth 100000 in
theorem mt_m8 : mt_Pm mt_T8 := ⟨by decide +kernel, mt_in 250 rfl rfl, mt_in 5 (by decide +kernel) rfl, ⟨by decide +kernel, by decide +kernel⟩, by decide, by decide⟩
set_option maxRecDepth 100000 in
theorem mt_m9 : mt_Pm mt_T9 := ⟨by decide +kernel, mt_in 254 rfl rfl, mt_in 5 (by decide +kernel) rfl, ⟨by decide +kernel, by decide +kernel⟩, by decide, by decide⟩
set_option maxRecDepth 100000 in
theorem mt_m10 : mt_Pm mt_T10 := ⟨by decide +kernel, mt_in 258 rfl rfl, mt_in 6 (by decide +kernel) rfl, ⟨by decide +kernel, by decide +kernel⟩, by decide, by decide⟩
set_option maxRecDepth 100000 in
theorem mt_m11 : mt_Pm mt_T11 := ⟨by decide +kernel, mt_in 262 rfl rfl, mt_in 1 (by decide +kernel) rfl, ⟨by decide +kernel, by decide +kernel⟩, by decide, by decide⟩
set_option maxRecDepth 100000 in
theorem mt_m12 : mt_Pm mt_T12 := ⟨by decide +kernel, mt_in 266 rfl rfl, mt_in 1 (by decide +kernel) rfl, ⟨by decide +kernel, by decide +kernel⟩, by decide, by decide⟩
set_option maxRecDepth 100000 in
theorem mt_m13 : mt_Pm mt_T13 := ⟨by decide +kernel, mt_in 270 rfl rfl, mt_in 2 (by decide +kernel) rfl, ⟨by decide +kernel, by decide +kernel⟩, by decide, by decide⟩
set_option maxRecDepth 100000 in
theorem mt_m14 : mt_Pm mt_T14 := ⟨by decide +kernel, mt_in 274 rfl rfl, mt_in 2 (by decide +kernel) rfl, ⟨by decide +kernel, by decide +kernel⟩, by decide, by decide⟩
set_option maxRecDepth 100000 in
theorem mt_m15 : mt_Pm mt_T15 := ⟨by decide +kernel, mt_in 278 rfl rfl, mt_in 2 (by decide +kernel) rfl, ⟨by decide +kernel, by decide +kernel⟩, by decide, by decide⟩
set_option maxRecDepth 100000 in
theorem mt_m16 : mt_Pm mt_T16 := ⟨by decide +kernel, mt_in 282 rfl rfl, mt_in 1 (by decide +kernel) rfl, ⟨by decide +kernel, by decide +kernel⟩, by decide, by decide⟩
set_option maxRecDepth 100000 in
theorem mt_m17 : mt_Pm mt_T17 := ⟨by decide +kernel, mt_in 286 rfl rfl, mt_in 1 (by decide +kernel) rfl, ⟨by decide +kernel, by decide +kernel⟩, by decide, by decide⟩
set_option maxRecDepth 100000 in
theorem mt_m18 : mt_Pm mt_T18 := ⟨by decide +kernel, mt_in 290 rfl rfl, mt_in 1 (by decide +kernel) rfl, ⟨by decide +kernel, by decide +kernel⟩, by decide, by decide⟩
set_option maxRecDepth 100000 in
theorem mt_m19 : mt_Pm mt_T19 := ⟨by decide +kernel, mt_in 298 rfl rfl, mt_in 9 (by decide +kernel) rfl, ⟨by decide +kernel, by decide +kernel⟩, by decide, by decide⟩
set_option maxRecDepth 100000 in
theorem mt_m20 : mt_Pm mt_T20 := ⟨by decide +kernel, mt_in 314 rfl rfl, mt_in 9 (by decide +kernel) rfl, ⟨by decide +kernel, by decide +kernel⟩, by decide, by decide⟩
set_option maxRecDepth 100000 in
theorem mt_m21 : mt_Pm mt_T21 := ⟨by decide +kernel, mt_in 318 rfl rfl, mt_in 9 (by decide +kernel) rfl, ⟨by decide +kernel, by decide +kernel⟩, by decide, by decide⟩
set_option maxRecDepth 100000 in
theorem mt_m22 : mt_Pm mt_T22 := ⟨by decide +kernel, mt_in 322 rfl rfl, mt_in 9 (by decide +kernel) rfl, ⟨by decide +kernel, by decide +kernel⟩, by decide, by decide⟩
set_option maxRecDepth 100000 in
theorem mt_m23 : mt_Pm mt_T23 := ⟨by decide +kernel, mt_in 326 rfl rfl, mt_in 9 (by decide +kernel) rfl, ⟨by decide +kernel, by decide +kernel⟩, by decide, by decide⟩
set_option maxRecDepth 100000 in
theorem mt_m24 : mt_Pm mt_T24 := ⟨by decide +kernel, mt_in 330 rfl rfl, mt_in 9 (by decide +kernel) rfl, ⟨by decide +kernel, by decide +kernel⟩, by decide, by decide⟩
set_option maxRecDepth 100000 in
theorem mt_m25 : mt_Pm mt_T25 := ⟨by decide +kernel, mt_in 335 rfl rfl, mt_in 11 (by decide +kernel) rfl, ⟨by decide +kernel, by decide +kernel⟩, by decide, by decide⟩
set_option maxRecDepth 100000 in
theorem mt_m26 : mt_Pm mt_T26 := ⟨by decide +kernel, mt_in 338 rfl rfl, mt_in 10 (by decide +kernel) rfl, ⟨by decide +kernel, by decide +kernel⟩, by decide, by decide⟩
set_option maxRecDepth 100000 in
theorem mt_m27 : mt_Pm mt_T27 := ⟨by decide +kernel, mt_in 348 rfl rfl, mt_in 9 (by decide +kernel) rfl, ⟨by decide +kernel, by decide +kernel⟩, by decide, by decide⟩
set_option maxRecDepth 100000 in
theorem mt_m28 : mt_Pm mt_T28 := ⟨by decide +kernel, mt_in 352 rfl rfl, mt_in 9 (by decide +kernel) rfl, ⟨by decide +kernel, by decide +kernel⟩, by decide, by decide⟩
set_option maxRecDepth 100000 in
theorem mt_m29 : mt_Pm mt_T29 := ⟨by decide +kernel, mt_in 357 rfl rfl, mt_in 12 (by decide +kernel) rfl, ⟨by decide +kernel, by decide +kernel⟩, by decide, by decide⟩
set_option maxRecDepth 100000 in
theorem mt_m30 : mt_Pm mt_T30 := ⟨by decide +kernel, mt_in 369 rfl rfl, mt_in 9 (by decide +kernel) rfl, ⟨by decide +kernel, by decide +kernel⟩, by decide, by decide⟩
set_option maxRecDepth 100000 in
theorem mt_m31 : mt_Pm mt_T31 := ⟨by decide +kernel, mt_in 373 rfl rfl, mt_in 9 (by decide +kernel) rfl, ⟨by decide +kernel, by decide +kernel⟩, by decide, by decide⟩
set_option maxRecDepth 100000 in
theorem mt_m32 : mt_Pm mt_T32 := ⟨by decide +kernel, mt_in 377 rfl rfl, mt_in 9 (by decide +kernel) rfl, ⟨by decide +kernel, by decide +kernel⟩, by decide, by decide⟩
set_option maxRecDepth 100000 in
theorem mt_m33 : mt_Pm mt_T33 := ⟨by decide +kernel, mt_in 470 rfl rfl, mt_in 19 (by decide +kernel) rfl, ⟨by decide +kernel, by decide +kernel⟩, by decide, by decide⟩
set_option maxRecDepth 100000 in
theorem mt_m34 : mt_Pm mt_T34 := ⟨by decide +kernel, mt_in 490 rfl rfl, mt_in 20 (by decide +kernel) rfl, ⟨by decide +kernel, by decide +kernel⟩, by decide, by decide⟩
set_option maxRecDepth 100000 in
theorem mt_m35 : mt_Pm mt_T35 := ⟨by decide +kernel, mt_in 506 rfl rfl, mt_in 21 (by decide +kernel) rfl, ⟨by decide +kernel, by decide +kernel⟩, by decide, by decide⟩
set_option maxRecDepth 100000 in
theorem mt_m36 : mt_Pm mt_T36 := ⟨by decide +kernel, mt_in 523 rfl rfl, mt_in 9 (by decide +kernel) rfl, ⟨by decide +kernel, by decide +kernel⟩, by decide, by decide⟩
set_option maxRecDepth 100000 in
theorem mt_m37 : mt_Pm mt_T37 := ⟨by decide +kernel, mt_in 527 rfl rfl, mt_in 5 (by decide +kernel) rfl, ⟨by decide +kernel, by decide +kernel⟩, by decide, by decide⟩
set_option maxRecDepth 100000 in
theorem mt_m38 : mt_Pm mt_T38 := ⟨by decide +kernel, mt_in 531 rfl rfl, mt_in 1 (by decide +kernel) rfl, ⟨by decide +kernel, by decide +kernel⟩, by decide, by decide⟩
set_option maxRecDepth 100000 in
theorem mt_m39 : mt_Pm mt_T39 := ⟨by decide +kernel, mt_in 535 rfl rfl, mt_in 5 (by decide +kernel) rfl, ⟨by decide +kernel, by decide +kernel⟩, by decide, by decide⟩
set_option maxRecDepth 100000 in
theorem mt_m40 : mt_Pm mt_T40 := ⟨by decide +kernel, mt_in 539 rfl rfl, mt_in 1 (by decide +kernel) rfl, ⟨by decide +kernel, by decide +kernel⟩, by decide, by decide⟩
set_option maxRecDepth 100000 in
theorem mt_m41 : mt_Pm mt_T41 := ⟨by decide +kernel, mt_in 544 rfl rfl, mt_in 6 (by decide +kernel) rfl, ⟨by decide +kernel, by decide +kernel⟩, by decide, by decide⟩
set_option maxRecDepth 100000 in
theorem mt_m42 : mt_Pm mt_T42 := ⟨by decide +kernel, mt_in 548 rfl rfl, mt_in 1 (by decide +kernel) rfl, ⟨by decide +kernel, by decide +kernel⟩, by decide, by decide⟩
set_option maxRecDepth 100000 in
theorem mt_m43 : mt_Pm mt_T43 := ⟨by decide +kernel, mt_in 552 rfl rfl, mt_in 1 (by decide +kernel) rfl, ⟨by decide +kernel, by decide +kernel⟩, by decide, by decide⟩
set_option maxRecDepth 100000 in
theorem mt_m44 : mt_Pm mt_T44 := ⟨by decide +kernel, mt_in 556 rfl rfl, mt_in 2 (by decide +kernel) rfl, ⟨by decide +kernel, by decide +kernel⟩, by decide, by decide⟩
set_option maxRecDepth 100000 in
theorem mt_m45 : mt_Pm mt_T45 := ⟨by decide +kernel, mt_in 560 rfl rfl, mt_in 1 (by decide +kernel) rfl, ⟨by decide +kernel, by decide +kernel⟩, by decide, by decide⟩
set_option maxRecDepth 100000 in
theorem mt_m46 : mt_Pm mt_T46 := ⟨by decide +kernel, mt_in 564 rfl rfl, mt_in 1 (by decide +kernel) rfl, ⟨by decide +kernel, by decide +kernel⟩, by decide, by decide⟩
set_option maxRecDepth 100000 in
theorem mt_m47 : mt_Pm mt_T47 := ⟨by decide +kernel, mt_in 568 rfl rfl, mt_in 4 (by decide +kernel) rfl, ⟨by decide +kernel, by decide +kernel⟩, by decide, by decide⟩
set_option maxRecDepth 100000 in
theorem mt_m48 : mt_Pm mt_T48 := ⟨by decide +kernel, mt_in 573 rfl rfl, mt_in 4 (by decide +kernel) rfl, ⟨by decide +kernel, by decide +kernel⟩, by decide, by decide⟩
set_option maxRecDepth 100000 in
theorem mt_m49 : mt_Pm mt_T49 := ⟨by decide +kernel, mt_in 586 rfl rfl, mt_in 5 (by decide +kernel) rfl, ⟨by decide +kernel, by decide +kernel⟩, by decide, by decide⟩
set_option maxRecDepth 100000 in
theorem mt_m50 : mt_Pm mt_T50 := ⟨by decide +kernel, mt_in 592 rfl rfl, mt_in 20 (by decide +kernel) rfl, ⟨by decide +kernel, by decide +kernel⟩, by decide, by decide⟩
set_option maxRecDepth 100000 in
theorem mt_m51 : mt_Pm mt_T51 := ⟨by decide +kernel, mt_in 596 rfl rfl, mt_in 19 (by decide +kernel) rfl, ⟨by decide +kernel, by decide +kernel⟩, by decide, by decide⟩
set_option maxRecDepth 100000 in
theorem mt_m52 : mt_Pm mt_T52 := ⟨by decide +kernel, mt_in 602 rfl rfl, mt_in 12 (by decide +kernel) rfl, ⟨by decide +kernel, by decide +kernel⟩, by decide, by decide⟩
set_option maxRecDepth 100000 in
theorem mt_m53 : mt_Pm mt_T53 := ⟨by decide +kernel, mt_in 607 rfl rfl, mt_in 4 (by decide +kernel) rfl, ⟨by decide +kernel, by decide +kernel⟩, by decide, by decide⟩
set_option maxRecDepth 100000 in
theorem mt_m54 : mt_Pm mt_T54 := ⟨by decide +kernel, mt_in 610 rfl rfl, mt_in 11 (by decide +kernel) rfl, ⟨by decide +kernel, by decide +kernel⟩, by decide, by decide⟩
set_option maxRecDepth 100000 in
theorem mt_m55 : mt_Pm mt_T55 := ⟨by decide +kernel, mt_in 613 rfl rfl, mt_in 21 (by decide +kernel) rfl, ⟨by decide +kernel, by decide +kernel⟩, by decide, by decide⟩
set_option maxRecDepth 100000 in
theorem mt_m56 : mt_Pm mt_T56 := ⟨by decide +kernel, mt_in 620 rfl rfl, mt_in 1 (by decide +kernel) rfl, ⟨by decide +kernel, by decide +kernel⟩, by decide, by decide⟩
set_option maxRecDepth 100000 in
theorem mt_m57 : mt_Pm mt_T57 := ⟨by decide +kernel, mt_in 624 rfl rfl, mt_in 1 (by decide +kernel) rfl, ⟨by decide +kernel, by decide +kernel⟩, by decide, by decide⟩
set_option maxRecDepth 100000 in
theorem mt_m58 : mt_Pm mt_T58 := ⟨by decide +kernel, mt_in 628 rfl rfl, mt_in 5 (by decide +kernel) rfl, ⟨by decide +kernel, by decide +kernel⟩, by decide, by decide⟩
set_option maxRecDepth 100000 in
theorem mt_m59 : mt_Pm mt_T59 := ⟨by decide +kernel, mt_in 636 rfl rfl, mt_in 6 (by decide +kernel) rfl, ⟨by decide +kernel, by decide +kernel⟩, by decide, by decide⟩
set_option maxRecDepth 100000 in
theorem mt_m60 : mt_Pm mt_T60 := ⟨by decide +kernel, mt_in 641 rfl rfl, mt_in 1 (by decide +kernel) rfl, ⟨by decide +kernel, by decide +kernel⟩, by decide, by decide⟩
set_option maxRecDepth 100000 in
theorem mt_m61 : mt_Pm mt_T61 := ⟨by decide +kernel, mt_in 645 rfl rfl, mt_in 5 (by decide +kernel) rfl, ⟨by decide +kernel, by decide +kernel⟩, by decide, by decide⟩
set_option maxRecDepth 100000 in
theorem mt_m62 : mt_Pm mt_T62 := ⟨by decide +kernel, mt_in 650 rfl rfl, mt_in 1 (by decide +kernel) rfl, ⟨by decide +kernel, by decide +kernel⟩, by decide, by decide⟩
set_option maxRecDepth 100000 in
theorem mt_m63 : mt_Pm mt_T63 := ⟨by decide +kernel, mt_in 654 rfl rfl, mt_in 1 (by decide +kernel) rfl, ⟨by decide +kernel, by decide +kernel⟩, by decide, by decide⟩
set_option maxRecDepth 100000 in
theorem mt_m64 : mt_Pm mt_T64 := ⟨by decide +kernel, mt_in 658 rfl rfl, mt_in 1 (by decide +kernel) rfl, ⟨by decide +kernel, by decide +kernel⟩, by decide, by decide⟩
set_option maxRecDepth 100000 in
theorem mt_m65 : mt_Pm mt_T65 := ⟨by decide +kernel, mt_in 662 rfl rfl, mt_in 6 (by decide +kernel) rfl, ⟨by decide +kernel, by decide +kernel⟩, by decide, by decide⟩
set_option maxRecDepth 100000 in
theorem mt_m66 : mt_Pm mt_T66 := ⟨by decide +kernel, mt_in 666 rfl rfl, mt_in 6 (by decide +kernel) rfl, ⟨by decide +kernel, by decide +kernel⟩, by decide, by decide⟩
set_option maxRecDepth 100000 in
theorem mt_m67 : mt_Pm mt_T67 := ⟨by decide +kernel, mt_in 673 rfl rfl, mt_in 6 (by decide +kernel) rfl, ⟨by decide +kernel, by decide +kernel⟩, by decide, by decide⟩
set_option maxRecDepth 100000 in
theorem mt_m68 : mt_Pm mt_T68 := ⟨by decide +kernel, mt_in 678 rfl rfl, mt_in 6 (by decide +kernel) rfl, ⟨by decide +kernel, by decide +kernel⟩, by decide, by decide⟩
set_option maxRecDepth 100000 in
theorem mt_m69 : mt_Pm mt_T69 := ⟨by decide +kernel, mt_in 682 rfl rfl, mt_in 6 (by decide +kernel) rfl, ⟨by decide +kernel, by decide +kernel⟩, by decide, by decide⟩
set_option maxRecDepth 100000 in
theorem mt_m70 : mt_Pm mt_T70 := ⟨by decide +kernel, mt_in 687 rfl rfl, mt_in 6 (by decide +kernel) rfl, ⟨by decide +kernel, by decide +kernel⟩, by decide, by decide⟩
set_option maxRecDepth 100000 in
theorem mt_m71 : mt_Pm mt_T71 := ⟨by decide +kernel, mt_in 691 rfl rfl, mt_in 6 (by decide +kernel) rfl, ⟨by decide +kernel, by decide +kernel⟩, by decide, by decide⟩
set_option maxRecDepth 100000 in
theorem mt_m72 : mt_Pm mt_T72 := ⟨by decide +kernel, mt_in 695 rfl rfl, mt_in 6 (by decide +kernel) rfl, ⟨by decide +kernel, by decide +kernel⟩, by decide, by decide⟩
set_option maxRecDepth 100000 in
theorem mt_m73 : mt_Pm mt_T73 := ⟨by decide +kernel, mt_in 699 rfl rfl, mt_in 6 (by decide +kernel) rfl, ⟨by decide +kernel, by decide +kernel⟩, by decide, by decide⟩
set_option maxRecDepth 100000 in
theorem mt_m74 : mt_Pm mt_T74 := ⟨by decide +kernel, mt_in 703 rfl rfl, mt_in 6 (by decide +kernel) rfl, ⟨by decide +kernel, by decide +kernel⟩, by decide, by decide⟩
set_option maxRecDepth 100000 in
theorem mt_m75 : mt_Pm mt_T75 := ⟨by decide +kernel, mt_in 708 rfl rfl, mt_in 6 (by decide +kernel) rfl, ⟨by decide +kernel, by decide +kernel⟩, by decide, by decide⟩
set_option maxRecDepth 100000 in
theorem mt_m76 : mt_Pm mt_T76 := ⟨by decide +kernel, mt_in 714 rfl rfl, mt_in 6 (by decide +kernel) rfl, ⟨by decide +kernel, by decide +kernel⟩, by decide, by decide⟩
set_option maxRecDepth 100000 in
theorem mt_m77 : mt_Pm mt_T77 := ⟨by decide +kernel, mt_in 718 rfl rfl, mt_in 6 (by decide +kernel) rfl, ⟨by decide +kernel, by decide +kernel⟩, by decide, by decide⟩
set_option maxRecDepth 100000 in
theorem mt_m78 : mt_Pm mt_T78 := ⟨by decide +kernel, mt_in 722 rfl rfl, mt_in 1 (by decide +kernel) rfl, ⟨by decide +kernel, by decide +kernel⟩, by decide, by decide⟩
set_option maxRecDepth 100000 in
theorem mt_m79 : mt_Pm mt_T79 := ⟨by decide +kernel, mt_in 726 rfl rfl, mt_in 1 (by decide +kernel) rfl, ⟨by decide +kernel, by decide +kernel⟩, by decide, by decide⟩
set_option maxRecDepth 100000 in
theorem mt_m80 : mt_Pm mt_T80 := ⟨by decide +kernel, mt_in 730 rfl rfl, mt_in 1 (by decide +kernel) rfl, ⟨by decide +kernel, by decide +kernel⟩, by decide, by decide⟩
set_option maxRecDepth 100000 in
theorem mt_m81 : mt_Pm mt_T81 := ⟨by decide +kernel, mt_in 734 rfl rfl, mt_in 1 (by decide +kernel) rfl, ⟨by decide +kernel, by decide +kernel⟩, by decide, by decide⟩
set_option maxRecDepth 100000 in
theorem mt_m82 : mt_Pm mt_T82 := ⟨by decide +kernel, mt_in 739 rfl rfl, mt_in 7 (by decide +kernel) rfl, ⟨by decide +kernel, by decide +kernel⟩, by decide, by decide⟩
set_option maxRecDepth 100000 in
theorem mt_m83 : mt_Pm mt_T83 := ⟨by decide +kernel, mt_in 865 rfl rfl, mt_in 7 (by decide +kernel) rfl, ⟨by decide +kernel, by decide +kernel⟩, by decide, by decide⟩
set_option maxRecDepth 100000 in
theorem mt_m84 : mt_Pm mt_T84 := ⟨by decide +kernel, mt_in 869 rfl rfl, mt_in 7 (by decide +kernel) rfl, ⟨by decide +kernel, by decide +kernel⟩, by decide, by decide⟩
set_option maxRecDepth 100000 in
theorem mt_m85 : mt_Pm mt_T85 := ⟨by decide +kernel, mt_in 872 rfl rfl, mt_in 7 (by decide +kernel) rfl, ⟨by decide +kernel, by decide +kernel⟩, by decide, by decide⟩
set_option maxRecDepth 100000 in
theorem mt_m86 : mt_Pm mt_T86 := ⟨by decide +kernel, mt_in 876 rfl rfl, mt_in 7 (by decide +kernel) rfl, ⟨by decide +kernel, by decide +kernel⟩, by decide, by decide⟩
set_option maxRecDepth 100000 in
theorem mt_m87 : mt_Pm mt_T87 := ⟨by decide +kernel, mt_in 880 rfl rfl, mt_in 7 (by decide +kernel) rfl, ⟨by decide +kernel, by decide +kernel⟩, by decide, by decide⟩
set_option maxRecDepth 100000 in
theorem mt_m88 : mt_Pm mt_T88 := ⟨by decide +kernel, mt_in 884 rfl rfl, mt_in 7 (by decide +kernel) rfl, ⟨by decide +kernel, by decide +kernel⟩, by decide, by decide⟩
set_option maxRecDepth 100000 in
theorem mt_m89 : mt_Pm mt_T89 := ⟨by decide +kernel, mt_in 888 rfl rfl, mt_in 7 (by decide +kernel) rfl, ⟨by decide +kernel, by decide +kernel⟩, by decide, by decide⟩
set_option maxRecDepth 100000 in
theorem mt_m90 : mt_Pm mt_T90 := ⟨by decide +kernel, mt_in 892 rfl rfl, mt_in 7 (by decide +kernel) rfl, ⟨by decide +kernel, by decide +kernel⟩, by decide, by decide⟩
set_option maxRecDepth 100000 in
theorem mt_m91 : mt_Pm mt_T91 := ⟨by decide +kernel, mt_in 896 rfl rfl, mt_in 7 (by decide +kernel) rfl, ⟨by decide +kernel, by decide +kernel⟩, by decide, by decide⟩
set_option maxRecDepth 100000 in
theorem mt_m92 : mt_Pm mt_T92 := ⟨by decide +kernel, mt_in 900 rfl rfl, mt_in 7 (by decide +kernel) rfl, ⟨by decide +kernel, by decide +kernel⟩, by decide, by decide⟩
set_option maxRecDepth 100000 in
theorem mt_m93 : mt_Pm mt_T93 := ⟨by decide +kernel, mt_in 904 rfl rfl, mt_in 7 (by decide +kernel) rfl, ⟨by decide +kernel, by decide +kernel⟩, by decide, by decide⟩
set_option maxRecDepth 100000 in
theorem mt_m94 : mt_Pm mt_T94 := ⟨by decide +kernel, mt_in 908 rfl rfl, mt_in 7 (by decide +kernel) rfl, ⟨by decide +kernel, by decide +kernel⟩, by decide, by decide⟩
set_option maxRecDepth 100000 in
theorem mt_m95 : mt_Pm mt_T95 := ⟨by decide +kernel, mt_in 912 rfl rfl, mt_in 7 (by decide +kernel) rfl, ⟨by decide +kernel, by decide +kernel⟩, by decide, by decide⟩
set_option maxRecDepth 100000 in
theorem mt_m96 : mt_Pm mt_T96 := ⟨by decide +kernel, mt_in 916 rfl rfl, mt_in 7 (by decide +kernel) rfl, ⟨by decide +kernel, by decide +kernel⟩, by decide, by decide⟩
set_option maxRecDepth 100000 in
theorem mt_m97 : mt_Pm mt_T97 := ⟨by decide +kernel, mt_in 920 rfl rfl, mt_in 7 (by decide +kernel) rfl, ⟨by decide +kernel, by decide +kernel⟩, by decide, by decide⟩
set_option maxRecDepth 100000 in
theorem mt_m98 : mt_Pm mt_T98 := ⟨by decide +kernel, mt_in 924 rfl rfl, mt_in 7 (by decide +kernel) rfl, ⟨by decide +kernel, by decide +kernel⟩, by decide, by decide⟩
set_option maxRecDepth 100000 in
theorem mt_m99 : mt_Pm mt_T99 := ⟨by decide +kernel, mt_in 928 rfl rfl, mt_in 7 (by decide +kernel) rfl, ⟨by decide +kernel, by decide +kernel⟩, by decide, by decide⟩
set_option maxRecDepth 100000 in
theorem mt_m100 : mt_Pm mt_T100 := ⟨by decide +kernel, mt_in 932 rfl rfl, mt_in 7 (by decide +kernel) rfl, ⟨by decide +kernel, by decide +kernel⟩, by decide, by decide⟩
set_option maxRecDepth 100000 in
theorem mt_m101 : mt_Pm mt_T101 := ⟨by decide +kernel, mt_in 936 rfl rfl, mt_in 7 (by decide +kernel) rfl, ⟨by decide +kernel, by decide +kernel⟩, by decide, by decide⟩
set_option maxRecDepth 100000 in
theorem mt_m102 : mt_Pm mt_T102 := ⟨by decide +kernel, mt_in 940 rfl rfl, mt_in 7 (by decide +kernel) rfl, ⟨by decide +kernel, by decide +kernel⟩, by decide, by decide⟩
set_option maxRecDepth 100000 in
theorem mt_m103 : mt_Pm mt_T103 := ⟨by decide +kernel, mt_in 944 rfl rfl, mt_in 7 (by decide +kernel) rfl, ⟨by decide +kernel, by decide +kernel⟩, by decide, by decide⟩
set_option maxRecDepth 100000 in
theorem mt_m104 : mt_Pm mt_T104 := ⟨by decide +kernel, mt_in 948 rfl rfl, mt_in 7 (by decide +kernel) rfl, ⟨by decide +kernel, by decide +kernel⟩, by decide, by decide⟩
set_option maxRecDepth 100000 in
theorem mt_m105 : mt_Pm mt_T105 := ⟨by decide +kernel, mt_in 952 rfl rfl, mt_in 7 (by decide +kernel) rfl, ⟨by decide +kernel, by decide +kernel⟩, by decide, by decide⟩
set_option maxRecDepth 100000 in
theorem mt_m106 : mt_Pm mt_T106 := ⟨by decide +kernel, mt_in 956 rfl rfl, mt_in 7 (by decide +kernel) rfl, ⟨by decide +kernel, by decide +kernel⟩, by decide, by decide⟩
set_option maxRecDepth 100000 in
theorem mt_m107 : mt_Pm mt_T107 := ⟨by decide +kernel, mt_in 960 rfl rfl, mt_in 7 (by decide +kernel) rfl, ⟨by decide +kernel, by decide +kernel⟩, by decide, by decide⟩
set_option maxRecDepth 100000 in
theorem mt_m108 : mt_Pm mt_T108 := ⟨by decide +kernel, mt_in 964 rfl rfl, mt_in 7 (by decide +kernel) rfl, ⟨by decide +kernel, by decide +kernel⟩, by decide, by decide⟩
set_option maxRecDepth 100000 in
theorem mt_m109 : mt_Pm mt_T109 := ⟨by decide +kernel, mt_in 968 rfl rfl, mt_in 7 (by decide +kernel) rfl, ⟨by decide +kernel, by decide +kernel⟩, by decide, by decide⟩
set_option maxRecDepth 100000 in
theorem mt_m110 : mt_Pm mt_T110 := ⟨by decide +kernel, mt_in 972 rfl rfl, mt_in 7 (by decide +kernel) rfl, ⟨by decide +kernel, by decide +kernel⟩, by decide, by decide⟩
set_option maxRecDepth 100000 in
theorem mt_m111 : mt_Pm mt_T111 := ⟨by decide +kernel, mt_in 976 rfl rfl, mt_in 7 (by decide +kernel) rfl, ⟨by decide +kernel, by decide +kernel⟩, by decide, by decide⟩
set_option maxRecDepth 100000 in
theorem mt_m112 : mt_Pm mt_T112 := ⟨by decide +kernel, mt_in 980 rfl rfl, mt_in 7 (by decide +kernel) rfl, ⟨by decide +kernel, by decide +kernel⟩, by decide, by decide⟩
set_option maxRecDepth 100000 in
theorem mt_m113 : mt_Pm mt_T113 := ⟨by decide +kernel, mt_in 983 rfl rfl, mt_in 7 (by decide +kernel) rfl, ⟨by decide +kernel, by decide +kernel⟩, by decide, by decide⟩
set_option maxRecDepth 100000 in
theorem mt_m114 : mt_Pm mt_T114 := ⟨by decide +kernel, mt_in 986 rfl rfl, mt_in 7 (by decide +kernel) rfl, ⟨by decide +kernel, by decide +kernel⟩, by decide, by decide⟩
set_option maxRecDepth 100000 in
theorem mt_m115 : mt_Pm mt_T115 := ⟨by decide +kernel, mt_in 990 rfl rfl, mt_in 7 (by decide +kernel) rfl, ⟨by decide +kernel, by decide +kernel⟩, by decide, by decide⟩
set_option maxRecDepth 100000 in
theorem mt_m116 : mt_Pm mt_T116 := ⟨by decide +kernel, mt_in 994 rfl rfl, mt_in 7 (by decide +kernel) rfl, ⟨by decide +kernel, by decide +kernel⟩, by decide, by decide⟩
set_option maxRecDepth 100000 in
theorem mt_m117 : mt_Pm mt_T117 := ⟨by decide +kernel, mt_in 998 rfl rfl, mt_in 7 (by decide +kernel) rfl, ⟨by decide +kernel, by decide +kernel⟩, by decide, by decide⟩
set_option maxRecDepth 100000 in
theorem mt_m118 : mt_Pm mt_T118 := ⟨by decide +kernel, mt_in 1002 rfl rfl, mt_in 7 (by decide +kernel) rfl, ⟨by decide +kernel, by decide +kernel⟩, by decide, by decide⟩
set_option maxRecDepth 100000 in
theorem mt_m119 : mt_Pm mt_T119 := ⟨by decide +kernel, mt_in 1006 rfl rfl, mt_in 7 (by decide +kernel) rfl, ⟨by decide +kernel, by decide +kernel⟩, by decide, by decide⟩
set_option maxRecDepth 100000 in
theorem mt_m120 : mt_Pm mt_T120 := ⟨by decide +kernel, mt_in 1010 rfl rfl, mt_in 7 (by decide +kernel) rfl, ⟨by decide +kernel, by decide +kernel⟩, by decide, by decide⟩
set_option maxRecDepth 100000 in
theorem mt_m121 : mt_Pm mt_T121 := ⟨by decide +kernel, mt_in 1014 rfl rfl, mt_in 7 (by decide +kernel) rfl, ⟨by decide +kernel, by decide +kernel⟩, by decide, by decide⟩
set_option maxRecDepth 100000 in
theorem mt_m122 : mt_Pm mt_T122 := ⟨by decide +kernel, mt_in 1018 rfl rfl, mt_in 7 (by decide +kernel) rfl, ⟨by decide +kernel, by decide +kernel⟩, by decide, by decide⟩
set_option maxRecDepth 100000 in
theorem mt_m123 : mt_Pm mt_T123 := ⟨by decide +kernel, mt_in 1022 rfl rfl, mt_in 7 (by decide +kernel) rfl, ⟨by decide +kernel, by decide +kernel⟩, by decide, by decide⟩
set_option maxRecDepth 100000 in
theorem mt_m124 : mt_Pm mt_T124 := ⟨by decide +kernel, mt_in 1026 rfl rfl, mt_in 7 (by decide +kernel) rfl, ⟨by decide +kernel, by decide +kernel⟩, by decide, by decide⟩
set_option maxRecDepth 100000 in
theorem mt_m125 : mt_Pm mt_T125 := ⟨by decide +kernel, mt_in 1030 rfl rfl, mt_in 7 (by decide +kernel) rfl, ⟨by decide +kernel, by decide +kernel⟩, by decide, by decide⟩
set_option maxRecDepth 100000 in
theorem mt_m126 : mt_Pm mt_T126 := ⟨by decide +kernel, mt_in 1034 rfl rfl, mt_in 7 (by decide +kernel) rfl, ⟨by decide +kernel, by decide +kernel⟩, by decide, by decide⟩
set_option maxRecDepth 100000 in
theorem mt_m127 : mt_Pm mt_T127 := ⟨by decide +kernel, mt_in 1038 rfl rfl, mt_in 7 (by decide +kernel) rfl, ⟨by decide +kernel, by decide +kernel⟩, by decide, by decide⟩
set_option maxRecDepth 100000 in
theorem mt_m128 : mt_Pm mt_T128 := ⟨by decide +kernel, mt_in 1042 rfl rfl, mt_in 7 (by decide +kernel) rfl, ⟨by decide +kernel, by decide +kernel⟩, by decide, by decide⟩
set_option maxRecDepth 100000 in
theorem mt_m129 : mt_Pm mt_T129 := ⟨by decide +kernel, mt_in 1046 rfl rfl, mt_in 7 (by decide +kernel) rfl, ⟨by decide +kernel, by decide +kernel⟩, by decide, by decide⟩
set_option maxRecDepth 100000 in
theorem mt_m130 : mt_Pm mt_T130 := ⟨by decide +kernel, mt_in 1050 rfl rfl, mt_in 7 (by decide +kernel) rfl, ⟨by decide +kernel, by decide +kernel⟩, by decide, by decide⟩
set_option maxRecDepth 100000 in
theorem mt_m131 : mt_Pm mt_T131 := ⟨by decide +kernel, mt_in 1054 rfl rfl, mt_in 7 (by decide +kernel) rfl, ⟨by decide +kernel, by decide +kernel⟩, by decide, by decide⟩
set_option maxRecDepth 100000 in
theorem mt_m132 : mt_Pm mt_T132 := ⟨by decide +kernel, mt_in 1058 rfl rfl, mt_in 7 (by decide +kernel) rfl, ⟨by decide +kernel, by decide +kernel⟩, by decide, by decide⟩
set_option maxRecDepth 100000 in
theorem mt_m133 : mt_Pm mt_T133 := ⟨by decide +kernel, mt_in 1062 rfl rfl, mt_in 7 (by decide +kernel) rfl, ⟨by decide +kernel, by decide +kernel⟩, by decide, by decide⟩
set_option maxRecDepth 100000 in
theorem mt_m134 : mt_Pm mt_T134 := ⟨by decide +kernel, mt_in 1067 rfl rfl, mt_in 7 (by decide +kernel) rfl, ⟨by decide +kernel, by decide +kernel⟩, by decide, by decide⟩
set_option maxRecDepth 100000 in
theorem mt_m135 : mt_Pm mt_T135 := ⟨by decide +kernel, mt_in 1071 rfl rfl, mt_in 7 (by decide +kernel) rfl, ⟨by decide +kernel, by decide +kernel⟩, by decide, by decide⟩
set_option maxRecDepth 100000 in
theorem mt_m136 : mt_Pm mt_T136 := ⟨by decide +kernel, mt_in 1075 rfl rfl, mt_in 7 (by decide +kernel) rfl, ⟨by decide +kernel, by decide +kernel⟩, by decide, by decide⟩
set_option maxRecDepth 100000 in
theorem mt_m137 : mt_Pm mt_T137 := ⟨by decide +kernel, mt_in 43 rfl rfl, mt_in 3 (by decide +kernel) rfl, ⟨by decide +kernel, by decide +kernel⟩, by decide, by decide⟩
set_option maxRecDepth 100000 in
theorem mt_m138 : mt_Pm mt_T138 := ⟨by decide +kernel, mt_in 576 rfl rfl, mt_in 22 (by decide +kernel) rfl, ⟨by decide +kernel, by decide +kernel⟩, by decide, by decide⟩
set_option maxRecDepth 100000 in
theorem mt_m139 : mt_Pm mt_T139 := ⟨by decide +kernel, mt_in 599 rfl rfl, mt_in 15 (by decide +kernel) rfl, ⟨by decide +kernel, by decide +kernel⟩, by decide, by decide⟩
set_option maxRecDepth 100000 in
theorem mt_m140 : mt_Pm mt_T140 := ⟨by decide +kernel, mt_in 409 rfl rfl, mt_in 15 (by decide +kernel) rfl, ⟨by decide +kernel, by decide +kernel⟩, by decide, by decide⟩
set_option maxRecDepth 100000 in
theorem mt_m141 : mt_Pm mt_T141 := ⟨by decide +kernel, mt_in 412 rfl rfl, mt_in 15 (by decide +kernel) rfl, ⟨by decide +kernel, by decide +kernel⟩, by decide, by decide⟩
set_option maxRecDepth 100000 in
theorem mt_m142 : mt_Pm mt_T142 := ⟨by decide +kernel, mt_in 382 rfl rfl, mt_in 13 (by decide +kernel) rfl, ⟨by decide +kernel, by decide +kernel⟩, by decide, by decide⟩
set_option maxRecDepth 100000 in
theorem mt_m143 : mt_Pm mt_T143 := ⟨by decide +kernel, mt_in 386 rfl rfl, mt_in 13 (by decide +kernel) rfl, ⟨by decide +kernel, by decide +kernel⟩, by decide, by decide⟩
set_option maxRecDepth 100000 in
theorem mt_m144 : mt_Pm mt_T144 := ⟨by decide +kernel, mt_in 390 rfl rfl, mt_in 13 (by decide +kernel) rfl, ⟨by decide +kernel, by decide +kernel⟩, by decide, by decide⟩
set_option maxRecDepth 100000 in
theorem mt_m145 : mt_Pm mt_T145 := ⟨by decide +kernel, mt_in 396 rfl rfl, mt_in 13 (by decide +kernel) rfl, ⟨by decide +kernel, by decide +kernel⟩, by decide, by decide⟩
set_option maxRecDepth 100000 in
theorem mt_m146 : mt_Pm mt_T146 := ⟨by decide +kernel, mt_in 400 rfl rfl, mt_in 13 (by decide +kernel) rfl, ⟨by decide +kernel, by decide +kernel⟩, by decide, by decide⟩
set_option maxRecDepth 100000 in
theorem mt_m147 : mt_Pm mt_T147 := ⟨by decide +kernel, mt_in 403 rfl rfl, mt_in 14 (by decide +kernel) rfl, ⟨by decide +kernel, by decide +kernel⟩, by decide, by decide⟩
set_option maxRecDepth 100000 in
theorem mt_m148 : mt_Pm mt_T148 := ⟨by decide +kernel, mt_in 406 rfl rfl, mt_in 14 (by decide +kernel) rfl, ⟨by decide +kernel, by decide +kernel⟩, by decide, by decide⟩
set_option maxRecDepth 100000 in
theorem mt_m149 : mt_Pm mt_T149 := ⟨by decide +kernel, mt_in 415 rfl rfl, mt_in 14 (by decide +kernel) rfl, ⟨by decide +kernel, by decide +kernel⟩, by decide, by decide⟩

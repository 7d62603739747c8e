section
/-! the tables' words (SKELETON part A), class names and fields: begun from the printed texts -/
-- ===== PART A: goes FIRST, ahead of the names: the tables' words, and 'selects' of the private methods out of them =====
/-- a private method of a class that the tables say can be made, by its rows of tables_1 -/
def lw_okq (q : MethodName × Nat) : Prop := (q.1.cls ≠ "java/lang/invoke/MethodHandle" ∧ q.1.cls ≠ "java/lang/invoke/VarHandle") ∧ Cond.instantiable q.1.cls q.2 ∈ tables_1 ∧ Cond.privateMethod q.1 ∈ tables_1 ∧ Cond.instanceMethod q.1 ∈ tables_1
theorem lw_p0 : lw_okq (⟨"MixedRulesModel", "begins", "(I)V"⟩, 41) := ⟨⟨by decide +kernel, by decide +kernel⟩, List.mem_of_getElem? (i := 823) (by decide +kernel), List.mem_of_getElem? (i := 829) (by decide +kernel), List.mem_of_getElem? (i := 830) (by decide +kernel)⟩
theorem lw_p1 : lw_okq (⟨"MixedRulesModel", "flows", "(IIII)V"⟩, 41) := ⟨⟨by decide +kernel, by decide +kernel⟩, List.mem_of_getElem? (i := 823) (by decide +kernel), List.mem_of_getElem? (i := 833) (by decide +kernel), List.mem_of_getElem? (i := 834) (by decide +kernel)⟩
theorem lw_p2 : lw_okq (⟨"MixedRulesModel", "reads", "(Z)Z"⟩, 41) := ⟨⟨by decide +kernel, by decide +kernel⟩, List.mem_of_getElem? (i := 823) (by decide +kernel), List.mem_of_getElem? (i := 977) (by decide +kernel), List.mem_of_getElem? (i := 978) (by decide +kernel)⟩
theorem lw_p3 : lw_okq (⟨"MixedRulesModel", "nextToken", "()V"⟩, 41) := ⟨⟨by decide +kernel, by decide +kernel⟩, List.mem_of_getElem? (i := 823) (by decide +kernel), List.mem_of_getElem? (i := 981) (by decide +kernel), List.mem_of_getElem? (i := 982) (by decide +kernel)⟩
theorem lw_p4 : lw_okq (⟨"MixedRulesModel", "readsClause", "()Z"⟩, 41) := ⟨⟨by decide +kernel, by decide +kernel⟩, List.mem_of_getElem? (i := 823) (by decide +kernel), List.mem_of_getElem? (i := 995) (by decide +kernel), List.mem_of_getElem? (i := 996) (by decide +kernel)⟩
theorem lw_p5 : lw_okq (⟨"MixedRulesModel", "wordHere", "()I"⟩, 41) := ⟨⟨by decide +kernel, by decide +kernel⟩, List.mem_of_getElem? (i := 823) (by decide +kernel), List.mem_of_getElem? (i := 999) (by decide +kernel), List.mem_of_getElem? (i := 1000) (by decide +kernel)⟩
theorem lw_p6 : lw_okq (⟨"MixedRulesModel", "readsRest", "(I)Z"⟩, 41) := ⟨⟨by decide +kernel, by decide +kernel⟩, List.mem_of_getElem? (i := 823) (by decide +kernel), List.mem_of_getElem? (i := 1003) (by decide +kernel), List.mem_of_getElem? (i := 1004) (by decide +kernel)⟩
theorem lw_p7 : lw_okq (⟨"MixedRulesModel", "number", "(IIIII)Z"⟩, 41) := ⟨⟨by decide +kernel, by decide +kernel⟩, List.mem_of_getElem? (i := 823) (by decide +kernel), List.mem_of_getElem? (i := 1007) (by decide +kernel), List.mem_of_getElem? (i := 1008) (by decide +kernel)⟩
theorem lw_p8 : lw_okq (⟨"MixedRulesModel", "node", "(III)Z"⟩, 41) := ⟨⟨by decide +kernel, by decide +kernel⟩, List.mem_of_getElem? (i := 823) (by decide +kernel), List.mem_of_getElem? (i := 1011) (by decide +kernel), List.mem_of_getElem? (i := 1012) (by decide +kernel)⟩
theorem lw_p9 : lw_okq (⟨"MixedRulesModel", "does", "(I)V"⟩, 41) := ⟨⟨by decide +kernel, by decide +kernel⟩, List.mem_of_getElem? (i := 823) (by decide +kernel), List.mem_of_getElem? (i := 1015) (by decide +kernel), List.mem_of_getElem? (i := 1016) (by decide +kernel)⟩
theorem lw_p10 : lw_okq (⟨"MixedRulesModel", "isNode", "(I)Z"⟩, 41) := ⟨⟨by decide +kernel, by decide +kernel⟩, List.mem_of_getElem? (i := 823) (by decide +kernel), List.mem_of_getElem? (i := 1027) (by decide +kernel), List.mem_of_getElem? (i := 1028) (by decide +kernel)⟩
theorem lw_p11 : lw_okq (⟨"MixedRulesModel", "asTurned", "()V"⟩, 41) := ⟨⟨by decide +kernel, by decide +kernel⟩, List.mem_of_getElem? (i := 823) (by decide +kernel), List.mem_of_getElem? (i := 1035) (by decide +kernel), List.mem_of_getElem? (i := 1036) (by decide +kernel)⟩
theorem lw_p12 : lw_okq (⟨"MixedRulesModel", "needsOf", "(II)V"⟩, 41) := ⟨⟨by decide +kernel, by decide +kernel⟩, List.mem_of_getElem? (i := 823) (by decide +kernel), List.mem_of_getElem? (i := 1039) (by decide +kernel), List.mem_of_getElem? (i := 1040) (by decide +kernel)⟩
theorem lw_p13 : lw_okq (⟨"MixedRulesModel", "walks", "(II)V"⟩, 41) := ⟨⟨by decide +kernel, by decide +kernel⟩, List.mem_of_getElem? (i := 823) (by decide +kernel), List.mem_of_getElem? (i := 1043) (by decide +kernel), List.mem_of_getElem? (i := 1044) (by decide +kernel)⟩
theorem lw_p14 : lw_okq (⟨"MixedRulesModel", "ruleBy", "(III)I"⟩, 41) := ⟨⟨by decide +kernel, by decide +kernel⟩, List.mem_of_getElem? (i := 823) (by decide +kernel), List.mem_of_getElem? (i := 1047) (by decide +kernel), List.mem_of_getElem? (i := 1048) (by decide +kernel)⟩
theorem lw_p15 : lw_okq (⟨"MixedRulesModel", "movers", "(I)I"⟩, 41) := ⟨⟨by decide +kernel, by decide +kernel⟩, List.mem_of_getElem? (i := 823) (by decide +kernel), List.mem_of_getElem? (i := 1062) (by decide +kernel), List.mem_of_getElem? (i := 1063) (by decide +kernel)⟩
def lw_privs_1 : List (MethodName × Nat) := [(⟨"MixedRulesModel", "begins", "(I)V"⟩, 41), (⟨"MixedRulesModel", "flows", "(IIII)V"⟩, 41), (⟨"MixedRulesModel", "reads", "(Z)Z"⟩, 41), (⟨"MixedRulesModel", "nextToken", "()V"⟩, 41), (⟨"MixedRulesModel", "readsClause", "()Z"⟩, 41), (⟨"MixedRulesModel", "wordHere", "()I"⟩, 41), (⟨"MixedRulesModel", "readsRest", "(I)Z"⟩, 41), (⟨"MixedRulesModel", "number", "(IIIII)Z"⟩, 41), (⟨"MixedRulesModel", "node", "(III)Z"⟩, 41), (⟨"MixedRulesModel", "does", "(I)V"⟩, 41), (⟨"MixedRulesModel", "isNode", "(I)Z"⟩, 41), (⟨"MixedRulesModel", "asTurned", "()V"⟩, 41), (⟨"MixedRulesModel", "needsOf", "(II)V"⟩, 41), (⟨"MixedRulesModel", "walks", "(II)V"⟩, 41), (⟨"MixedRulesModel", "ruleBy", "(III)I"⟩, 41), (⟨"MixedRulesModel", "movers", "(I)I"⟩, 41)]
theorem lw_r1 : ∀ q ∈ lw_privs_1, lw_okq q := List.forall_mem_cons.mpr ⟨lw_p0, List.forall_mem_cons.mpr ⟨lw_p1, List.forall_mem_cons.mpr ⟨lw_p2, List.forall_mem_cons.mpr ⟨lw_p3, List.forall_mem_cons.mpr ⟨lw_p4, List.forall_mem_cons.mpr ⟨lw_p5, List.forall_mem_cons.mpr ⟨lw_p6, List.forall_mem_cons.mpr ⟨lw_p7, List.forall_mem_cons.mpr ⟨lw_p8, List.forall_mem_cons.mpr ⟨lw_p9, List.forall_mem_cons.mpr ⟨lw_p10, List.forall_mem_cons.mpr ⟨lw_p11, List.forall_mem_cons.mpr ⟨lw_p12, List.forall_mem_cons.mpr ⟨lw_p13, List.forall_mem_cons.mpr ⟨lw_p14, List.forall_mem_cons.mpr ⟨lw_p15, fun _ h => absurd h List.not_mem_nil⟩⟩⟩⟩⟩⟩⟩⟩⟩⟩⟩⟩⟩⟩⟩⟩
theorem lw_p16 : lw_okq (⟨"MixedRulesModel", "tableWith", "(II)I"⟩, 41) := ⟨⟨by decide +kernel, by decide +kernel⟩, List.mem_of_getElem? (i := 823) (by decide +kernel), List.mem_of_getElem? (i := 1074) (by decide +kernel), List.mem_of_getElem? (i := 1075) (by decide +kernel)⟩
theorem lw_p17 : lw_okq (⟨"MixedRulesModel", "isRound", "(II)Z"⟩, 41) := ⟨⟨by decide +kernel, by decide +kernel⟩, List.mem_of_getElem? (i := 823) (by decide +kernel), List.mem_of_getElem? (i := 1097) (by decide +kernel), List.mem_of_getElem? (i := 1098) (by decide +kernel)⟩
theorem lw_p18 : lw_okq (⟨"MixedRulesModel", "isStale", "(I)Z"⟩, 41) := ⟨⟨by decide +kernel, by decide +kernel⟩, List.mem_of_getElem? (i := 823) (by decide +kernel), List.mem_of_getElem? (i := 1101) (by decide +kernel), List.mem_of_getElem? (i := 1102) (by decide +kernel)⟩
theorem lw_p19 : lw_okq (⟨"MixedRulesModel", "leastUnsound", "(II)I"⟩, 41) := ⟨⟨by decide +kernel, by decide +kernel⟩, List.mem_of_getElem? (i := 823) (by decide +kernel), List.mem_of_getElem? (i := 1105) (by decide +kernel), List.mem_of_getElem? (i := 1106) (by decide +kernel)⟩
theorem lw_p20 : lw_okq (⟨"MixedRulesModel", "isSound", "(II)Z"⟩, 41) := ⟨⟨by decide +kernel, by decide +kernel⟩, List.mem_of_getElem? (i := 823) (by decide +kernel), List.mem_of_getElem? (i := 1109) (by decide +kernel), List.mem_of_getElem? (i := 1110) (by decide +kernel)⟩
theorem lw_p21 : lw_okq (⟨"MixedRulesModel", "holds", "(II)I"⟩, 41) := ⟨⟨by decide +kernel, by decide +kernel⟩, List.mem_of_getElem? (i := 823) (by decide +kernel), List.mem_of_getElem? (i := 1113) (by decide +kernel), List.mem_of_getElem? (i := 1114) (by decide +kernel)⟩
theorem lw_p22 : lw_okq (⟨"MixedRulesModel", "isRing", "(II)Z"⟩, 41) := ⟨⟨by decide +kernel, by decide +kernel⟩, List.mem_of_getElem? (i := 823) (by decide +kernel), List.mem_of_getElem? (i := 1117) (by decide +kernel), List.mem_of_getElem? (i := 1118) (by decide +kernel)⟩
theorem lw_p23 : lw_okq (⟨"MixedRulesModel", "isRoom", "(I)Z"⟩, 41) := ⟨⟨by decide +kernel, by decide +kernel⟩, List.mem_of_getElem? (i := 823) (by decide +kernel), List.mem_of_getElem? (i := 1121) (by decide +kernel), List.mem_of_getElem? (i := 1122) (by decide +kernel)⟩
theorem lw_p24 : lw_okq (⟨"MixedRulesModel", "turns", "(II)V"⟩, 41) := ⟨⟨by decide +kernel, by decide +kernel⟩, List.mem_of_getElem? (i := 823) (by decide +kernel), List.mem_of_getElem? (i := 1125) (by decide +kernel), List.mem_of_getElem? (i := 1126) (by decide +kernel)⟩
theorem lw_p25 : lw_okq (⟨"MixedRulesModel", "plansNow", "(I)V"⟩, 41) := ⟨⟨by decide +kernel, by decide +kernel⟩, List.mem_of_getElem? (i := 823) (by decide +kernel), List.mem_of_getElem? (i := 1137) (by decide +kernel), List.mem_of_getElem? (i := 1138) (by decide +kernel)⟩
theorem lw_p26 : lw_okq (⟨"MixedRulesModel", "plans", "(I)V"⟩, 41) := ⟨⟨by decide +kernel, by decide +kernel⟩, List.mem_of_getElem? (i := 823) (by decide +kernel), List.mem_of_getElem? (i := 1141) (by decide +kernel), List.mem_of_getElem? (i := 1142) (by decide +kernel)⟩
theorem lw_p27 : lw_okq (⟨"MixedRulesModel", "firstOf", "(III)I"⟩, 41) := ⟨⟨by decide +kernel, by decide +kernel⟩, List.mem_of_getElem? (i := 823) (by decide +kernel), List.mem_of_getElem? (i := 1145) (by decide +kernel), List.mem_of_getElem? (i := 1146) (by decide +kernel)⟩
theorem lw_p28 : lw_okq (⟨"MixedRulesModel", "isSafe", "(II)Z"⟩, 41) := ⟨⟨by decide +kernel, by decide +kernel⟩, List.mem_of_getElem? (i := 823) (by decide +kernel), List.mem_of_getElem? (i := 1149) (by decide +kernel), List.mem_of_getElem? (i := 1150) (by decide +kernel)⟩
theorem lw_p29 : lw_okq (⟨"MixedRulesModel", "greatestTable", "(I)I"⟩, 41) := ⟨⟨by decide +kernel, by decide +kernel⟩, List.mem_of_getElem? (i := 823) (by decide +kernel), List.mem_of_getElem? (i := 1161) (by decide +kernel), List.mem_of_getElem? (i := 1162) (by decide +kernel)⟩
theorem lw_p30 : lw_okq (⟨"MixedRulesModel", "lettersOf", "(II)I"⟩, 41) := ⟨⟨by decide +kernel, by decide +kernel⟩, List.mem_of_getElem? (i := 823) (by decide +kernel), List.mem_of_getElem? (i := 1169) (by decide +kernel), List.mem_of_getElem? (i := 1170) (by decide +kernel)⟩
theorem lw_p31 : lw_okq (⟨"MixedRulesModel", "hops", "(I)Z"⟩, 41) := ⟨⟨by decide +kernel, by decide +kernel⟩, List.mem_of_getElem? (i := 823) (by decide +kernel), List.mem_of_getElem? (i := 1189) (by decide +kernel), List.mem_of_getElem? (i := 1190) (by decide +kernel)⟩
def lw_privs_2 : List (MethodName × Nat) := [(⟨"MixedRulesModel", "tableWith", "(II)I"⟩, 41), (⟨"MixedRulesModel", "isRound", "(II)Z"⟩, 41), (⟨"MixedRulesModel", "isStale", "(I)Z"⟩, 41), (⟨"MixedRulesModel", "leastUnsound", "(II)I"⟩, 41), (⟨"MixedRulesModel", "isSound", "(II)Z"⟩, 41), (⟨"MixedRulesModel", "holds", "(II)I"⟩, 41), (⟨"MixedRulesModel", "isRing", "(II)Z"⟩, 41), (⟨"MixedRulesModel", "isRoom", "(I)Z"⟩, 41), (⟨"MixedRulesModel", "turns", "(II)V"⟩, 41), (⟨"MixedRulesModel", "plansNow", "(I)V"⟩, 41), (⟨"MixedRulesModel", "plans", "(I)V"⟩, 41), (⟨"MixedRulesModel", "firstOf", "(III)I"⟩, 41), (⟨"MixedRulesModel", "isSafe", "(II)Z"⟩, 41), (⟨"MixedRulesModel", "greatestTable", "(I)I"⟩, 41), (⟨"MixedRulesModel", "lettersOf", "(II)I"⟩, 41), (⟨"MixedRulesModel", "hops", "(I)Z"⟩, 41)]
theorem lw_r2 : ∀ q ∈ lw_privs_2, lw_okq q := List.forall_mem_cons.mpr ⟨lw_p16, List.forall_mem_cons.mpr ⟨lw_p17, List.forall_mem_cons.mpr ⟨lw_p18, List.forall_mem_cons.mpr ⟨lw_p19, List.forall_mem_cons.mpr ⟨lw_p20, List.forall_mem_cons.mpr ⟨lw_p21, List.forall_mem_cons.mpr ⟨lw_p22, List.forall_mem_cons.mpr ⟨lw_p23, List.forall_mem_cons.mpr ⟨lw_p24, List.forall_mem_cons.mpr ⟨lw_p25, List.forall_mem_cons.mpr ⟨lw_p26, List.forall_mem_cons.mpr ⟨lw_p27, List.forall_mem_cons.mpr ⟨lw_p28, List.forall_mem_cons.mpr ⟨lw_p29, List.forall_mem_cons.mpr ⟨lw_p30, List.forall_mem_cons.mpr ⟨lw_p31, fun _ h => absurd h List.not_mem_nil⟩⟩⟩⟩⟩⟩⟩⟩⟩⟩⟩⟩⟩⟩⟩⟩
theorem lw_p32 : lw_okq (⟨"MixedRulesModel", "isOfMovers", "(II)Z"⟩, 41) := ⟨⟨by decide +kernel, by decide +kernel⟩, List.mem_of_getElem? (i := 823) (by decide +kernel), List.mem_of_getElem? (i := 1197) (by decide +kernel), List.mem_of_getElem? (i := 1198) (by decide +kernel)⟩
theorem lw_p33 : lw_okq (⟨"MixedRulesModel", "canGo", "(II)Z"⟩, 41) := ⟨⟨by decide +kernel, by decide +kernel⟩, List.mem_of_getElem? (i := 823) (by decide +kernel), List.mem_of_getElem? (i := 1221) (by decide +kernel), List.mem_of_getElem? (i := 1222) (by decide +kernel)⟩
theorem lw_p34 : lw_okq (⟨"MixedRulesModel", "links", "()I"⟩, 41) := ⟨⟨by decide +kernel, by decide +kernel⟩, List.mem_of_getElem? (i := 823) (by decide +kernel), List.mem_of_getElem? (i := 1237) (by decide +kernel), List.mem_of_getElem? (i := 1238) (by decide +kernel)⟩
def lw_privs_3 : List (MethodName × Nat) := [(⟨"MixedRulesModel", "isOfMovers", "(II)Z"⟩, 41), (⟨"MixedRulesModel", "canGo", "(II)Z"⟩, 41), (⟨"MixedRulesModel", "links", "()I"⟩, 41)]
theorem lw_r3 : ∀ q ∈ lw_privs_3, lw_okq q := List.forall_mem_cons.mpr ⟨lw_p32, List.forall_mem_cons.mpr ⟨lw_p33, List.forall_mem_cons.mpr ⟨lw_p34, fun _ h => absurd h List.not_mem_nil⟩⟩⟩
def lw_privs : List (MethodName × Nat) := lw_privs_1 ++ (lw_privs_2 ++ (lw_privs_3))
def lw_tbl : List Cond := k2_sels lw_privs ++ tables_1
theorem lw_privs_ok : ∀ q ∈ lw_privs, lw_okq q := by
  show ∀ q ∈ lw_privs_1 ++ (lw_privs_2 ++ (lw_privs_3)), lw_okq q
  exact List.forall_mem_append.mpr ⟨lw_r1, List.forall_mem_append.mpr ⟨lw_r2, lw_r3⟩⟩

def RX0 : String := "MixedRules$Flow"
def TX0 : u_T := fun k => match k with
  | 0 => ("MixedRules$Flow", "source", "I", false)
  | 1 => ("MixedRules$Flow", "goal", "I", false)
  | 2 => ("MixedRules$Flow", "size", "I", false)
  | 3 => ("MixedRules$Flow", "post", "I", false)
  | 4 => ("MixedRules$Flow", "oldRules", "[I", true)
  | 5 => ("MixedRules$Flow", "newRules", "[I", true)
  | 6 => ("MixedRules$Flow", "turned", "I", false)
  | 7 => ("MixedRules$Flow", "phase", "I", false)
  | 8 => ("MixedRules$Flow", "rounds", "[I", true)
  | 9 => ("MixedRules$Flow", "roundCount", "I", false)
  | _ => ("MixedRules$Flow", "roundsDone", "I", false)
def tyX0 : Nat → FieldType := fun k => match k with
  | 0 => .int
  | 1 => .int
  | 2 => .int
  | 3 => .int
  | 4 => .array .int
  | 5 => .array .int
  | 6 => .int
  | 7 => .int
  | 8 => .array .int
  | 9 => .int
  | _ => .int

theorem nmX0 : ∀ a, a < 11 → ∀ b, b < 11 → a ≠ b → (TX0 a).2.1 ≠ (TX0 b).2.1 := by decide +kernel
theorem tyX0_ok : ∀ k, k < 11 → parseFieldDescriptor (TX0 k).2.2.1 = some (tyX0 k) := by decide +kernel

def RX1 : String := "MixedRules$Judge"
def TX1 : u_T := fun k => match k with
  | 0 => ("MixedRules$Judge", "net", "LMixedRules$Net;", true)
  | 1 => ("MixedRules$Judge", "path", "LMixedRules$Path;", true)
  | _ => ("MixedRules$Judge", "weight", "[I", true)
def tyX1 : Nat → FieldType := fun k => match k with
  | 0 => .object "MixedRules$Net"
  | 1 => .object "MixedRules$Path"
  | _ => .array .int

theorem nmX1 : ∀ a, a < 3 → ∀ b, b < 3 → a ≠ b → (TX1 a).2.1 ≠ (TX1 b).2.1 := by decide +kernel
theorem tyX1_ok : ∀ k, k < 3 → parseFieldDescriptor (TX1 k).2.2.1 = some (tyX1 k) := by decide +kernel

def RX2 : String := "MixedRules$Letter"
def TX2 : u_T := fun k => match k with
  | 0 => ("MixedRules$Letter", "flow", "I", false)
  | 1 => ("MixedRules$Letter", "node", "I", false)
  | 2 => ("MixedRules$Letter", "hops", "I", false)
  | 3 => ("MixedRules$Letter", "met", "I", false)
  | 4 => ("MixedRules$Letter", "roundsThen", "I", false)
  | 5 => ("MixedRules$Letter", "stamped", "Z", false)
  | 6 => ("MixedRules$Letter", "wentByOld", "Z", false)
  | _ => ("MixedRules$Letter", "wentByNew", "Z", false)
def tyX2 : Nat → FieldType := fun k => match k with
  | 0 => .int
  | 1 => .int
  | 2 => .int
  | 3 => .int
  | 4 => .int
  | 5 => .boolean
  | 6 => .boolean
  | _ => .boolean

theorem nmX2 : ∀ a, a < 8 → ∀ b, b < 8 → a ≠ b → (TX2 a).2.1 ≠ (TX2 b).2.1 := by decide +kernel
theorem tyX2_ok : ∀ k, k < 8 → parseFieldDescriptor (TX2 k).2.2.1 = some (tyX2 k) := by decide +kernel

def RX3 : String := "MixedRules$Mail"
def TX3 : u_T := fun k => match k with
  | 0 => ("MixedRules$Mail", "net", "LMixedRules$Net;", true)
  | 1 => ("MixedRules$Mail", "letters", "[LMixedRules$Letter;", true)
  | 2 => ("MixedRules$Mail", "underWay", "I", false)
  | 3 => ("MixedRules$Mail", "there", "I", false)
  | 4 => ("MixedRules$Mail", "thereUnposted", "I", false)
  | 5 => ("MixedRules$Mail", "thereMixed", "I", false)
  | _ => ("MixedRules$Mail", "lost", "I", false)
def tyX3 : Nat → FieldType := fun k => match k with
  | 0 => .object "MixedRules$Net"
  | 1 => .array (.object "MixedRules$Letter")
  | 2 => .int
  | 3 => .int
  | 4 => .int
  | 5 => .int
  | _ => .int

theorem nmX3 : ∀ a, a < 7 → ∀ b, b < 7 → a ≠ b → (TX3 a).2.1 ≠ (TX3 b).2.1 := by decide +kernel
theorem tyX3_ok : ∀ k, k < 7 → parseFieldDescriptor (TX3 k).2.2.1 = some (tyX3 k) := by decide +kernel

def RX4 : String := "MixedRules$Net"
def TX4 : u_T := fun k => match k with
  | 0 => ("MixedRules$Net", "nodes", "I", false)
  | 1 => ("MixedRules$Net", "wanted", "I", false)
  | 2 => ("MixedRules$Net", "slotCount", "I", false)
  | 3 => ("MixedRules$Net", "room", "[I", true)
  | _ => ("MixedRules$Net", "flows", "[LMixedRules$Flow;", true)
def tyX4 : Nat → FieldType := fun k => match k with
  | 0 => .int
  | 1 => .int
  | 2 => .int
  | 3 => .array .int
  | _ => .array (.object "MixedRules$Flow")

theorem nmX4 : ∀ a, a < 5 → ∀ b, b < 5 → a ≠ b → (TX4 a).2.1 ≠ (TX4 b).2.1 := by decide +kernel
theorem tyX4_ok : ∀ k, k < 5 → parseFieldDescriptor (TX4 k).2.2.1 = some (tyX4 k) := by decide +kernel

def RX5 : String := "MixedRules$Path"
def TX5 : u_T := fun k => match k with
  | 0 => ("MixedRules$Path", "met", "I", false)
  | 1 => ("MixedRules$Path", "end", "I", false)
  | 2 => ("MixedRules$Path", "arrives", "Z", false)
  | _ => ("MixedRules$Path", "next", "[I", true)
def tyX5 : Nat → FieldType := fun k => match k with
  | 0 => .int
  | 1 => .int
  | 2 => .boolean
  | _ => .array .int

theorem nmX5 : ∀ a, a < 4 → ∀ b, b < 4 → a ≠ b → (TX5 a).2.1 ≠ (TX5 b).2.1 := by decide +kernel
theorem tyX5_ok : ∀ k, k < 4 → parseFieldDescriptor (TX5 k).2.2.1 = some (tyX5 k) := by decide +kernel

def RX6 : String := "MixedRules$Planner"
def TX6 : u_T := fun k => match k with
  | 0 => ("MixedRules$Planner", "net", "LMixedRules$Net;", true)
  | 1 => ("MixedRules$Planner", "judge", "LMixedRules$Judge;", true)
  | 2 => ("MixedRules$Planner", "turned", "I", false)
  | 3 => ("MixedRules$Planner", "movers", "I", false)
  | 4 => ("MixedRules$Planner", "isSound", "[Z", true)
  | 5 => ("MixedRules$Planner", "fewest", "[I", true)
  | 6 => ("MixedRules$Planner", "first", "[I", true)
  | _ => ("MixedRules$Planner", "isSafe", "[Z", true)
def tyX6 : Nat → FieldType := fun k => match k with
  | 0 => .object "MixedRules$Net"
  | 1 => .object "MixedRules$Judge"
  | 2 => .int
  | 3 => .int
  | 4 => .array .boolean
  | 5 => .array .int
  | 6 => .array .int
  | _ => .array .boolean

theorem nmX6 : ∀ a, a < 8 → ∀ b, b < 8 → a ≠ b → (TX6 a).2.1 ≠ (TX6 b).2.1 := by decide +kernel
theorem tyX6_ok : ∀ k, k < 8 → parseFieldDescriptor (TX6 k).2.2.1 = some (tyX6 k) := by decide +kernel

def RX7 : String := "MixedRules$Reader"
def TX7 : u_T := fun k => match k with
  | 0 => ("MixedRules$Reader", "net", "LMixedRules$Net;", true)
  | 1 => ("MixedRules$Reader", "letters", "[I", true)
  | 2 => ("MixedRules$Reader", "length", "I", false)
  | 3 => ("MixedRules$Reader", "tokenKind", "I", false)
  | 4 => ("MixedRules$Reader", "tokenStart", "I", false)
  | 5 => ("MixedRules$Reader", "tokenEnd", "I", false)
  | 6 => ("MixedRules$Reader", "clauses", "[I", true)
  | 7 => ("MixedRules$Reader", "clauseCount", "I", false)
  | 8 => ("MixedRules$Reader", "nodes", "I", false)
  | 9 => ("MixedRules$Reader", "sources", "[I", true)
  | _ => ("MixedRules$Reader", "goals", "[I", true)
def tyX7 : Nat → FieldType := fun k => match k with
  | 0 => .object "MixedRules$Net"
  | 1 => .array .int
  | 2 => .int
  | 3 => .int
  | 4 => .int
  | 5 => .int
  | 6 => .array .int
  | 7 => .int
  | 8 => .int
  | 9 => .array .int
  | _ => .array .int

theorem nmX7 : ∀ a, a < 11 → ∀ b, b < 11 → a ≠ b → (TX7 a).2.1 ≠ (TX7 b).2.1 := by decide +kernel
theorem tyX7_ok : ∀ k, k < 11 → parseFieldDescriptor (TX7 k).2.2.1 = some (tyX7 k) := by decide +kernel

def RX8 : String := "MixedRules"
def TX8 : u_T := fun k => match k with
  | 0 => ("MixedRules", "net", "LMixedRules$Net;", true)
  | 1 => ("MixedRules", "judge", "LMixedRules$Judge;", true)
  | 2 => ("MixedRules", "planner", "LMixedRules$Planner;", true)
  | 3 => ("MixedRules", "mail", "LMixedRules$Mail;", true)
  | _ => ("MixedRules", "reader", "LMixedRules$Reader;", true)
def tyX8 : Nat → FieldType := fun k => match k with
  | 0 => .object "MixedRules$Net"
  | 1 => .object "MixedRules$Judge"
  | 2 => .object "MixedRules$Planner"
  | 3 => .object "MixedRules$Mail"
  | _ => .object "MixedRules$Reader"

theorem nmX8 : ∀ a, a < 5 → ∀ b, b < 5 → a ≠ b → (TX8 a).2.1 ≠ (TX8 b).2.1 := by decide +kernel
theorem tyX8_ok : ∀ k, k < 5 → parseFieldDescriptor (TX8 k).2.2.1 = some (tyX8 k) := by decide +kernel

def RX9 : String := "MixedRulesModel"
def TX9 : u_T := fun k => match k with
  | 0 => ("MixedRulesModel", "nodes", "I", false)
  | 1 => ("MixedRulesModel", "rooms", "[I", true)
  | 2 => ("MixedRulesModel", "sources", "[I", true)
  | 3 => ("MixedRulesModel", "goals", "[I", true)
  | 4 => ("MixedRulesModel", "sizes", "[I", true)
  | 5 => ("MixedRulesModel", "posts", "[I", true)
  | 6 => ("MixedRulesModel", "olds", "[I", true)
  | 7 => ("MixedRulesModel", "news", "[I", true)
  | 8 => ("MixedRulesModel", "wanted", "I", false)
  | 9 => ("MixedRulesModel", "slots", "I", false)
  | 10 => ("MixedRulesModel", "turned", "[I", true)
  | 11 => ("MixedRulesModel", "phases", "[I", true)
  | 12 => ("MixedRulesModel", "rounds", "[I", true)
  | 13 => ("MixedRulesModel", "roundsMany", "[I", true)
  | 14 => ("MixedRulesModel", "done", "[I", true)
  | 15 => ("MixedRulesModel", "letters", "[I", true)
  | 16 => ("MixedRulesModel", "lettersMany", "I", false)
  | 17 => ("MixedRulesModel", "there", "I", false)
  | 18 => ("MixedRulesModel", "without", "I", false)
  | 19 => ("MixedRulesModel", "mixed", "I", false)
  | 20 => ("MixedRulesModel", "lost", "I", false)
  | 21 => ("MixedRulesModel", "text", "[I", true)
  | 22 => ("MixedRulesModel", "length", "I", false)
  | 23 => ("MixedRulesModel", "first", "I", false)
  | 24 => ("MixedRulesModel", "behind", "I", false)
  | 25 => ("MixedRulesModel", "told", "I", false)
  | 26 => ("MixedRulesModel", "toldSources", "[I", true)
  | 27 => ("MixedRulesModel", "toldGoals", "[I", true)
  | 28 => ("MixedRulesModel", "clauses", "I", false)
  | 29 => ("MixedRulesModel", "doing", "Z", false)
  | 30 => ("MixedRulesModel", "numbers", "[I", true)
  | 31 => ("MixedRulesModel", "words", "[I", true)
  | 32 => ("MixedRulesModel", "way", "[I", true)
  | 33 => ("MixedRulesModel", "wayMany", "I", false)
  | 34 => ("MixedRulesModel", "met", "I", false)
  | 35 => ("MixedRulesModel", "arrives", "Z", false)
  | 36 => ("MixedRulesModel", "sets", "[I", true)
  | 37 => ("MixedRulesModel", "needs", "[I", true)
  | 38 => ("MixedRulesModel", "sounds", "[Z", true)
  | 39 => ("MixedRulesModel", "far", "[I", true)
  | _ => ("MixedRulesModel", "firsts", "[I", true)
def tyX9 : Nat → FieldType := fun k => match k with
  | 0 => .int
  | 1 => .array .int
  | 2 => .array .int
  | 3 => .array .int
  | 4 => .array .int
  | 5 => .array .int
  | 6 => .array .int
  | 7 => .array .int
  | 8 => .int
  | 9 => .int
  | 10 => .array .int
  | 11 => .array .int
  | 12 => .array .int
  | 13 => .array .int
  | 14 => .array .int
  | 15 => .array .int
  | 16 => .int
  | 17 => .int
  | 18 => .int
  | 19 => .int
  | 20 => .int
  | 21 => .array .int
  | 22 => .int
  | 23 => .int
  | 24 => .int
  | 25 => .int
  | 26 => .array .int
  | 27 => .array .int
  | 28 => .int
  | 29 => .boolean
  | 30 => .array .int
  | 31 => .array .int
  | 32 => .array .int
  | 33 => .int
  | 34 => .int
  | 35 => .boolean
  | 36 => .array .int
  | 37 => .array .int
  | 38 => .array .boolean
  | 39 => .array .int
  | _ => .array .int

theorem nmX9 : ∀ a, a < 41 → ∀ b, b < 41 → a ≠ b → (TX9 a).2.1 ≠ (TX9 b).2.1 := by decide +kernel
theorem tyX9_ok : ∀ k, k < 41 → parseFieldDescriptor (TX9 k).2.2.1 = some (tyX9 k) := by decide +kernel
end
section
/-! the program as data: every method's instructions by place, what its pool indices name; written by wip/whole/gen.py -/
def am_cn (k : Nat) : String := match k with
  | 0 => "MixedRules$Flow"
  | 1 => "MixedRules$Judge"
  | 2 => "MixedRules$Letter"
  | 3 => "MixedRules$Mail"
  | 4 => "MixedRules$Net"
  | 5 => "MixedRules$Path"
  | 6 => "MixedRules$Planner"
  | 7 => "MixedRules$Reader"
  | 8 => "MixedRules"
  | 9 => "MixedRulesModel"
  | 10 => "java/lang/Integer"
  | 11 => "java/lang/Math"
  | 12 => "java/lang/String"
  | 13 => "java/lang/StringLatin1"
  | 14 => "MixedRulesLaw"
  | 15 => "jdk/internal/util/Preconditions"
  | _ => ""
abbrev mI_Fl_init : Nat := 0
abbrev mI_Fl_lay : Nat := 1
abbrev mI_Fl_calm : Nat := 2
abbrev mI_Fl_setOld : Nat := 3
abbrev mI_Fl_setNew : Nat := 4
abbrev mI_Fl_oldAt : Nat := 5
abbrev mI_Fl_newAt : Nat := 6
abbrev mI_Fl_ruleAt : Nat := 7
abbrev mI_Fl_isMover : Nat := 8
abbrev mI_Fl_movers : Nat := 9
abbrev mI_Fl_areMovers : Nat := 10
abbrev mI_Fl_isRound : Nat := 11
abbrev mI_Fl_turnRound : Nat := 12
abbrev mI_Fl_takeBack : Nat := 13
abbrev mI_Ju_init : Nat := 14
abbrev mI_Ju_weigh : Nat := 15
abbrev mI_Ju_addPath : Nat := 16
abbrev mI_Ju_weightAt : Nat := 17
abbrev mI_Ju_whatHolds : Nat := 18
abbrev mI_Ju_isRingless : Nat := 19
abbrev mI_Ju_pathHasRoom : Nat := 20
abbrev mI_Ju_firstUnsound : Nat := 21
abbrev mI_Ju_firstMissing : Nat := 22
abbrev mI_Le_init : Nat := 23
abbrev mI_Le_isMixed : Nat := 24
abbrev mI_Ma_init : Nat := 25
abbrev mI_Ma_forgetAll : Nat := 26
abbrev mI_Ma_letterAt : Nat := 27
abbrev mI_Ma_post : Nat := 28
abbrev mI_Ma_staleness : Nat := 29
abbrev mI_Ma_hasStale : Nat := 30
abbrev mI_Ma_countOf : Nat := 31
abbrev mI_Ma_hopAll : Nat := 32
abbrev mI_Ma_hop : Nat := 33
abbrev mI_Ma_noteArrival : Nat := 34
abbrev mI_Ne_init : Nat := 35
abbrev mI_Ne_startAnew : Nat := 36
abbrev mI_Ne_calmFlows : Nat := 37
abbrev mI_Ne_isNode : Nat := 38
abbrev mI_Ne_flowAt : Nat := 39
abbrev mI_Ne_roomAt : Nat := 40
abbrev mI_Ne_setRoom : Nat := 41
abbrev mI_Ne_linkCount : Nat := 42
abbrev mI_Ne_tableAt : Nat := 43
abbrev mI_Ne_greatestTable : Nat := 44
abbrev mI_Pa_init : Nat := 45
abbrev mI_Pa_follow : Nat := 46
abbrev mI_Pl_init : Nat := 47
abbrev mI_Pl_findPlan : Nat := 48
abbrev mI_Pl_settle : Nat := 49
abbrev mI_Pl_chooseFirstRound : Nat := 50
abbrev mI_Pl_arePartsSafe : Nat := 51
abbrev mI_Pl_fewestFrom : Nat := 52
abbrev mI_Pl_roundCount : Nat := 53
abbrev mI_Pl_roundAt : Nat := 54
abbrev mI_Pl_firstFrom : Nat := 55
abbrev mI_Re_init : Nat := 56
abbrev mI_Re_append : Nat := 57
abbrev mI_Re_findFault : Nat := 58
abbrev mI_Re_foreseeNet : Nat := 59
abbrev mI_Re_letterAt : Nat := 60
abbrev mI_Re_nextToken : Nat := 61
abbrev mI_Re_kindOf : Nat := 62
abbrev mI_Re_isSemicolon : Nat := 63
abbrev mI_Re_readClause : Nat := 64
abbrev mI_Re_clauseKind : Nat := 65
abbrev mI_Re_tokenIs : Nat := 66
abbrev mI_Re_wordOf : Nat := 67
abbrev mI_Re_numbersOf : Nat := 68
abbrev mI_Re_clauseAt : Nat := 69
abbrev mI_Re_sourceOf : Nat := 70
abbrev mI_Re_goalOf : Nat := 71
abbrev mI_Re_numberFits : Nat := 72
abbrev mI_Re_foresee : Nat := 73
abbrev mI_Re_doClauses : Nat := 74
abbrev mI_Re_doClause : Nat := 75
abbrev mI_Mx_init : Nat := 76
abbrev mI_Mx_write : Nat := 77
abbrev mI_Mx_erase : Nat := 78
abbrev mI_Mx_fault : Nat := 79
abbrev mI_Mx_rules : Nat := 80
abbrev mI_Mx_room : Nat := 81
abbrev mI_Mx_load : Nat := 82
abbrev mI_Mx_flow : Nat := 83
abbrev mI_Mx_rule : Nat := 84
abbrev mI_Mx_table : Nat := 85
abbrev mI_Mx_link : Nat := 86
abbrev mI_Mx_want : Nat := 87
abbrev mI_Mx_slots : Nat := 88
abbrev mI_Mx_turn : Nat := 89
abbrev mI_Mx_force : Nat := 90
abbrev mI_Mx_advance : Nat := 91
abbrev mI_Mx_reverse : Nat := 92
abbrev mI_Mx_ready : Nat := 93
abbrev mI_Mx_flip : Nat := 94
abbrev mI_Mx_finish : Nat := 95
abbrev mI_Mx_cancel : Nat := 96
abbrev mI_Mx_send : Nat := 97
abbrev mI_Mx_tick : Nat := 98
abbrev mI_Mx_sound : Nat := 99
abbrev mI_Mx_walk : Nat := 100
abbrev mI_Mx_safe : Nat := 101
abbrev mI_Mx_plan : Nat := 102
abbrev mI_Mx_rounds : Nat := 103
abbrev mI_Mx_order : Nat := 104
abbrev mI_Mx_waits : Nat := 105
abbrev mI_Mx_letter : Nat := 106
abbrev mI_Mx_count : Nat := 107
abbrev mI_Mx_isPlace : Nat := 108
abbrev mI_Mo_init : Nat := 109
abbrev mI_Mo_in : Nat := 110
abbrev mI_Mo_has : Nat := 111
abbrev mI_Mo_isNode : Nat := 112
abbrev mI_Mo_isFlow : Nat := 113
abbrev mI_Mo_flows : Nat := 114
abbrev mI_Mo_begins : Nat := 115
abbrev mI_Mo_write : Nat := 116
abbrev mI_Mo_erase : Nat := 117
abbrev mI_Mo_isSmall : Nat := 118
abbrev mI_Mo_isDigit : Nat := 119
abbrev mI_Mo_nextToken : Nat := 120
abbrev mI_Mo_wordHere : Nat := 121
abbrev mI_Mo_number : Nat := 122
abbrev mI_Mo_node : Nat := 123
abbrev mI_Mo_readsRest : Nat := 124
abbrev mI_Mo_does : Nat := 125
abbrev mI_Mo_readsClause : Nat := 126
abbrev mI_Mo_reads : Nat := 127
abbrev mI_Mo_fault : Nat := 128
abbrev mI_Mo_rules : Nat := 129
abbrev mI_Mo_movers : Nat := 130
abbrev mI_Mo_ruleBy : Nat := 131
abbrev mI_Mo_walks : Nat := 132
abbrev mI_Mo_needsOf : Nat := 133
abbrev mI_Mo_asTurned : Nat := 134
abbrev mI_Mo_isRoom : Nat := 135
abbrev mI_Mo_isRing : Nat := 136
abbrev mI_Mo_holds : Nat := 137
abbrev mI_Mo_isSound : Nat := 138
abbrev mI_Mo_isSafe : Nat := 139
abbrev mI_Mo_firstOf : Nat := 140
abbrev mI_Mo_plans : Nat := 141
abbrev mI_Mo_plansNow : Nat := 142
abbrev mI_Mo_room : Nat := 143
abbrev mI_Mo_load : Nat := 144
abbrev mI_Mo_flow : Nat := 145
abbrev mI_Mo_rule : Nat := 146
abbrev mI_Mo_tableWith : Nat := 147
abbrev mI_Mo_table : Nat := 148
abbrev mI_Mo_greatestTable : Nat := 149
abbrev mI_Mo_link : Nat := 150
abbrev mI_Mo_want : Nat := 151
abbrev mI_Mo_slots : Nat := 152
abbrev mI_Mo_isRound : Nat := 153
abbrev mI_Mo_turns : Nat := 154
abbrev mI_Mo_isStale : Nat := 155
abbrev mI_Mo_lettersOf : Nat := 156
abbrev mI_Mo_turn : Nat := 157
abbrev mI_Mo_force : Nat := 158
abbrev mI_Mo_advance : Nat := 159
abbrev mI_Mo_reverse : Nat := 160
abbrev mI_Mo_ready : Nat := 161
abbrev mI_Mo_flip : Nat := 162
abbrev mI_Mo_finish : Nat := 163
abbrev mI_Mo_cancel : Nat := 164
abbrev mI_Mo_send : Nat := 165
abbrev mI_Mo_hops : Nat := 166
abbrev mI_Mo_tick : Nat := 167
abbrev mI_Mo_isOfMovers : Nat := 168
abbrev mI_Mo_sound : Nat := 169
abbrev mI_Mo_walk : Nat := 170
abbrev mI_Mo_leastUnsound : Nat := 171
abbrev mI_Mo_safe : Nat := 172
abbrev mI_Mo_plan : Nat := 173
abbrev mI_Mo_rounds : Nat := 174
abbrev mI_Mo_canGo : Nat := 175
abbrev mI_Mo_order : Nat := 176
abbrev mI_Mo_waits : Nat := 177
abbrev mI_Mo_letter : Nat := 178
abbrev mI_Mo_links : Nat := 179
abbrev mI_Mo_count : Nat := 180
abbrev mI_Jint_bitCount : Nat := 181
abbrev mI_Jmath_max : Nat := 182
abbrev mI_Jstr_length : Nat := 183
abbrev mI_Jstr_charAt : Nat := 184
abbrev mI_Jstr_coder : Nat := 185
abbrev mI_Jstr_isLatin1 : Nat := 186
abbrev mI_Jstr_checkIndex : Nat := 187
abbrev mI_Jlat_charAt : Nat := 188
abbrev mI_Jpre_checkIndex : Nat := 189
abbrev mI_Law_law : Nat := 190
def am_y (k : Nat) : MethodName := match k with
  | 0 => ⟨"MixedRules$Flow", "<init>", "()V"⟩
  | 1 => ⟨"MixedRules$Flow", "lay", "(III)V"⟩
  | 2 => ⟨"MixedRules$Flow", "calm", "()V"⟩
  | 3 => ⟨"MixedRules$Flow", "setOld", "(II)V"⟩
  | 4 => ⟨"MixedRules$Flow", "setNew", "(II)V"⟩
  | 5 => ⟨"MixedRules$Flow", "oldAt", "(I)I"⟩
  | 6 => ⟨"MixedRules$Flow", "newAt", "(I)I"⟩
  | 7 => ⟨"MixedRules$Flow", "ruleAt", "(II)I"⟩
  | 8 => ⟨"MixedRules$Flow", "isMover", "(I)Z"⟩
  | 9 => ⟨"MixedRules$Flow", "movers", "()I"⟩
  | 10 => ⟨"MixedRules$Flow", "areMovers", "(I)Z"⟩
  | 11 => ⟨"MixedRules$Flow", "isRound", "(I)Z"⟩
  | 12 => ⟨"MixedRules$Flow", "turnRound", "(I)V"⟩
  | 13 => ⟨"MixedRules$Flow", "takeBack", "()V"⟩
  | 14 => ⟨"MixedRules$Judge", "<init>", "(LMixedRules$Net;)V"⟩
  | 15 => ⟨"MixedRules$Judge", "weigh", "(II)V"⟩
  | 16 => ⟨"MixedRules$Judge", "addPath", "(I)V"⟩
  | 17 => ⟨"MixedRules$Judge", "weightAt", "(II)I"⟩
  | 18 => ⟨"MixedRules$Judge", "whatHolds", "(LMixedRules$Flow;I)I"⟩
  | 19 => ⟨"MixedRules$Judge", "isRingless", "(LMixedRules$Flow;I)Z"⟩
  | 20 => ⟨"MixedRules$Judge", "pathHasRoom", "(I)Z"⟩
  | 21 => ⟨"MixedRules$Judge", "firstUnsound", "(II)I"⟩
  | 22 => ⟨"MixedRules$Judge", "firstMissing", "(LMixedRules$Flow;I)I"⟩
  | 23 => ⟨"MixedRules$Letter", "<init>", "()V"⟩
  | 24 => ⟨"MixedRules$Letter", "isMixed", "()Z"⟩
  | 25 => ⟨"MixedRules$Mail", "<init>", "(LMixedRules$Net;)V"⟩
  | 26 => ⟨"MixedRules$Mail", "forgetAll", "()V"⟩
  | 27 => ⟨"MixedRules$Mail", "letterAt", "(I)LMixedRules$Letter;"⟩
  | 28 => ⟨"MixedRules$Mail", "post", "(I)Z"⟩
  | 29 => ⟨"MixedRules$Mail", "staleness", "(LMixedRules$Letter;)I"⟩
  | 30 => ⟨"MixedRules$Mail", "hasStale", "(I)Z"⟩
  | 31 => ⟨"MixedRules$Mail", "countOf", "(IZ)I"⟩
  | 32 => ⟨"MixedRules$Mail", "hopAll", "()I"⟩
  | 33 => ⟨"MixedRules$Mail", "hop", "(LMixedRules$Letter;)I"⟩
  | 34 => ⟨"MixedRules$Mail", "noteArrival", "(LMixedRules$Letter;)V"⟩
  | 35 => ⟨"MixedRules$Net", "<init>", "()V"⟩
  | 36 => ⟨"MixedRules$Net", "startAnew", "(I)V"⟩
  | 37 => ⟨"MixedRules$Net", "calmFlows", "()V"⟩
  | 38 => ⟨"MixedRules$Net", "isNode", "(I)Z"⟩
  | 39 => ⟨"MixedRules$Net", "flowAt", "(I)LMixedRules$Flow;"⟩
  | 40 => ⟨"MixedRules$Net", "roomAt", "(II)I"⟩
  | 41 => ⟨"MixedRules$Net", "setRoom", "(III)V"⟩
  | 42 => ⟨"MixedRules$Net", "linkCount", "()I"⟩
  | 43 => ⟨"MixedRules$Net", "tableAt", "(I)I"⟩
  | 44 => ⟨"MixedRules$Net", "greatestTable", "()I"⟩
  | 45 => ⟨"MixedRules$Path", "<init>", "()V"⟩
  | 46 => ⟨"MixedRules$Path", "follow", "(LMixedRules$Net;LMixedRules$Flow;I)V"⟩
  | 47 => ⟨"MixedRules$Planner", "<init>", "(LMixedRules$Net;LMixedRules$Judge;)V"⟩
  | 48 => ⟨"MixedRules$Planner", "findPlan", "(II)Z"⟩
  | 49 => ⟨"MixedRules$Planner", "settle", "(LMixedRules$Flow;I)V"⟩
  | 50 => ⟨"MixedRules$Planner", "chooseFirstRound", "(I)V"⟩
  | 51 => ⟨"MixedRules$Planner", "arePartsSafe", "(I)Z"⟩
  | 52 => ⟨"MixedRules$Planner", "fewestFrom", "(I)I"⟩
  | 53 => ⟨"MixedRules$Planner", "roundCount", "()I"⟩
  | 54 => ⟨"MixedRules$Planner", "roundAt", "(I)I"⟩
  | 55 => ⟨"MixedRules$Planner", "firstFrom", "(I)I"⟩
  | 56 => ⟨"MixedRules$Reader", "<init>", "(LMixedRules$Net;)V"⟩
  | 57 => ⟨"MixedRules$Reader", "append", "(I)Z"⟩
  | 58 => ⟨"MixedRules$Reader", "findFault", "()I"⟩
  | 59 => ⟨"MixedRules$Reader", "foreseeNet", "()V"⟩
  | 60 => ⟨"MixedRules$Reader", "letterAt", "(I)I"⟩
  | 61 => ⟨"MixedRules$Reader", "nextToken", "()V"⟩
  | 62 => ⟨"MixedRules$Reader", "kindOf", "(I)I"⟩
  | 63 => ⟨"MixedRules$Reader", "isSemicolon", "()Z"⟩
  | 64 => ⟨"MixedRules$Reader", "readClause", "()Z"⟩
  | 65 => ⟨"MixedRules$Reader", "clauseKind", "()I"⟩
  | 66 => ⟨"MixedRules$Reader", "tokenIs", "(Ljava/lang/String;)Z"⟩
  | 67 => ⟨"MixedRules$Reader", "wordOf", "(I)Ljava/lang/String;"⟩
  | 68 => ⟨"MixedRules$Reader", "numbersOf", "(I)I"⟩
  | 69 => ⟨"MixedRules$Reader", "clauseAt", "(I)I"⟩
  | 70 => ⟨"MixedRules$Reader", "sourceOf", "(I)I"⟩
  | 71 => ⟨"MixedRules$Reader", "goalOf", "(I)I"⟩
  | 72 => ⟨"MixedRules$Reader", "numberFits", "(II)Z"⟩
  | 73 => ⟨"MixedRules$Reader", "foresee", "(I)V"⟩
  | 74 => ⟨"MixedRules$Reader", "doClauses", "()V"⟩
  | 75 => ⟨"MixedRules$Reader", "doClause", "(I)V"⟩
  | 76 => ⟨"MixedRules", "<init>", "()V"⟩
  | 77 => ⟨"MixedRules", "write", "(I)I"⟩
  | 78 => ⟨"MixedRules", "erase", "()I"⟩
  | 79 => ⟨"MixedRules", "fault", "()I"⟩
  | 80 => ⟨"MixedRules", "rules", "()I"⟩
  | 81 => ⟨"MixedRules", "room", "(II)I"⟩
  | 82 => ⟨"MixedRules", "load", "(II)I"⟩
  | 83 => ⟨"MixedRules", "flow", "(II)I"⟩
  | 84 => ⟨"MixedRules", "rule", "(III)I"⟩
  | 85 => ⟨"MixedRules", "table", "(I)I"⟩
  | 86 => ⟨"MixedRules", "link", "(III)I"⟩
  | 87 => ⟨"MixedRules", "want", "(I)I"⟩
  | 88 => ⟨"MixedRules", "slots", "(I)I"⟩
  | 89 => ⟨"MixedRules", "turn", "(II)I"⟩
  | 90 => ⟨"MixedRules", "force", "(II)I"⟩
  | 91 => ⟨"MixedRules", "advance", "(I)I"⟩
  | 92 => ⟨"MixedRules", "reverse", "(I)I"⟩
  | 93 => ⟨"MixedRules", "ready", "(I)I"⟩
  | 94 => ⟨"MixedRules", "flip", "(I)I"⟩
  | 95 => ⟨"MixedRules", "finish", "(I)I"⟩
  | 96 => ⟨"MixedRules", "cancel", "(I)I"⟩
  | 97 => ⟨"MixedRules", "send", "(I)I"⟩
  | 98 => ⟨"MixedRules", "tick", "()I"⟩
  | 99 => ⟨"MixedRules", "sound", "(II)I"⟩
  | 100 => ⟨"MixedRules", "walk", "(III)I"⟩
  | 101 => ⟨"MixedRules", "safe", "(III)I"⟩
  | 102 => ⟨"MixedRules", "plan", "(II)I"⟩
  | 103 => ⟨"MixedRules", "rounds", "(I)I"⟩
  | 104 => ⟨"MixedRules", "order", "(I)I"⟩
  | 105 => ⟨"MixedRules", "waits", "(II)I"⟩
  | 106 => ⟨"MixedRules", "letter", "(II)I"⟩
  | 107 => ⟨"MixedRules", "count", "(I)I"⟩
  | 108 => ⟨"MixedRules", "isPlace", "(II)Z"⟩
  | 109 => ⟨"MixedRulesModel", "<init>", "()V"⟩
  | 110 => ⟨"MixedRulesModel", "in", "(JJJ)Z"⟩
  | 111 => ⟨"MixedRulesModel", "has", "(II)Z"⟩
  | 112 => ⟨"MixedRulesModel", "isNode", "(I)Z"⟩
  | 113 => ⟨"MixedRulesModel", "isFlow", "(I)Z"⟩
  | 114 => ⟨"MixedRulesModel", "flows", "(IIII)V"⟩
  | 115 => ⟨"MixedRulesModel", "begins", "(I)V"⟩
  | 116 => ⟨"MixedRulesModel", "write", "(I)I"⟩
  | 117 => ⟨"MixedRulesModel", "erase", "()I"⟩
  | 118 => ⟨"MixedRulesModel", "isSmall", "(I)Z"⟩
  | 119 => ⟨"MixedRulesModel", "isDigit", "(I)Z"⟩
  | 120 => ⟨"MixedRulesModel", "nextToken", "()V"⟩
  | 121 => ⟨"MixedRulesModel", "wordHere", "()I"⟩
  | 122 => ⟨"MixedRulesModel", "number", "(IIIII)Z"⟩
  | 123 => ⟨"MixedRulesModel", "node", "(III)Z"⟩
  | 124 => ⟨"MixedRulesModel", "readsRest", "(I)Z"⟩
  | 125 => ⟨"MixedRulesModel", "does", "(I)V"⟩
  | 126 => ⟨"MixedRulesModel", "readsClause", "()Z"⟩
  | 127 => ⟨"MixedRulesModel", "reads", "(Z)Z"⟩
  | 128 => ⟨"MixedRulesModel", "fault", "()I"⟩
  | 129 => ⟨"MixedRulesModel", "rules", "()I"⟩
  | 130 => ⟨"MixedRulesModel", "movers", "(I)I"⟩
  | 131 => ⟨"MixedRulesModel", "ruleBy", "(III)I"⟩
  | 132 => ⟨"MixedRulesModel", "walks", "(II)V"⟩
  | 133 => ⟨"MixedRulesModel", "needsOf", "(II)V"⟩
  | 134 => ⟨"MixedRulesModel", "asTurned", "()V"⟩
  | 135 => ⟨"MixedRulesModel", "isRoom", "(I)Z"⟩
  | 136 => ⟨"MixedRulesModel", "isRing", "(II)Z"⟩
  | 137 => ⟨"MixedRulesModel", "holds", "(II)I"⟩
  | 138 => ⟨"MixedRulesModel", "isSound", "(II)Z"⟩
  | 139 => ⟨"MixedRulesModel", "isSafe", "(II)Z"⟩
  | 140 => ⟨"MixedRulesModel", "firstOf", "(III)I"⟩
  | 141 => ⟨"MixedRulesModel", "plans", "(I)V"⟩
  | 142 => ⟨"MixedRulesModel", "plansNow", "(I)V"⟩
  | 143 => ⟨"MixedRulesModel", "room", "(II)I"⟩
  | 144 => ⟨"MixedRulesModel", "load", "(II)I"⟩
  | 145 => ⟨"MixedRulesModel", "flow", "(II)I"⟩
  | 146 => ⟨"MixedRulesModel", "rule", "(III)I"⟩
  | 147 => ⟨"MixedRulesModel", "tableWith", "(II)I"⟩
  | 148 => ⟨"MixedRulesModel", "table", "(I)I"⟩
  | 149 => ⟨"MixedRulesModel", "greatestTable", "(I)I"⟩
  | 150 => ⟨"MixedRulesModel", "link", "(III)I"⟩
  | 151 => ⟨"MixedRulesModel", "want", "(I)I"⟩
  | 152 => ⟨"MixedRulesModel", "slots", "(I)I"⟩
  | 153 => ⟨"MixedRulesModel", "isRound", "(II)Z"⟩
  | 154 => ⟨"MixedRulesModel", "turns", "(II)V"⟩
  | 155 => ⟨"MixedRulesModel", "isStale", "(I)Z"⟩
  | 156 => ⟨"MixedRulesModel", "lettersOf", "(II)I"⟩
  | 157 => ⟨"MixedRulesModel", "turn", "(II)I"⟩
  | 158 => ⟨"MixedRulesModel", "force", "(II)I"⟩
  | 159 => ⟨"MixedRulesModel", "advance", "(I)I"⟩
  | 160 => ⟨"MixedRulesModel", "reverse", "(I)I"⟩
  | 161 => ⟨"MixedRulesModel", "ready", "(I)I"⟩
  | 162 => ⟨"MixedRulesModel", "flip", "(I)I"⟩
  | 163 => ⟨"MixedRulesModel", "finish", "(I)I"⟩
  | 164 => ⟨"MixedRulesModel", "cancel", "(I)I"⟩
  | 165 => ⟨"MixedRulesModel", "send", "(I)I"⟩
  | 166 => ⟨"MixedRulesModel", "hops", "(I)Z"⟩
  | 167 => ⟨"MixedRulesModel", "tick", "()I"⟩
  | 168 => ⟨"MixedRulesModel", "isOfMovers", "(II)Z"⟩
  | 169 => ⟨"MixedRulesModel", "sound", "(II)I"⟩
  | 170 => ⟨"MixedRulesModel", "walk", "(III)I"⟩
  | 171 => ⟨"MixedRulesModel", "leastUnsound", "(II)I"⟩
  | 172 => ⟨"MixedRulesModel", "safe", "(III)I"⟩
  | 173 => ⟨"MixedRulesModel", "plan", "(II)I"⟩
  | 174 => ⟨"MixedRulesModel", "rounds", "(I)I"⟩
  | 175 => ⟨"MixedRulesModel", "canGo", "(II)Z"⟩
  | 176 => ⟨"MixedRulesModel", "order", "(I)I"⟩
  | 177 => ⟨"MixedRulesModel", "waits", "(II)I"⟩
  | 178 => ⟨"MixedRulesModel", "letter", "(II)I"⟩
  | 179 => ⟨"MixedRulesModel", "links", "()I"⟩
  | 180 => ⟨"MixedRulesModel", "count", "(I)I"⟩
  | 181 => ⟨"java/lang/Integer", "bitCount", "(I)I"⟩
  | 182 => ⟨"java/lang/Math", "max", "(II)I"⟩
  | 183 => ⟨"java/lang/String", "length", "()I"⟩
  | 184 => ⟨"java/lang/String", "charAt", "(I)C"⟩
  | 185 => ⟨"java/lang/String", "coder", "()B"⟩
  | 186 => ⟨"java/lang/String", "isLatin1", "()Z"⟩
  | 187 => ⟨"java/lang/String", "checkIndex", "(II)V"⟩
  | 188 => ⟨"java/lang/StringLatin1", "charAt", "([BI)C"⟩
  | 189 => ⟨"jdk/internal/util/Preconditions", "checkIndex", "(IILjava/util/function/BiFunction;)I"⟩
  | 190 => ⟨"MixedRulesLaw", "law", "([I)Z"⟩
  | _ => ⟨"", "", ""⟩
def am_by (k : Nat) : ByteArray := match k with
  | 0 => prog_2_method_1_code
  | 1 => prog_2_method_2_code
  | 2 => prog_2_method_3_code
  | 3 => prog_2_method_4_code
  | 4 => prog_2_method_5_code
  | 5 => prog_2_method_6_code
  | 6 => prog_2_method_7_code
  | 7 => prog_2_method_8_code
  | 8 => prog_2_method_9_code
  | 9 => prog_2_method_10_code
  | 10 => prog_2_method_11_code
  | 11 => prog_2_method_12_code
  | 12 => prog_2_method_13_code
  | 13 => prog_2_method_14_code
  | 14 => prog_3_method_1_code
  | 15 => prog_3_method_2_code
  | 16 => prog_3_method_3_code
  | 17 => prog_3_method_4_code
  | 18 => prog_3_method_5_code
  | 19 => prog_3_method_6_code
  | 20 => prog_3_method_7_code
  | 21 => prog_3_method_8_code
  | 22 => prog_3_method_9_code
  | 23 => prog_4_method_1_code
  | 24 => prog_4_method_2_code
  | 25 => prog_5_method_1_code
  | 26 => prog_5_method_2_code
  | 27 => prog_5_method_3_code
  | 28 => prog_5_method_4_code
  | 29 => prog_5_method_5_code
  | 30 => prog_5_method_6_code
  | 31 => prog_5_method_7_code
  | 32 => prog_5_method_8_code
  | 33 => prog_5_method_9_code
  | 34 => prog_5_method_10_code
  | 35 => prog_6_method_1_code
  | 36 => prog_6_method_2_code
  | 37 => prog_6_method_3_code
  | 38 => prog_6_method_4_code
  | 39 => prog_6_method_5_code
  | 40 => prog_6_method_6_code
  | 41 => prog_6_method_7_code
  | 42 => prog_6_method_8_code
  | 43 => prog_6_method_9_code
  | 44 => prog_6_method_10_code
  | 45 => prog_7_method_1_code
  | 46 => prog_7_method_2_code
  | 47 => prog_8_method_1_code
  | 48 => prog_8_method_2_code
  | 49 => prog_8_method_3_code
  | 50 => prog_8_method_4_code
  | 51 => prog_8_method_5_code
  | 52 => prog_8_method_6_code
  | 53 => prog_8_method_7_code
  | 54 => prog_8_method_8_code
  | 55 => prog_8_method_9_code
  | 56 => prog_9_method_1_code
  | 57 => prog_9_method_2_code
  | 58 => prog_9_method_3_code
  | 59 => prog_9_method_4_code
  | 60 => prog_9_method_5_code
  | 61 => prog_9_method_6_code
  | 62 => prog_9_method_7_code
  | 63 => prog_9_method_8_code
  | 64 => prog_9_method_9_code
  | 65 => prog_9_method_10_code
  | 66 => prog_9_method_11_code
  | 67 => prog_9_method_12_code
  | 68 => prog_9_method_13_code
  | 69 => prog_9_method_14_code
  | 70 => prog_9_method_15_code
  | 71 => prog_9_method_16_code
  | 72 => prog_9_method_17_code
  | 73 => prog_9_method_18_code
  | 74 => prog_9_method_19_code
  | 75 => prog_9_method_20_code
  | 76 => prog_1_method_1_code
  | 77 => prog_1_method_2_code
  | 78 => prog_1_method_3_code
  | 79 => prog_1_method_4_code
  | 80 => prog_1_method_5_code
  | 81 => prog_1_method_6_code
  | 82 => prog_1_method_7_code
  | 83 => prog_1_method_8_code
  | 84 => prog_1_method_9_code
  | 85 => prog_1_method_10_code
  | 86 => prog_1_method_11_code
  | 87 => prog_1_method_12_code
  | 88 => prog_1_method_13_code
  | 89 => prog_1_method_14_code
  | 90 => prog_1_method_15_code
  | 91 => prog_1_method_16_code
  | 92 => prog_1_method_17_code
  | 93 => prog_1_method_18_code
  | 94 => prog_1_method_19_code
  | 95 => prog_1_method_20_code
  | 96 => prog_1_method_21_code
  | 97 => prog_1_method_22_code
  | 98 => prog_1_method_23_code
  | 99 => prog_1_method_24_code
  | 100 => prog_1_method_25_code
  | 101 => prog_1_method_26_code
  | 102 => prog_1_method_27_code
  | 103 => prog_1_method_28_code
  | 104 => prog_1_method_29_code
  | 105 => prog_1_method_30_code
  | 106 => prog_1_method_31_code
  | 107 => prog_1_method_32_code
  | 108 => prog_1_method_33_code
  | 109 => prog_11_method_1_code
  | 110 => prog_11_method_2_code
  | 111 => prog_11_method_3_code
  | 112 => prog_11_method_5_code
  | 113 => prog_11_method_6_code
  | 114 => prog_11_method_7_code
  | 115 => prog_11_method_8_code
  | 116 => prog_11_method_9_code
  | 117 => prog_11_method_10_code
  | 118 => prog_11_method_11_code
  | 119 => prog_11_method_12_code
  | 120 => prog_11_method_13_code
  | 121 => prog_11_method_14_code
  | 122 => prog_11_method_15_code
  | 123 => prog_11_method_16_code
  | 124 => prog_11_method_17_code
  | 125 => prog_11_method_18_code
  | 126 => prog_11_method_19_code
  | 127 => prog_11_method_20_code
  | 128 => prog_11_method_21_code
  | 129 => prog_11_method_22_code
  | 130 => prog_11_method_23_code
  | 131 => prog_11_method_24_code
  | 132 => prog_11_method_25_code
  | 133 => prog_11_method_26_code
  | 134 => prog_11_method_27_code
  | 135 => prog_11_method_28_code
  | 136 => prog_11_method_29_code
  | 137 => prog_11_method_30_code
  | 138 => prog_11_method_31_code
  | 139 => prog_11_method_32_code
  | 140 => prog_11_method_33_code
  | 141 => prog_11_method_34_code
  | 142 => prog_11_method_35_code
  | 143 => prog_11_method_36_code
  | 144 => prog_11_method_37_code
  | 145 => prog_11_method_38_code
  | 146 => prog_11_method_39_code
  | 147 => prog_11_method_40_code
  | 148 => prog_11_method_41_code
  | 149 => prog_11_method_42_code
  | 150 => prog_11_method_43_code
  | 151 => prog_11_method_44_code
  | 152 => prog_11_method_45_code
  | 153 => prog_11_method_46_code
  | 154 => prog_11_method_47_code
  | 155 => prog_11_method_48_code
  | 156 => prog_11_method_49_code
  | 157 => prog_11_method_50_code
  | 158 => prog_11_method_51_code
  | 159 => prog_11_method_52_code
  | 160 => prog_11_method_53_code
  | 161 => prog_11_method_54_code
  | 162 => prog_11_method_55_code
  | 163 => prog_11_method_56_code
  | 164 => prog_11_method_57_code
  | 165 => prog_11_method_58_code
  | 166 => prog_11_method_59_code
  | 167 => prog_11_method_60_code
  | 168 => prog_11_method_61_code
  | 169 => prog_11_method_62_code
  | 170 => prog_11_method_63_code
  | 171 => prog_11_method_64_code
  | 172 => prog_11_method_65_code
  | 173 => prog_11_method_66_code
  | 174 => prog_11_method_67_code
  | 175 => prog_11_method_68_code
  | 176 => prog_11_method_69_code
  | 177 => prog_11_method_70_code
  | 178 => prog_11_method_71_code
  | 179 => prog_11_method_72_code
  | 180 => prog_11_method_73_code
  | 181 => prog_12_method_49_code
  | 182 => prog_13_method_65_code
  | 183 => prog_14_method_54_code
  | 184 => prog_14_method_56_code
  | 185 => prog_14_method_152_code
  | 186 => prog_14_method_154_code
  | 187 => prog_14_method_155_code
  | 188 => prog_15_method_2_code
  | 189 => prog_17_method_11_code
  | 190 => code
  | _ => .mk #[]
def am_ow (k : Nat) : Nat := match k with
  | 0 => 0
  | 1 => 0
  | 2 => 0
  | 3 => 0
  | 4 => 0
  | 5 => 0
  | 6 => 0
  | 7 => 0
  | 8 => 0
  | 9 => 0
  | 10 => 0
  | 11 => 0
  | 12 => 0
  | 13 => 0
  | 14 => 1
  | 15 => 1
  | 16 => 1
  | 17 => 1
  | 18 => 1
  | 19 => 1
  | 20 => 1
  | 21 => 1
  | 22 => 1
  | 23 => 2
  | 24 => 2
  | 25 => 3
  | 26 => 3
  | 27 => 3
  | 28 => 3
  | 29 => 3
  | 30 => 3
  | 31 => 3
  | 32 => 3
  | 33 => 3
  | 34 => 3
  | 35 => 4
  | 36 => 4
  | 37 => 4
  | 38 => 4
  | 39 => 4
  | 40 => 4
  | 41 => 4
  | 42 => 4
  | 43 => 4
  | 44 => 4
  | 45 => 5
  | 46 => 5
  | 47 => 6
  | 48 => 6
  | 49 => 6
  | 50 => 6
  | 51 => 6
  | 52 => 6
  | 53 => 6
  | 54 => 6
  | 55 => 6
  | 56 => 7
  | 57 => 7
  | 58 => 7
  | 59 => 7
  | 60 => 7
  | 61 => 7
  | 62 => 7
  | 63 => 7
  | 64 => 7
  | 65 => 7
  | 66 => 7
  | 67 => 7
  | 68 => 7
  | 69 => 7
  | 70 => 7
  | 71 => 7
  | 72 => 7
  | 73 => 7
  | 74 => 7
  | 75 => 7
  | 76 => 8
  | 77 => 8
  | 78 => 8
  | 79 => 8
  | 80 => 8
  | 81 => 8
  | 82 => 8
  | 83 => 8
  | 84 => 8
  | 85 => 8
  | 86 => 8
  | 87 => 8
  | 88 => 8
  | 89 => 8
  | 90 => 8
  | 91 => 8
  | 92 => 8
  | 93 => 8
  | 94 => 8
  | 95 => 8
  | 96 => 8
  | 97 => 8
  | 98 => 8
  | 99 => 8
  | 100 => 8
  | 101 => 8
  | 102 => 8
  | 103 => 8
  | 104 => 8
  | 105 => 8
  | 106 => 8
  | 107 => 8
  | 108 => 8
  | 109 => 9
  | 110 => 9
  | 111 => 9
  | 112 => 9
  | 113 => 9
  | 114 => 9
  | 115 => 9
  | 116 => 9
  | 117 => 9
  | 118 => 9
  | 119 => 9
  | 120 => 9
  | 121 => 9
  | 122 => 9
  | 123 => 9
  | 124 => 9
  | 125 => 9
  | 126 => 9
  | 127 => 9
  | 128 => 9
  | 129 => 9
  | 130 => 9
  | 131 => 9
  | 132 => 9
  | 133 => 9
  | 134 => 9
  | 135 => 9
  | 136 => 9
  | 137 => 9
  | 138 => 9
  | 139 => 9
  | 140 => 9
  | 141 => 9
  | 142 => 9
  | 143 => 9
  | 144 => 9
  | 145 => 9
  | 146 => 9
  | 147 => 9
  | 148 => 9
  | 149 => 9
  | 150 => 9
  | 151 => 9
  | 152 => 9
  | 153 => 9
  | 154 => 9
  | 155 => 9
  | 156 => 9
  | 157 => 9
  | 158 => 9
  | 159 => 9
  | 160 => 9
  | 161 => 9
  | 162 => 9
  | 163 => 9
  | 164 => 9
  | 165 => 9
  | 166 => 9
  | 167 => 9
  | 168 => 9
  | 169 => 9
  | 170 => 9
  | 171 => 9
  | 172 => 9
  | 173 => 9
  | 174 => 9
  | 175 => 9
  | 176 => 9
  | 177 => 9
  | 178 => 9
  | 179 => 9
  | 180 => 9
  | 181 => 10
  | 182 => 11
  | 183 => 12
  | 184 => 12
  | 185 => 12
  | 186 => 12
  | 187 => 12
  | 188 => 13
  | 189 => 15
  | 190 => 14
  | _ => 99
def am_ml (k : Nat) : Nat := match k with
  | 0 => 1
  | 1 => 5
  | 2 => 1
  | 3 => 3
  | 4 => 3
  | 5 => 2
  | 6 => 2
  | 7 => 3
  | 8 => 2
  | 9 => 3
  | 10 => 2
  | 11 => 2
  | 12 => 2
  | 13 => 2
  | 14 => 2
  | 15 => 5
  | 16 => 4
  | 17 => 3
  | 18 => 4
  | 19 => 8
  | 20 => 4
  | 21 => 6
  | 22 => 5
  | 23 => 1
  | 24 => 1
  | 25 => 3
  | 26 => 1
  | 27 => 2
  | 28 => 4
  | 29 => 3
  | 30 => 3
  | 31 => 5
  | 32 => 6
  | 33 => 5
  | 34 => 3
  | 35 => 2
  | 36 => 3
  | 37 => 2
  | 38 => 2
  | 39 => 2
  | 40 => 3
  | 41 => 4
  | 42 => 3
  | 43 => 5
  | 44 => 3
  | 45 => 1
  | 46 => 7
  | 47 => 3
  | 48 => 7
  | 49 => 3
  | 50 => 7
  | 51 => 3
  | 52 => 2
  | 53 => 1
  | 54 => 4
  | 55 => 2
  | 56 => 2
  | 57 => 2
  | 58 => 2
  | 59 => 3
  | 60 => 2
  | 61 => 1
  | 62 => 1
  | 63 => 1
  | 64 => 5
  | 65 => 2
  | 66 => 3
  | 67 => 1
  | 68 => 1
  | 69 => 2
  | 70 => 2
  | 71 => 2
  | 72 => 10
  | 73 => 5
  | 74 => 2
  | 75 => 7
  | 76 => 1
  | 77 => 2
  | 78 => 2
  | 79 => 1
  | 80 => 1
  | 81 => 3
  | 82 => 3
  | 83 => 4
  | 84 => 5
  | 85 => 2
  | 86 => 5
  | 87 => 3
  | 88 => 3
  | 89 => 4
  | 90 => 4
  | 91 => 4
  | 92 => 3
  | 93 => 4
  | 94 => 3
  | 95 => 3
  | 96 => 4
  | 97 => 2
  | 98 => 1
  | 99 => 4
  | 100 => 6
  | 101 => 6
  | 102 => 3
  | 103 => 2
  | 104 => 5
  | 105 => 8
  | 106 => 4
  | 107 => 2
  | 108 => 2
  | 109 => 1
  | 110 => 6
  | 111 => 2
  | 112 => 2
  | 113 => 1
  | 114 => 6
  | 115 => 3
  | 116 => 2
  | 117 => 2
  | 118 => 1
  | 119 => 1
  | 120 => 1
  | 121 => 4
  | 122 => 8
  | 123 => 4
  | 124 => 2
  | 125 => 3
  | 126 => 3
  | 127 => 3
  | 128 => 1
  | 129 => 2
  | 130 => 4
  | 131 => 4
  | 132 => 6
  | 133 => 5
  | 134 => 2
  | 135 => 5
  | 136 => 7
  | 137 => 4
  | 138 => 3
  | 139 => 5
  | 140 => 5
  | 141 => 5
  | 142 => 2
  | 143 => 3
  | 144 => 3
  | 145 => 3
  | 146 => 4
  | 147 => 5
  | 148 => 2
  | 149 => 5
  | 150 => 5
  | 151 => 3
  | 152 => 3
  | 153 => 3
  | 154 => 3
  | 155 => 4
  | 156 => 5
  | 157 => 3
  | 158 => 3
  | 159 => 3
  | 160 => 2
  | 161 => 2
  | 162 => 2
  | 163 => 2
  | 164 => 3
  | 165 => 3
  | 166 => 6
  | 167 => 5
  | 168 => 3
  | 169 => 3
  | 170 => 4
  | 171 => 4
  | 172 => 7
  | 173 => 5
  | 174 => 2
  | 175 => 4
  | 176 => 5
  | 177 => 4
  | 178 => 4
  | 179 => 3
  | 180 => 2
  | 181 => 1
  | 182 => 2
  | 183 => 1
  | 184 => 2
  | 185 => 1
  | 186 => 1
  | 187 => 2
  | 188 => 2
  | 189 => 3
  | 190 => 4
  | _ => 0
def am_ht (k : Nat) : Nat := match k with
  | 0 => 2
  | 1 => 1
  | 2 => 1
  | 3 => 2
  | 4 => 2
  | 5 => 2
  | 6 => 2
  | 7 => 2
  | 8 => 3
  | 9 => 1
  | 10 => 2
  | 11 => 3
  | 12 => 2
  | 13 => 2
  | 14 => 2
  | 15 => 4
  | 16 => 2
  | 17 => 2
  | 18 => 4
  | 19 => 3
  | 20 => 3
  | 21 => 6
  | 22 => 5
  | 23 => 1
  | 24 => 1
  | 25 => 2
  | 26 => 1
  | 27 => 2
  | 28 => 3
  | 29 => 3
  | 30 => 4
  | 31 => 1
  | 32 => 5
  | 33 => 4
  | 34 => 3
  | 35 => 3
  | 36 => 2
  | 37 => 2
  | 38 => 1
  | 39 => 2
  | 40 => 2
  | 41 => 2
  | 42 => 1
  | 43 => 3
  | 44 => 4
  | 45 => 1
  | 46 => 3
  | 47 => 1
  | 48 => 6
  | 49 => 5
  | 50 => 2
  | 51 => 1
  | 52 => 2
  | 53 => 3
  | 54 => 3
  | 55 => 2
  | 56 => 1
  | 57 => 2
  | 58 => 8
  | 59 => 3
  | 60 => 2
  | 61 => 3
  | 62 => 1
  | 63 => 3
  | 64 => 7
  | 65 => 6
  | 66 => 5
  | 67 => 1
  | 68 => 1
  | 69 => 2
  | 70 => 2
  | 71 => 2
  | 72 => 3
  | 73 => 3
  | 74 => 4
  | 75 => 3
  | 76 => 4
  | 77 => 3
  | 78 => 1
  | 79 => 9
  | 80 => 9
  | 81 => 3
  | 82 => 5
  | 83 => 3
  | 84 => 3
  | 85 => 4
  | 86 => 3
  | 87 => 1
  | 88 => 1
  | 89 => 7
  | 90 => 4
  | 91 => 7
  | 92 => 3
  | 93 => 5
  | 94 => 3
  | 95 => 3
  | 96 => 3
  | 97 => 4
  | 98 => 6
  | 99 => 5
  | 100 => 4
  | 101 => 7
  | 102 => 7
  | 103 => 7
  | 104 => 7
  | 105 => 5
  | 106 => 4
  | 107 => 5
  | 108 => 1
  | 109 => 3
  | 110 => 1
  | 111 => 1
  | 112 => 2
  | 113 => 2
  | 114 => 1
  | 115 => 2
  | 116 => 2
  | 117 => 1
  | 118 => 2
  | 119 => 2
  | 120 => 3
  | 121 => 1
  | 122 => 4
  | 123 => 5
  | 124 => 6
  | 125 => 3
  | 126 => 7
  | 127 => 8
  | 128 => 9
  | 129 => 9
  | 130 => 1
  | 131 => 2
  | 132 => 3
  | 133 => 4
  | 134 => 1
  | 135 => 1
  | 136 => 3
  | 137 => 4
  | 138 => 5
  | 139 => 1
  | 140 => 2
  | 141 => 6
  | 142 => 7
  | 143 => 3
  | 144 => 5
  | 145 => 3
  | 146 => 3
  | 147 => 3
  | 148 => 4
  | 149 => 4
  | 150 => 3
  | 151 => 2
  | 152 => 2
  | 153 => 2
  | 154 => 1
  | 155 => 1
  | 156 => 1
  | 157 => 7
  | 158 => 3
  | 159 => 8
  | 160 => 3
  | 161 => 5
  | 162 => 3
  | 163 => 3
  | 164 => 3
  | 165 => 3
  | 166 => 2
  | 167 => 3
  | 168 => 2
  | 169 => 5
  | 170 => 4
  | 171 => 6
  | 172 => 7
  | 173 => 8
  | 174 => 8
  | 175 => 7
  | 176 => 8
  | 177 => 5
  | 178 => 2
  | 179 => 1
  | 180 => 5
  | 181 => 1
  | 182 => 1
  | 183 => 2
  | 184 => 4
  | 185 => 1
  | 186 => 1
  | 187 => 2
  | 188 => 3
  | 189 => 1
  | 190 => 10
  | _ => 0
def am_rk (k : Nat) : Nat := match k with
  | 0 => 0
  | 1 => 0
  | 2 => 0
  | 3 => 0
  | 4 => 0
  | 5 => 1
  | 6 => 1
  | 7 => 1
  | 8 => 2
  | 9 => 1
  | 10 => 2
  | 11 => 2
  | 12 => 0
  | 13 => 0
  | 14 => 0
  | 15 => 0
  | 16 => 0
  | 17 => 1
  | 18 => 1
  | 19 => 2
  | 20 => 2
  | 21 => 1
  | 22 => 1
  | 23 => 0
  | 24 => 2
  | 25 => 0
  | 26 => 0
  | 27 => 3
  | 28 => 2
  | 29 => 1
  | 30 => 2
  | 31 => 1
  | 32 => 1
  | 33 => 1
  | 34 => 0
  | 35 => 0
  | 36 => 0
  | 37 => 0
  | 38 => 2
  | 39 => 3
  | 40 => 1
  | 41 => 0
  | 42 => 1
  | 43 => 1
  | 44 => 1
  | 45 => 0
  | 46 => 0
  | 47 => 0
  | 48 => 2
  | 49 => 0
  | 50 => 0
  | 51 => 2
  | 52 => 1
  | 53 => 1
  | 54 => 1
  | 55 => 1
  | 56 => 0
  | 57 => 2
  | 58 => 1
  | 59 => 0
  | 60 => 1
  | 61 => 0
  | 62 => 1
  | 63 => 2
  | 64 => 2
  | 65 => 1
  | 66 => 2
  | 67 => 3
  | 68 => 1
  | 69 => 1
  | 70 => 1
  | 71 => 1
  | 72 => 2
  | 73 => 0
  | 74 => 0
  | 75 => 0
  | 76 => 0
  | 77 => 1
  | 78 => 1
  | 79 => 1
  | 80 => 1
  | 81 => 1
  | 82 => 1
  | 83 => 1
  | 84 => 1
  | 85 => 1
  | 86 => 1
  | 87 => 1
  | 88 => 1
  | 89 => 1
  | 90 => 1
  | 91 => 1
  | 92 => 1
  | 93 => 1
  | 94 => 1
  | 95 => 1
  | 96 => 1
  | 97 => 1
  | 98 => 1
  | 99 => 1
  | 100 => 1
  | 101 => 1
  | 102 => 1
  | 103 => 1
  | 104 => 1
  | 105 => 1
  | 106 => 1
  | 107 => 1
  | 108 => 2
  | 109 => 0
  | 110 => 2
  | 111 => 2
  | 112 => 2
  | 113 => 2
  | 114 => 0
  | 115 => 0
  | 116 => 1
  | 117 => 1
  | 118 => 2
  | 119 => 2
  | 120 => 0
  | 121 => 1
  | 122 => 2
  | 123 => 2
  | 124 => 2
  | 125 => 0
  | 126 => 2
  | 127 => 2
  | 128 => 1
  | 129 => 1
  | 130 => 1
  | 131 => 1
  | 132 => 0
  | 133 => 0
  | 134 => 0
  | 135 => 2
  | 136 => 2
  | 137 => 1
  | 138 => 2
  | 139 => 2
  | 140 => 1
  | 141 => 0
  | 142 => 0
  | 143 => 1
  | 144 => 1
  | 145 => 1
  | 146 => 1
  | 147 => 1
  | 148 => 1
  | 149 => 1
  | 150 => 1
  | 151 => 1
  | 152 => 1
  | 153 => 2
  | 154 => 0
  | 155 => 2
  | 156 => 1
  | 157 => 1
  | 158 => 1
  | 159 => 1
  | 160 => 1
  | 161 => 1
  | 162 => 1
  | 163 => 1
  | 164 => 1
  | 165 => 1
  | 166 => 2
  | 167 => 1
  | 168 => 2
  | 169 => 1
  | 170 => 1
  | 171 => 1
  | 172 => 1
  | 173 => 1
  | 174 => 1
  | 175 => 2
  | 176 => 1
  | 177 => 1
  | 178 => 1
  | 179 => 1
  | 180 => 1
  | 181 => 1
  | 182 => 1
  | 183 => 1
  | 184 => 4
  | 185 => 5
  | 186 => 2
  | 187 => 0
  | 188 => 4
  | 189 => 1
  | 190 => 2
  | _ => 9
def am_rt (k : Nat) : Option FieldType := match k with
  | 0 => (Option.none : Option Jvm.ClassFile.FieldType)
  | 1 => (Option.none : Option Jvm.ClassFile.FieldType)
  | 2 => (Option.none : Option Jvm.ClassFile.FieldType)
  | 3 => (Option.none : Option Jvm.ClassFile.FieldType)
  | 4 => (Option.none : Option Jvm.ClassFile.FieldType)
  | 5 => (Option.some Jvm.ClassFile.FieldType.int)
  | 6 => (Option.some Jvm.ClassFile.FieldType.int)
  | 7 => (Option.some Jvm.ClassFile.FieldType.int)
  | 8 => (Option.some Jvm.ClassFile.FieldType.boolean)
  | 9 => (Option.some Jvm.ClassFile.FieldType.int)
  | 10 => (Option.some Jvm.ClassFile.FieldType.boolean)
  | 11 => (Option.some Jvm.ClassFile.FieldType.boolean)
  | 12 => (Option.none : Option Jvm.ClassFile.FieldType)
  | 13 => (Option.none : Option Jvm.ClassFile.FieldType)
  | 14 => (Option.none : Option Jvm.ClassFile.FieldType)
  | 15 => (Option.none : Option Jvm.ClassFile.FieldType)
  | 16 => (Option.none : Option Jvm.ClassFile.FieldType)
  | 17 => (Option.some Jvm.ClassFile.FieldType.int)
  | 18 => (Option.some Jvm.ClassFile.FieldType.int)
  | 19 => (Option.some Jvm.ClassFile.FieldType.boolean)
  | 20 => (Option.some Jvm.ClassFile.FieldType.boolean)
  | 21 => (Option.some Jvm.ClassFile.FieldType.int)
  | 22 => (Option.some Jvm.ClassFile.FieldType.int)
  | 23 => (Option.none : Option Jvm.ClassFile.FieldType)
  | 24 => (Option.some Jvm.ClassFile.FieldType.boolean)
  | 25 => (Option.none : Option Jvm.ClassFile.FieldType)
  | 26 => (Option.none : Option Jvm.ClassFile.FieldType)
  | 27 => (Option.some (Jvm.ClassFile.FieldType.object "MixedRules$Letter"))
  | 28 => (Option.some Jvm.ClassFile.FieldType.boolean)
  | 29 => (Option.some Jvm.ClassFile.FieldType.int)
  | 30 => (Option.some Jvm.ClassFile.FieldType.boolean)
  | 31 => (Option.some Jvm.ClassFile.FieldType.int)
  | 32 => (Option.some Jvm.ClassFile.FieldType.int)
  | 33 => (Option.some Jvm.ClassFile.FieldType.int)
  | 34 => (Option.none : Option Jvm.ClassFile.FieldType)
  | 35 => (Option.none : Option Jvm.ClassFile.FieldType)
  | 36 => (Option.none : Option Jvm.ClassFile.FieldType)
  | 37 => (Option.none : Option Jvm.ClassFile.FieldType)
  | 38 => (Option.some Jvm.ClassFile.FieldType.boolean)
  | 39 => (Option.some (Jvm.ClassFile.FieldType.object "MixedRules$Flow"))
  | 40 => (Option.some Jvm.ClassFile.FieldType.int)
  | 41 => (Option.none : Option Jvm.ClassFile.FieldType)
  | 42 => (Option.some Jvm.ClassFile.FieldType.int)
  | 43 => (Option.some Jvm.ClassFile.FieldType.int)
  | 44 => (Option.some Jvm.ClassFile.FieldType.int)
  | 45 => (Option.none : Option Jvm.ClassFile.FieldType)
  | 46 => (Option.none : Option Jvm.ClassFile.FieldType)
  | 47 => (Option.none : Option Jvm.ClassFile.FieldType)
  | 48 => (Option.some Jvm.ClassFile.FieldType.boolean)
  | 49 => (Option.none : Option Jvm.ClassFile.FieldType)
  | 50 => (Option.none : Option Jvm.ClassFile.FieldType)
  | 51 => (Option.some Jvm.ClassFile.FieldType.boolean)
  | 52 => (Option.some Jvm.ClassFile.FieldType.int)
  | 53 => (Option.some Jvm.ClassFile.FieldType.int)
  | 54 => (Option.some Jvm.ClassFile.FieldType.int)
  | 55 => (Option.some Jvm.ClassFile.FieldType.int)
  | 56 => (Option.none : Option Jvm.ClassFile.FieldType)
  | 57 => (Option.some Jvm.ClassFile.FieldType.boolean)
  | 58 => (Option.some Jvm.ClassFile.FieldType.int)
  | 59 => (Option.none : Option Jvm.ClassFile.FieldType)
  | 60 => (Option.some Jvm.ClassFile.FieldType.int)
  | 61 => (Option.none : Option Jvm.ClassFile.FieldType)
  | 62 => (Option.some Jvm.ClassFile.FieldType.int)
  | 63 => (Option.some Jvm.ClassFile.FieldType.boolean)
  | 64 => (Option.some Jvm.ClassFile.FieldType.boolean)
  | 65 => (Option.some Jvm.ClassFile.FieldType.int)
  | 66 => (Option.some Jvm.ClassFile.FieldType.boolean)
  | 67 => (Option.some (Jvm.ClassFile.FieldType.object "java/lang/String"))
  | 68 => (Option.some Jvm.ClassFile.FieldType.int)
  | 69 => (Option.some Jvm.ClassFile.FieldType.int)
  | 70 => (Option.some Jvm.ClassFile.FieldType.int)
  | 71 => (Option.some Jvm.ClassFile.FieldType.int)
  | 72 => (Option.some Jvm.ClassFile.FieldType.boolean)
  | 73 => (Option.none : Option Jvm.ClassFile.FieldType)
  | 74 => (Option.none : Option Jvm.ClassFile.FieldType)
  | 75 => (Option.none : Option Jvm.ClassFile.FieldType)
  | 76 => (Option.none : Option Jvm.ClassFile.FieldType)
  | 77 => (Option.some Jvm.ClassFile.FieldType.int)
  | 78 => (Option.some Jvm.ClassFile.FieldType.int)
  | 79 => (Option.some Jvm.ClassFile.FieldType.int)
  | 80 => (Option.some Jvm.ClassFile.FieldType.int)
  | 81 => (Option.some Jvm.ClassFile.FieldType.int)
  | 82 => (Option.some Jvm.ClassFile.FieldType.int)
  | 83 => (Option.some Jvm.ClassFile.FieldType.int)
  | 84 => (Option.some Jvm.ClassFile.FieldType.int)
  | 85 => (Option.some Jvm.ClassFile.FieldType.int)
  | 86 => (Option.some Jvm.ClassFile.FieldType.int)
  | 87 => (Option.some Jvm.ClassFile.FieldType.int)
  | 88 => (Option.some Jvm.ClassFile.FieldType.int)
  | 89 => (Option.some Jvm.ClassFile.FieldType.int)
  | 90 => (Option.some Jvm.ClassFile.FieldType.int)
  | 91 => (Option.some Jvm.ClassFile.FieldType.int)
  | 92 => (Option.some Jvm.ClassFile.FieldType.int)
  | 93 => (Option.some Jvm.ClassFile.FieldType.int)
  | 94 => (Option.some Jvm.ClassFile.FieldType.int)
  | 95 => (Option.some Jvm.ClassFile.FieldType.int)
  | 96 => (Option.some Jvm.ClassFile.FieldType.int)
  | 97 => (Option.some Jvm.ClassFile.FieldType.int)
  | 98 => (Option.some Jvm.ClassFile.FieldType.int)
  | 99 => (Option.some Jvm.ClassFile.FieldType.int)
  | 100 => (Option.some Jvm.ClassFile.FieldType.int)
  | 101 => (Option.some Jvm.ClassFile.FieldType.int)
  | 102 => (Option.some Jvm.ClassFile.FieldType.int)
  | 103 => (Option.some Jvm.ClassFile.FieldType.int)
  | 104 => (Option.some Jvm.ClassFile.FieldType.int)
  | 105 => (Option.some Jvm.ClassFile.FieldType.int)
  | 106 => (Option.some Jvm.ClassFile.FieldType.int)
  | 107 => (Option.some Jvm.ClassFile.FieldType.int)
  | 108 => (Option.some Jvm.ClassFile.FieldType.boolean)
  | 109 => (Option.none : Option Jvm.ClassFile.FieldType)
  | 110 => (Option.some Jvm.ClassFile.FieldType.boolean)
  | 111 => (Option.some Jvm.ClassFile.FieldType.boolean)
  | 112 => (Option.some Jvm.ClassFile.FieldType.boolean)
  | 113 => (Option.some Jvm.ClassFile.FieldType.boolean)
  | 114 => (Option.none : Option Jvm.ClassFile.FieldType)
  | 115 => (Option.none : Option Jvm.ClassFile.FieldType)
  | 116 => (Option.some Jvm.ClassFile.FieldType.int)
  | 117 => (Option.some Jvm.ClassFile.FieldType.int)
  | 118 => (Option.some Jvm.ClassFile.FieldType.boolean)
  | 119 => (Option.some Jvm.ClassFile.FieldType.boolean)
  | 120 => (Option.none : Option Jvm.ClassFile.FieldType)
  | 121 => (Option.some Jvm.ClassFile.FieldType.int)
  | 122 => (Option.some Jvm.ClassFile.FieldType.boolean)
  | 123 => (Option.some Jvm.ClassFile.FieldType.boolean)
  | 124 => (Option.some Jvm.ClassFile.FieldType.boolean)
  | 125 => (Option.none : Option Jvm.ClassFile.FieldType)
  | 126 => (Option.some Jvm.ClassFile.FieldType.boolean)
  | 127 => (Option.some Jvm.ClassFile.FieldType.boolean)
  | 128 => (Option.some Jvm.ClassFile.FieldType.int)
  | 129 => (Option.some Jvm.ClassFile.FieldType.int)
  | 130 => (Option.some Jvm.ClassFile.FieldType.int)
  | 131 => (Option.some Jvm.ClassFile.FieldType.int)
  | 132 => (Option.none : Option Jvm.ClassFile.FieldType)
  | 133 => (Option.none : Option Jvm.ClassFile.FieldType)
  | 134 => (Option.none : Option Jvm.ClassFile.FieldType)
  | 135 => (Option.some Jvm.ClassFile.FieldType.boolean)
  | 136 => (Option.some Jvm.ClassFile.FieldType.boolean)
  | 137 => (Option.some Jvm.ClassFile.FieldType.int)
  | 138 => (Option.some Jvm.ClassFile.FieldType.boolean)
  | 139 => (Option.some Jvm.ClassFile.FieldType.boolean)
  | 140 => (Option.some Jvm.ClassFile.FieldType.int)
  | 141 => (Option.none : Option Jvm.ClassFile.FieldType)
  | 142 => (Option.none : Option Jvm.ClassFile.FieldType)
  | 143 => (Option.some Jvm.ClassFile.FieldType.int)
  | 144 => (Option.some Jvm.ClassFile.FieldType.int)
  | 145 => (Option.some Jvm.ClassFile.FieldType.int)
  | 146 => (Option.some Jvm.ClassFile.FieldType.int)
  | 147 => (Option.some Jvm.ClassFile.FieldType.int)
  | 148 => (Option.some Jvm.ClassFile.FieldType.int)
  | 149 => (Option.some Jvm.ClassFile.FieldType.int)
  | 150 => (Option.some Jvm.ClassFile.FieldType.int)
  | 151 => (Option.some Jvm.ClassFile.FieldType.int)
  | 152 => (Option.some Jvm.ClassFile.FieldType.int)
  | 153 => (Option.some Jvm.ClassFile.FieldType.boolean)
  | 154 => (Option.none : Option Jvm.ClassFile.FieldType)
  | 155 => (Option.some Jvm.ClassFile.FieldType.boolean)
  | 156 => (Option.some Jvm.ClassFile.FieldType.int)
  | 157 => (Option.some Jvm.ClassFile.FieldType.int)
  | 158 => (Option.some Jvm.ClassFile.FieldType.int)
  | 159 => (Option.some Jvm.ClassFile.FieldType.int)
  | 160 => (Option.some Jvm.ClassFile.FieldType.int)
  | 161 => (Option.some Jvm.ClassFile.FieldType.int)
  | 162 => (Option.some Jvm.ClassFile.FieldType.int)
  | 163 => (Option.some Jvm.ClassFile.FieldType.int)
  | 164 => (Option.some Jvm.ClassFile.FieldType.int)
  | 165 => (Option.some Jvm.ClassFile.FieldType.int)
  | 166 => (Option.some Jvm.ClassFile.FieldType.boolean)
  | 167 => (Option.some Jvm.ClassFile.FieldType.int)
  | 168 => (Option.some Jvm.ClassFile.FieldType.boolean)
  | 169 => (Option.some Jvm.ClassFile.FieldType.int)
  | 170 => (Option.some Jvm.ClassFile.FieldType.int)
  | 171 => (Option.some Jvm.ClassFile.FieldType.int)
  | 172 => (Option.some Jvm.ClassFile.FieldType.int)
  | 173 => (Option.some Jvm.ClassFile.FieldType.int)
  | 174 => (Option.some Jvm.ClassFile.FieldType.int)
  | 175 => (Option.some Jvm.ClassFile.FieldType.boolean)
  | 176 => (Option.some Jvm.ClassFile.FieldType.int)
  | 177 => (Option.some Jvm.ClassFile.FieldType.int)
  | 178 => (Option.some Jvm.ClassFile.FieldType.int)
  | 179 => (Option.some Jvm.ClassFile.FieldType.int)
  | 180 => (Option.some Jvm.ClassFile.FieldType.int)
  | 181 => (Option.some Jvm.ClassFile.FieldType.int)
  | 182 => (Option.some Jvm.ClassFile.FieldType.int)
  | 183 => (Option.some Jvm.ClassFile.FieldType.int)
  | 184 => (Option.some Jvm.ClassFile.FieldType.char)
  | 185 => (Option.some Jvm.ClassFile.FieldType.byte)
  | 186 => (Option.some Jvm.ClassFile.FieldType.boolean)
  | 187 => (Option.none : Option Jvm.ClassFile.FieldType)
  | 188 => (Option.some Jvm.ClassFile.FieldType.char)
  | 189 => (Option.some Jvm.ClassFile.FieldType.int)
  | 190 => (Option.some Jvm.ClassFile.FieldType.boolean)
  | _ => none
def am_ff0 (k : Nat) : List Bool := match k with
  | 0 => [false, false, false, false, true, true, false, false, true, false, false]
  | 1 => [true, true, true]
  | 2 => [false, false, false, false, false, false, false, false]
  | 3 => [true, true, false, false, false, false, false]
  | 4 => [false, false, false, true, true]
  | 5 => [false, false, false, true]
  | 6 => [true, true, false, false, true, true, true, true]
  | 7 => [true, true, false, false, false, false, true, false, false, true, true]
  | 8 => [true, true, true, true, true]
  | 9 => [false, true, true, true, true, true, true, true, false, false, true, true, true, true, true, true, false, false, false, false, false, true, false, false, false, false, true, true, false, false, true, true, true, false, false, false, true, true, true, true, true]
  | _ => []
def am_ff (ci f : Nat) : Bool := (am_ff0 ci).getD f true
def am_ii (k : Nat) : Bool := match k with
  | 0 => true
  | 14 => true
  | 23 => true
  | 25 => true
  | 35 => true
  | 45 => true
  | 47 => true
  | 56 => true
  | 76 => true
  | 109 => true
  | _ => false
def mt_Fl_init : List (List (Option (Instr × Nat))) := [
  [some (.aload_n 0, 1), some (.invokespecial 3, 3), none, none, some (.aload_n 0, 1), some (.bipush 8, 2), none, some (.newarray .int, 2), none, some (.putfield 9, 3), none, none, some (.aload_n 0, 1), some (.bipush 8, 2), none, some (.newarray .int, 2)],
  [none, some (.putfield 15, 3), none, none, some (.aload_n 0, 1), some (.bipush 8, 2), none, some (.newarray .int, 2), none, some (.putfield 18, 3), none, none, some (.aload_n 0, 1), some (.iconst 0, 1), some (.iconst 1, 1), some (.iconst 1, 1)],
  [some (.invokevirtual 21, 3), none, none, some (.return_, 1)]]
def mt_Fl_lay : List (List (Option (Instr × Nat))) := [
  [some (.aload_n 0, 1), some (.iload_n 1, 1), some (.putfield 25, 3), none, none, some (.aload_n 0, 1), some (.iload_n 2, 1), some (.putfield 29, 3), none, none, some (.aload_n 0, 1), some (.iload_n 3, 1), some (.putfield 32, 3), none, none, some (.aload_n 0, 1)],
  [some (.iconst (-1), 1), some (.putfield 35, 3), none, none, some (.iconst 0, 1), some (.istore 4, 2), none, some (.iload 4, 2), none, some (.bipush 8, 2), none, some (.if_icmp .ge 25, 3), none, none, some (.aload_n 0, 1), some (.getfield 9, 3)],
  [none, none, some (.iload 4, 2), none, some (.iconst (-1), 1), some (.iastore, 1), some (.aload_n 0, 1), some (.getfield 15, 3), none, none, some (.iload 4, 2), none, some (.iconst (-1), 1), some (.iastore, 1), some (.iinc 4 1, 3), none],
  [none, some (.goto (-26), 3), none, none, some (.return_, 1)]]
def mt_Fl_calm : List (List (Option (Instr × Nat))) := [
  [some (.aload_n 0, 1), some (.iconst 0, 1), some (.putfield 38, 3), none, none, some (.aload_n 0, 1), some (.iconst 0, 1), some (.putfield 41, 3), none, none, some (.aload_n 0, 1), some (.iconst 0, 1), some (.putfield 44, 3), none, none, some (.aload_n 0, 1)],
  [some (.iconst 0, 1), some (.putfield 47, 3), none, none, some (.return_, 1)]]
def mt_Fl_setOld : List (List (Option (Instr × Nat))) := [
  [some (.iload_n 1, 1), some (.aload_n 0, 1), some (.getfield 9, 3), none, none, some (.arraylength, 1), some (.invokestatic 50, 3), none, none, some (.ifCond .eq 10, 3), none, none, some (.aload_n 0, 1), some (.getfield 9, 3), none, none],
  [some (.iload_n 1, 1), some (.iload_n 2, 1), some (.iastore, 1), some (.return_, 1)]]
def mt_Fl_setNew : List (List (Option (Instr × Nat))) := [
  [some (.iload_n 1, 1), some (.aload_n 0, 1), some (.getfield 15, 3), none, none, some (.arraylength, 1), some (.invokestatic 50, 3), none, none, some (.ifCond .eq 10, 3), none, none, some (.aload_n 0, 1), some (.getfield 15, 3), none, none],
  [some (.iload_n 1, 1), some (.iload_n 2, 1), some (.iastore, 1), some (.return_, 1)]]
def mt_Fl_oldAt : List (List (Option (Instr × Nat))) := [
  [some (.iload_n 1, 1), some (.aload_n 0, 1), some (.getfield 9, 3), none, none, some (.arraylength, 1), some (.invokestatic 50, 3), none, none, some (.ifCond .eq 12, 3), none, none, some (.aload_n 0, 1), some (.getfield 9, 3), none, none],
  [some (.iload_n 1, 1), some (.iaload, 1), some (.goto 4, 3), none, none, some (.iconst (-1), 1), some (.ireturn, 1)]]
def mt_Fl_newAt : List (List (Option (Instr × Nat))) := [
  [some (.iload_n 1, 1), some (.aload_n 0, 1), some (.getfield 15, 3), none, none, some (.arraylength, 1), some (.invokestatic 50, 3), none, none, some (.ifCond .eq 12, 3), none, none, some (.aload_n 0, 1), some (.getfield 15, 3), none, none],
  [some (.iload_n 1, 1), some (.iaload, 1), some (.goto 4, 3), none, none, some (.iconst (-1), 1), some (.ireturn, 1)]]
def mt_Fl_ruleAt : List (List (Option (Instr × Nat))) := [
  [some (.iload_n 1, 1), some (.bipush 8, 2), none, some (.invokestatic 50, 3), none, none, some (.ifCond .ne 5, 3), none, none, some (.iconst (-1), 1), some (.ireturn, 1), some (.iload_n 2, 1), some (.iconst 1, 1), some (.iload_n 1, 1), some (.ishl, 1), some (.iand, 1)],
  [some (.ifCond .eq 12, 3), none, none, some (.aload_n 0, 1), some (.getfield 15, 3), none, none, some (.iload_n 1, 1), some (.iaload, 1), some (.goto 9, 3), none, none, some (.aload_n 0, 1), some (.getfield 9, 3), none, none],
  [some (.iload_n 1, 1), some (.iaload, 1), some (.ireturn, 1)]]
def mt_Fl_isMover : List (List (Option (Instr × Nat))) := [
  [some (.aload_n 0, 1), some (.iload_n 1, 1), some (.invokevirtual 54, 3), none, none, some (.aload_n 0, 1), some (.iload_n 1, 1), some (.invokevirtual 58, 3), none, none, some (.if_icmp .eq 7, 3), none, none, some (.iconst 1, 1), some (.goto 4, 3), none],
  [none, some (.iconst 0, 1), some (.ireturn, 1)]]
def mt_Fl_movers : List (List (Option (Instr × Nat))) := [
  [some (.iconst 0, 1), some (.istore_n 1, 1), some (.iconst 0, 1), some (.istore_n 2, 1), some (.iload_n 2, 1), some (.bipush 8, 2), none, some (.if_icmp .ge 30, 3), none, none, some (.aload_n 0, 1), some (.getfield 9, 3), none, none, some (.iload_n 2, 1), some (.iaload, 1)],
  [some (.aload_n 0, 1), some (.getfield 15, 3), none, none, some (.iload_n 2, 1), some (.iaload, 1), some (.if_icmp .eq 9, 3), none, none, some (.iload_n 1, 1), some (.iconst 1, 1), some (.iload_n 2, 1), some (.ishl, 1), some (.ior, 1), some (.istore_n 1, 1), some (.iinc 2 1, 3)],
  [none, none, some (.goto (-30), 3), none, none, some (.iload_n 1, 1), some (.ireturn, 1)]]
def mt_Fl_areMovers : List (List (Option (Instr × Nat))) := [
  [some (.iload_n 1, 1), some (.aload_n 0, 1), some (.invokevirtual 61, 3), none, none, some (.iconst (-1), 1), some (.ixor, 1), some (.iand, 1), some (.ifCond .ne 7, 3), none, none, some (.iconst 1, 1), some (.goto 4, 3), none, none, some (.iconst 0, 1)],
  [some (.ireturn, 1)]]
def mt_Fl_isRound : List (List (Option (Instr × Nat))) := [
  [some (.iload_n 1, 1), some (.ifCond .eq 24, 3), none, none, some (.aload_n 0, 1), some (.iload_n 1, 1), some (.invokevirtual 65, 3), none, none, some (.ifCond .eq 16, 3), none, none, some (.iload_n 1, 1), some (.aload_n 0, 1), some (.getfield 38, 3), none],
  [none, some (.iand, 1), some (.ifCond .ne 7, 3), none, none, some (.iconst 1, 1), some (.goto 4, 3), none, none, some (.iconst 0, 1), some (.ireturn, 1)]]
def mt_Fl_turnRound : List (List (Option (Instr × Nat))) := [
  [some (.aload_n 0, 1), some (.getfield 44, 3), none, none, some (.aload_n 0, 1), some (.getfield 18, 3), none, none, some (.arraylength, 1), some (.invokestatic 50, 3), none, none, some (.ifCond .eq 43, 3), none, none, some (.aload_n 0, 1)],
  [some (.getfield 18, 3), none, none, some (.aload_n 0, 1), some (.getfield 44, 3), none, none, some (.iload_n 1, 1), some (.iastore, 1), some (.aload_n 0, 1), some (.dup, 1), some (.getfield 44, 3), none, none, some (.iconst 1, 1), some (.iadd, 1)],
  [some (.putfield 44, 3), none, none, some (.aload_n 0, 1), some (.dup, 1), some (.getfield 47, 3), none, none, some (.iconst 1, 1), some (.iadd, 1), some (.putfield 47, 3), none, none, some (.aload_n 0, 1), some (.dup, 1), some (.getfield 38, 3)],
  [none, none, some (.iload_n 1, 1), some (.ior, 1), some (.putfield 38, 3), none, none, some (.return_, 1)]]
def mt_Fl_takeBack : List (List (Option (Instr × Nat))) := [
  [some (.aload_n 0, 1), some (.getfield 44, 3), none, none, some (.iconst 1, 1), some (.isub, 1), some (.istore_n 1, 1), some (.iload_n 1, 1), some (.aload_n 0, 1), some (.getfield 18, 3), none, none, some (.arraylength, 1), some (.invokestatic 50, 3), none, none],
  [some (.ifCond .eq 35, 3), none, none, some (.aload_n 0, 1), some (.dup, 1), some (.getfield 38, 3), none, none, some (.aload_n 0, 1), some (.getfield 18, 3), none, none, some (.iload_n 1, 1), some (.iaload, 1), some (.iconst (-1), 1), some (.ixor, 1)],
  [some (.iand, 1), some (.putfield 38, 3), none, none, some (.aload_n 0, 1), some (.iload_n 1, 1), some (.putfield 44, 3), none, none, some (.aload_n 0, 1), some (.dup, 1), some (.getfield 47, 3), none, none, some (.iconst 1, 1), some (.iadd, 1)],
  [some (.putfield 47, 3), none, none, some (.return_, 1)]]
def mt_Ju_init : List (List (Option (Instr × Nat))) := [
  [some (.aload_n 0, 1), some (.invokespecial 3, 3), none, none, some (.aload_n 0, 1), some (.aload_n 1, 1), some (.putfield 9, 3), none, none, some (.aload_n 0, 1), some (.new 15, 3), none, none, some (.dup, 1), some (.invokespecial 17, 3), none],
  [none, some (.putfield 18, 3), none, none, some (.aload_n 0, 1), some (.bipush 64, 2), none, some (.newarray .int, 2), none, some (.putfield 22, 3), none, none, some (.return_, 1)]]
def mt_Ju_weigh : List (List (Option (Instr × Nat))) := [
  [some (.iconst 0, 1), some (.istore_n 3, 1), some (.iload_n 3, 1), some (.bipush 64, 2), none, some (.if_icmp .ge 16, 3), none, none, some (.aload_n 0, 1), some (.getfield 22, 3), none, none, some (.iload_n 3, 1), some (.iconst 0, 1), some (.iastore, 1), some (.iinc 3 1, 3)],
  [none, none, some (.goto (-16), 3), none, none, some (.iconst 0, 1), some (.istore_n 3, 1), some (.iload_n 3, 1), some (.iconst 3, 1), some (.if_icmp .ge 75, 3), none, none, some (.aload_n 0, 1), some (.getfield 9, 3), none, none],
  [some (.iload_n 3, 1), some (.invokevirtual 26, 3), none, none, some (.astore 4, 2), none, some (.aload 4, 2), none, some (.ifnull 54, 3), none, none, some (.iload_n 1, 1), some (.iconst 1, 1), some (.iload_n 3, 1), some (.ishl, 1), some (.iand, 1)],
  [some (.ifCond .ne 46, 3), none, none, some (.aload_n 0, 1), some (.getfield 18, 3), none, none, some (.aload_n 0, 1), some (.getfield 9, 3), none, none, some (.aload 4, 2), none, some (.iload_n 2, 1), some (.iconst 1, 1), some (.iload_n 3, 1)],
  [some (.ishl, 1), some (.iand, 1), some (.ifCond .eq 11, 3), none, none, some (.aload 4, 2), none, some (.invokevirtual 32, 3), none, none, some (.goto 8, 3), none, none, some (.aload 4, 2), none, some (.getfield 38, 3)],
  [none, none, some (.invokevirtual 42, 3), none, none, some (.aload_n 0, 1), some (.aload 4, 2), none, some (.getfield 46, 3), none, none, some (.invokevirtual 49, 3), none, none, some (.iinc 3 1, 3), none],
  [none, some (.goto (-74), 3), none, none, some (.return_, 1)]]
def mt_Ju_addPath : List (List (Option (Instr × Nat))) := [
  [some (.iconst 0, 1), some (.istore_n 2, 1), some (.iload_n 2, 1), some (.bipush 8, 2), none, some (.if_icmp .ge 45, 3), none, none, some (.aload_n 0, 1), some (.getfield 18, 3), none, none, some (.getfield 53, 3), none, none, some (.iload_n 2, 1)],
  [some (.iaload, 1), some (.istore_n 3, 1), some (.aload_n 0, 1), some (.getfield 9, 3), none, none, some (.iload_n 3, 1), some (.invokevirtual 56, 3), none, none, some (.ifCond .eq 18, 3), none, none, some (.aload_n 0, 1), some (.getfield 22, 3), none],
  [none, some (.iload_n 2, 1), some (.bipush 8, 2), none, some (.imul, 1), some (.iload_n 3, 1), some (.iadd, 1), some (.dup2, 1), some (.iaload, 1), some (.iload_n 1, 1), some (.iadd, 1), some (.iastore, 1), some (.iinc 2 1, 3), none, none, some (.goto (-45), 3)],
  [none, none, some (.return_, 1)]]
def mt_Ju_weightAt : List (List (Option (Instr × Nat))) := [
  [some (.aload_n 0, 1), some (.getfield 9, 3), none, none, some (.iload_n 1, 1), some (.invokevirtual 56, 3), none, none, some (.ifCond .eq 28, 3), none, none, some (.aload_n 0, 1), some (.getfield 9, 3), none, none, some (.iload_n 2, 1)],
  [some (.invokevirtual 56, 3), none, none, some (.ifCond .eq 17, 3), none, none, some (.aload_n 0, 1), some (.getfield 22, 3), none, none, some (.iload_n 1, 1), some (.bipush 8, 2), none, some (.imul, 1), some (.iload_n 2, 1), some (.iadd, 1)],
  [some (.iaload, 1), some (.goto 4, 3), none, none, some (.iconst 0, 1), some (.ireturn, 1)]]
def mt_Ju_whatHolds : List (List (Option (Instr × Nat))) := [
  [some (.aload_n 0, 1), some (.getfield 18, 3), none, none, some (.aload_n 0, 1), some (.getfield 9, 3), none, none, some (.aload_n 1, 1), some (.iload_n 2, 1), some (.invokevirtual 42, 3), none, none, some (.iconst 0, 1), some (.istore_n 3, 1), some (.aload_n 0, 1)],
  [some (.getfield 18, 3), none, none, some (.getfield 60, 3), none, none, some (.ifCond .eq 7, 3), none, none, some (.iload_n 3, 1), some (.iconst 1, 1), some (.ior, 1), some (.istore_n 3, 1), some (.aload_n 0, 1), some (.aload_n 1, 1), some (.iload_n 2, 1)],
  [some (.invokevirtual 64, 3), none, none, some (.ifCond .eq 7, 3), none, none, some (.iload_n 3, 1), some (.iconst 2, 1), some (.ior, 1), some (.istore_n 3, 1), some (.aload_n 1, 1), some (.getfield 68, 3), none, none, some (.iconst (-1), 1), some (.if_icmp .eq 20, 3)],
  [none, none, some (.aload_n 0, 1), some (.getfield 18, 3), none, none, some (.getfield 71, 3), none, none, some (.iconst 1, 1), some (.aload_n 1, 1), some (.getfield 68, 3), none, none, some (.ishl, 1), some (.iand, 1)],
  [some (.ifCond .eq 7, 3), none, none, some (.iload_n 3, 1), some (.iconst 4, 1), some (.ior, 1), some (.istore_n 3, 1), some (.aload_n 0, 1), some (.aload_n 1, 1), some (.getfield 46, 3), none, none, some (.invokevirtual 74, 3), none, none, some (.ifCond .eq 8, 3)],
  [none, none, some (.iload_n 3, 1), some (.bipush 8, 2), none, some (.ior, 1), some (.istore_n 3, 1), some (.iload_n 3, 1), some (.ireturn, 1)]]
def mt_Ju_isRingless : List (List (Option (Instr × Nat))) := [
  [some (.iconst 0, 1), some (.istore_n 3, 1), some (.iconst 0, 1), some (.istore 4, 2), none, some (.iload 4, 2), none, some (.bipush 8, 2), none, some (.if_icmp .ge 82, 3), none, none, some (.iconst 0, 1), some (.istore 5, 2), none, some (.iload 4, 2)],
  [none, some (.istore 6, 2), none, some (.iconst 0, 1), some (.istore 7, 2), none, some (.iload 7, 2), none, some (.bipush 8, 2), none, some (.if_icmp .gt 54, 3), none, none, some (.iload 6, 2), none, some (.iconst (-1), 1)],
  [some (.if_icmp .eq 48, 3), none, none, some (.iload_n 3, 1), some (.iconst 1, 1), some (.iload 6, 2), none, some (.ishl, 1), some (.iand, 1), some (.ifCond .ne 39, 3), none, none, some (.iload 5, 2), none, some (.iconst 1, 1), some (.iload 6, 2)],
  [none, some (.ishl, 1), some (.iand, 1), some (.ifCond .eq 5, 3), none, none, some (.iconst 0, 1), some (.ireturn, 1), some (.iload 5, 2), none, some (.iconst 1, 1), some (.iload 6, 2), none, some (.ishl, 1), some (.ior, 1), some (.istore 5, 2)],
  [none, some (.aload_n 1, 1), some (.iload 6, 2), none, some (.iload_n 2, 1), some (.invokevirtual 77, 3), none, none, some (.istore 6, 2), none, some (.iinc 7 1, 3), none, none, some (.goto (-55), 3), none, none],
  [some (.iload_n 3, 1), some (.iload 5, 2), none, some (.ior, 1), some (.istore_n 3, 1), some (.iinc 4 1, 3), none, none, some (.goto (-83), 3), none, none, some (.iconst 1, 1), some (.ireturn, 1)]]
def mt_Ju_pathHasRoom : List (List (Option (Instr × Nat))) := [
  [some (.iconst 0, 1), some (.istore_n 2, 1), some (.iload_n 2, 1), some (.bipush 8, 2), none, some (.if_icmp .ge 46, 3), none, none, some (.aload_n 0, 1), some (.getfield 18, 3), none, none, some (.getfield 53, 3), none, none, some (.iload_n 2, 1)],
  [some (.iaload, 1), some (.istore_n 3, 1), some (.iload_n 3, 1), some (.iconst (-1), 1), some (.if_icmp .eq 25, 3), none, none, some (.iload_n 1, 1), some (.aload_n 0, 1), some (.iload_n 2, 1), some (.iload_n 3, 1), some (.invokevirtual 81, 3), none, none, some (.iadd, 1), some (.aload_n 0, 1)],
  [some (.getfield 9, 3), none, none, some (.iload_n 2, 1), some (.iload_n 3, 1), some (.invokevirtual 84, 3), none, none, some (.if_icmp .le 5, 3), none, none, some (.iconst 0, 1), some (.ireturn, 1), some (.iinc 2 1, 3), none, none],
  [some (.goto (-46), 3), none, none, some (.iconst 1, 1), some (.ireturn, 1)]]
def mt_Ju_firstUnsound : List (List (Option (Instr × Nat))) := [
  [some (.aload_n 0, 1), some (.getfield 9, 3), none, none, some (.iload_n 1, 1), some (.invokevirtual 26, 3), none, none, some (.astore_n 3, 1), some (.aload_n 3, 1), some (.ifnonnull 5, 3), none, none, some (.iconst (-1), 1), some (.ireturn, 1), some (.aload_n 0, 1)],
  [some (.iconst 1, 1), some (.iload_n 1, 1), some (.ishl, 1), some (.iconst 0, 1), some (.invokevirtual 87, 3), none, none, some (.iconst 0, 1), some (.istore 4, 2), none, some (.iconst 0, 1), some (.istore 5, 2), none, some (.iload 5, 2), none, some (.sipush 256, 3)],
  [none, none, some (.if_icmp .ge 50, 3), none, none, some (.aload_n 0, 1), some (.aload_n 3, 1), some (.aload_n 3, 1), some (.getfield 38, 3), none, none, some (.iload 4, 2), none, some (.ior, 1), some (.invokevirtual 91, 3), none],
  [none, some (.iconst (-1), 1), some (.if_icmp .eq 11, 3), none, none, some (.aload_n 3, 1), some (.getfield 38, 3), none, none, some (.iload 4, 2), none, some (.ior, 1), some (.ireturn, 1), some (.iload 4, 2), none, some (.iload_n 2, 1)],
  [some (.if_icmp .ne 6, 3), none, none, some (.goto 17, 3), none, none, some (.iload 4, 2), none, some (.iload_n 2, 1), some (.isub, 1), some (.iload_n 2, 1), some (.iand, 1), some (.istore 4, 2), none, some (.iinc 5 1, 3), none],
  [none, some (.goto (-52), 3), none, none, some (.iconst (-1), 1), some (.ireturn, 1)]]
def mt_Ju_firstMissing : List (List (Option (Instr × Nat))) := [
  [some (.aload_n 0, 1), some (.getfield 9, 3), none, none, some (.getfield 95, 3), none, none, some (.aload_n 0, 1), some (.aload_n 1, 1), some (.iload_n 2, 1), some (.invokevirtual 98, 3), none, none, some (.iconst (-1), 1), some (.ixor, 1), some (.iand, 1)],
  [some (.istore_n 3, 1), some (.iconst 0, 1), some (.istore 4, 2), none, some (.iload 4, 2), none, some (.iconst 4, 1), some (.if_icmp .ge 21, 3), none, none, some (.iload_n 3, 1), some (.iconst 1, 1), some (.iload 4, 2), none, some (.ishl, 1), some (.iand, 1)],
  [some (.ifCond .eq 6, 3), none, none, some (.iload 4, 2), none, some (.ireturn, 1), some (.iinc 4 1, 3), none, none, some (.goto (-21), 3), none, none, some (.iconst (-1), 1), some (.ireturn, 1)]]
def mt_Le_init : List (List (Option (Instr × Nat))) := [
  [some (.aload_n 0, 1), some (.invokespecial 1, 3), none, none, some (.return_, 1)]]
def mt_Le_isMixed : List (List (Option (Instr × Nat))) := [
  [some (.aload_n 0, 1), some (.getfield 7, 3), none, none, some (.ifCond .eq 14, 3), none, none, some (.aload_n 0, 1), some (.getfield 13, 3), none, none, some (.ifCond .eq 7, 3), none, none, some (.iconst 1, 1), some (.goto 4, 3)],
  [none, none, some (.iconst 0, 1), some (.ireturn, 1)]]
def mt_Ma_init : List (List (Option (Instr × Nat))) := [
  [some (.aload_n 0, 1), some (.invokespecial 3, 3), none, none, some (.aload_n 0, 1), some (.aload_n 1, 1), some (.putfield 9, 3), none, none, some (.aload_n 0, 1), some (.bipush 12, 2), none, some (.anewarray 15, 3), none, none, some (.putfield 17, 3)],
  [none, none, some (.iconst 0, 1), some (.istore_n 2, 1), some (.iload_n 2, 1), some (.bipush 12, 2), none, some (.if_icmp .ge 22, 3), none, none, some (.aload_n 0, 1), some (.getfield 17, 3), none, none, some (.iload_n 2, 1), some (.new 15, 3)],
  [none, none, some (.dup, 1), some (.invokespecial 21, 3), none, none, some (.aastore, 1), some (.iinc 2 1, 3), none, none, some (.goto (-22), 3), none, none, some (.return_, 1)]]
def mt_Ma_forgetAll : List (List (Option (Instr × Nat))) := [
  [some (.aload_n 0, 1), some (.iconst 0, 1), some (.putfield 22, 3), none, none, some (.aload_n 0, 1), some (.iconst 0, 1), some (.putfield 26, 3), none, none, some (.aload_n 0, 1), some (.iconst 0, 1), some (.putfield 29, 3), none, none, some (.aload_n 0, 1)],
  [some (.iconst 0, 1), some (.putfield 32, 3), none, none, some (.aload_n 0, 1), some (.iconst 0, 1), some (.putfield 35, 3), none, none, some (.return_, 1)]]
def mt_Ma_letterAt : List (List (Option (Instr × Nat))) := [
  [some (.iload_n 1, 1), some (.aload_n 0, 1), some (.getfield 22, 3), none, none, some (.if_icmp .ge 24, 3), none, none, some (.iload_n 1, 1), some (.aload_n 0, 1), some (.getfield 17, 3), none, none, some (.arraylength, 1), some (.invokestatic 38, 3), none],
  [none, some (.ifCond .eq 12, 3), none, none, some (.aload_n 0, 1), some (.getfield 17, 3), none, none, some (.iload_n 1, 1), some (.aaload, 1), some (.goto 4, 3), none, none, some (.aconst_null, 1), some (.areturn, 1)]]
def mt_Ma_post : List (List (Option (Instr × Nat))) := [
  [some (.aload_n 0, 1), some (.getfield 9, 3), none, none, some (.iload_n 1, 1), some (.invokevirtual 42, 3), none, none, some (.astore_n 2, 1), some (.aload_n 2, 1), some (.ifnull 18, 3), none, none, some (.aload_n 0, 1), some (.getfield 22, 3), none],
  [none, some (.aload_n 0, 1), some (.getfield 17, 3), none, none, some (.arraylength, 1), some (.invokestatic 38, 3), none, none, some (.ifCond .ne 5, 3), none, none, some (.iconst 0, 1), some (.ireturn, 1), some (.aload_n 0, 1), some (.getfield 17, 3)],
  [none, none, some (.aload_n 0, 1), some (.getfield 22, 3), none, none, some (.aaload, 1), some (.astore_n 3, 1), some (.aload_n 3, 1), some (.iload_n 1, 1), some (.putfield 48, 3), none, none, some (.aload_n 3, 1), some (.aload_n 2, 1), some (.getfield 51, 3)],
  [none, none, some (.putfield 56, 3), none, none, some (.aload_n 3, 1), some (.iconst 0, 1), some (.putfield 59, 3), none, none, some (.aload_n 3, 1), some (.iconst 1, 1), some (.aload_n 2, 1), some (.getfield 51, 3), none, none],
  [some (.ishl, 1), some (.putfield 62, 3), none, none, some (.aload_n 3, 1), some (.aload_n 2, 1), some (.getfield 65, 3), none, none, some (.putfield 68, 3), none, none, some (.aload_n 3, 1), some (.aload_n 2, 1), some (.getfield 71, 3), none],
  [none, some (.iconst 2, 1), some (.if_icmp .ne 7, 3), none, none, some (.iconst 1, 1), some (.goto 4, 3), none, none, some (.iconst 0, 1), some (.putfield 74, 3), none, none, some (.aload_n 3, 1), some (.iconst 0, 1), some (.putfield 78, 3)],
  [none, none, some (.aload_n 3, 1), some (.iconst 0, 1), some (.putfield 81, 3), none, none, some (.aload_n 0, 1), some (.dup, 1), some (.getfield 22, 3), none, none, some (.iconst 1, 1), some (.iadd, 1), some (.putfield 22, 3), none],
  [none, some (.iconst 1, 1), some (.ireturn, 1)]]
def mt_Ma_staleness : List (List (Option (Instr × Nat))) := [
  [some (.aload_n 0, 1), some (.getfield 9, 3), none, none, some (.aload_n 1, 1), some (.getfield 48, 3), none, none, some (.invokevirtual 42, 3), none, none, some (.astore_n 2, 1), some (.aload_n 2, 1), some (.ifnonnull 7, 3), none, none],
  [some (.iconst 0, 1), some (.goto 12, 3), none, none, some (.aload_n 2, 1), some (.getfield 65, 3), none, none, some (.aload_n 1, 1), some (.getfield 68, 3), none, none, some (.isub, 1), some (.ireturn, 1)]]
def mt_Ma_hasStale : List (List (Option (Instr × Nat))) := [
  [some (.iconst 0, 1), some (.istore_n 2, 1), some (.iload_n 2, 1), some (.aload_n 0, 1), some (.getfield 22, 3), none, none, some (.if_icmp .ge 43, 3), none, none, some (.iload_n 2, 1), some (.bipush 12, 2), none, some (.if_icmp .ge 37, 3), none, none],
  [some (.aload_n 0, 1), some (.getfield 17, 3), none, none, some (.iload_n 2, 1), some (.aaload, 1), some (.getfield 48, 3), none, none, some (.iload_n 1, 1), some (.if_icmp .ne 18, 3), none, none, some (.aload_n 0, 1), some (.aload_n 0, 1), some (.getfield 17, 3)],
  [none, none, some (.iload_n 2, 1), some (.aaload, 1), some (.invokevirtual 84, 3), none, none, some (.ifCond .le 5, 3), none, none, some (.iconst 1, 1), some (.ireturn, 1), some (.iinc 2 1, 3), none, none, some (.goto (-45), 3)],
  [none, none, some (.iconst 0, 1), some (.ireturn, 1)]]
def mt_Ma_countOf : List (List (Option (Instr × Nat))) := [
  [some (.iconst 0, 1), some (.istore_n 3, 1), some (.iconst 0, 1), some (.istore 4, 2), none, some (.iload 4, 2), none, some (.aload_n 0, 1), some (.getfield 22, 3), none, none, some (.if_icmp .ge 47, 3), none, none, some (.iload 4, 2), none],
  [some (.bipush 12, 2), none, some (.if_icmp .ge 40, 3), none, none, some (.aload_n 0, 1), some (.getfield 17, 3), none, none, some (.iload 4, 2), none, some (.aaload, 1), some (.getfield 48, 3), none, none, some (.iload_n 1, 1)],
  [some (.if_icmp .ne 20, 3), none, none, some (.aload_n 0, 1), some (.getfield 17, 3), none, none, some (.iload 4, 2), none, some (.aaload, 1), some (.getfield 74, 3), none, none, some (.iload_n 2, 1), some (.if_icmp .ne 6, 3), none],
  [none, some (.iinc 3 1, 3), none, none, some (.iinc 4 1, 3), none, none, some (.goto (-50), 3), none, none, some (.iload_n 3, 1), some (.ireturn, 1)]]
def mt_Ma_hopAll : List (List (Option (Instr × Nat))) := [
  [some (.iconst 0, 1), some (.istore_n 1, 1), some (.iconst 0, 1), some (.istore_n 2, 1), some (.iconst 0, 1), some (.istore_n 3, 1), some (.iload_n 3, 1), some (.aload_n 0, 1), some (.getfield 22, 3), none, none, some (.if_icmp .ge 90, 3), none, none, some (.iload_n 3, 1), some (.bipush 12, 2)],
  [none, some (.if_icmp .ge 84, 3), none, none, some (.aload_n 0, 1), some (.getfield 17, 3), none, none, some (.iload_n 3, 1), some (.aaload, 1), some (.astore 4, 2), none, some (.aload_n 0, 1), some (.aload 4, 2), none, some (.invokevirtual 88, 3)],
  [none, none, some (.istore 5, 2), none, some (.iload 5, 2), none, some (.ifCond .ne 29, 3), none, none, some (.aload_n 0, 1), some (.getfield 17, 3), none, none, some (.iload_n 3, 1), some (.aload_n 0, 1), some (.getfield 17, 3)],
  [none, none, some (.iload_n 1, 1), some (.aaload, 1), some (.aastore, 1), some (.aload_n 0, 1), some (.getfield 17, 3), none, none, some (.iload_n 1, 1), some (.aload 4, 2), none, some (.aastore, 1), some (.iinc 1 1, 3), none, none],
  [some (.goto 31, 3), none, none, some (.iload 5, 2), none, some (.iconst 1, 1), some (.if_icmp .ne 15, 3), none, none, some (.iinc 2 1, 3), none, none, some (.aload_n 0, 1), some (.aload 4, 2), none, some (.invokevirtual 91, 3)],
  [none, none, some (.goto 13, 3), none, none, some (.aload_n 0, 1), some (.dup, 1), some (.getfield 35, 3), none, none, some (.iconst 1, 1), some (.iadd, 1), some (.putfield 35, 3), none, none, some (.iinc 3 1, 3)],
  [none, none, some (.goto (-92), 3), none, none, some (.aload_n 0, 1), some (.iload_n 1, 1), some (.putfield 22, 3), none, none, some (.iload_n 2, 1), some (.ireturn, 1)]]
def mt_Ma_hop : List (List (Option (Instr × Nat))) := [
  [some (.aload_n 0, 1), some (.getfield 9, 3), none, none, some (.aload_n 1, 1), some (.getfield 48, 3), none, none, some (.invokevirtual 42, 3), none, none, some (.astore_n 2, 1), some (.aload_n 2, 1), some (.ifnonnull 5, 3), none, none],
  [some (.iconst 2, 1), some (.ireturn, 1), some (.aload_n 1, 1), some (.getfield 74, 3), none, none, some (.ifCond .ne 17, 3), none, none, some (.aload_n 2, 1), some (.getfield 95, 3), none, none, some (.iconst 1, 1), some (.aload_n 1, 1), some (.getfield 56, 3)],
  [none, none, some (.ishl, 1), some (.iand, 1), some (.ifCond .eq 7, 3), none, none, some (.iconst 1, 1), some (.goto 4, 3), none, none, some (.iconst 0, 1), some (.istore_n 3, 1), some (.iload_n 3, 1), some (.ifCond .eq 14, 3), none],
  [none, some (.aload_n 2, 1), some (.aload_n 1, 1), some (.getfield 56, 3), none, none, some (.invokevirtual 98, 3), none, none, some (.goto 11, 3), none, none, some (.aload_n 2, 1), some (.aload_n 1, 1), some (.getfield 56, 3), none],
  [none, some (.invokevirtual 102, 3), none, none, some (.istore 4, 2), none, some (.aload_n 0, 1), some (.getfield 9, 3), none, none, some (.aload_n 1, 1), some (.getfield 56, 3), none, none, some (.iload 4, 2), none],
  [some (.invokevirtual 105, 3), none, none, some (.ifCond .ne 5, 3), none, none, some (.iconst 2, 1), some (.ireturn, 1), some (.aload_n 2, 1), some (.aload_n 1, 1), some (.getfield 56, 3), none, none, some (.invokevirtual 109, 3), none, none],
  [some (.ifCond .eq 31, 3), none, none, some (.aload_n 1, 1), some (.dup, 1), some (.getfield 78, 3), none, none, some (.iload_n 3, 1), some (.ifCond .ne 7, 3), none, none, some (.iconst 1, 1), some (.goto 4, 3), none, none],
  [some (.iconst 0, 1), some (.ior, 1), some (.putfield 78, 3), none, none, some (.aload_n 1, 1), some (.dup, 1), some (.getfield 81, 3), none, none, some (.iload_n 3, 1), some (.ior, 1), some (.putfield 81, 3), none, none, some (.aload_n 1, 1)],
  [some (.iload 4, 2), none, some (.putfield 56, 3), none, none, some (.aload_n 1, 1), some (.dup, 1), some (.getfield 62, 3), none, none, some (.iconst 1, 1), some (.iload 4, 2), none, some (.ishl, 1), some (.ior, 1), some (.putfield 62, 3)],
  [none, none, some (.aload_n 1, 1), some (.dup, 1), some (.getfield 59, 3), none, none, some (.iconst 1, 1), some (.iadd, 1), some (.putfield 59, 3), none, none, some (.iload 4, 2), none, some (.aload_n 2, 1), some (.getfield 113, 3)],
  [none, none, some (.if_icmp .ne 5, 3), none, none, some (.iconst 1, 1), some (.ireturn, 1), some (.aload_n 1, 1), some (.getfield 59, 3), none, none, some (.bipush 20, 2), none, some (.if_icmp .lt 7, 3), none, none],
  [some (.iconst 2, 1), some (.goto 4, 3), none, none, some (.iconst 0, 1), some (.ireturn, 1)]]
def mt_Ma_noteArrival : List (List (Option (Instr × Nat))) := [
  [some (.aload_n 0, 1), some (.dup, 1), some (.getfield 26, 3), none, none, some (.iconst 1, 1), some (.iadd, 1), some (.putfield 26, 3), none, none, some (.aload_n 0, 1), some (.getfield 9, 3), none, none, some (.aload_n 1, 1), some (.getfield 48, 3)],
  [none, none, some (.invokevirtual 42, 3), none, none, some (.astore_n 2, 1), some (.aload_n 2, 1), some (.ifnull 35, 3), none, none, some (.aload_n 2, 1), some (.getfield 116, 3), none, none, some (.iconst (-1), 1), some (.if_icmp .eq 27, 3)],
  [none, none, some (.aload_n 1, 1), some (.getfield 62, 3), none, none, some (.iconst 1, 1), some (.aload_n 2, 1), some (.getfield 116, 3), none, none, some (.ishl, 1), some (.iand, 1), some (.ifCond .ne 13, 3), none, none],
  [some (.aload_n 0, 1), some (.dup, 1), some (.getfield 29, 3), none, none, some (.iconst 1, 1), some (.iadd, 1), some (.putfield 29, 3), none, none, some (.aload_n 1, 1), some (.invokevirtual 119, 3), none, none, some (.ifCond .eq 13, 3), none],
  [none, some (.aload_n 0, 1), some (.dup, 1), some (.getfield 32, 3), none, none, some (.iconst 1, 1), some (.iadd, 1), some (.putfield 32, 3), none, none, some (.return_, 1)]]
def mt_Ne_init : List (List (Option (Instr × Nat))) := [
  [some (.aload_n 0, 1), some (.invokespecial 3, 3), none, none, some (.aload_n 0, 1), some (.bipush 15, 2), none, some (.putfield 9, 3), none, none, some (.aload_n 0, 1), some (.bipush 6, 2), none, some (.putfield 15, 3), none, none],
  [some (.aload_n 0, 1), some (.iconst 2, 1), some (.putfield 18, 3), none, none, some (.aload_n 0, 1), some (.bipush 64, 2), none, some (.newarray .int, 2), none, some (.putfield 21, 3), none, none, some (.aload_n 0, 1), some (.iconst 3, 1), some (.anewarray 25, 3)],
  [none, none, some (.putfield 27, 3), none, none, some (.iconst 0, 1), some (.istore_n 1, 1), some (.iload_n 1, 1), some (.iconst 3, 1), some (.if_icmp .ge 22, 3), none, none, some (.aload_n 0, 1), some (.getfield 27, 3), none, none],
  [some (.iload_n 1, 1), some (.new 25, 3), none, none, some (.dup, 1), some (.invokespecial 31, 3), none, none, some (.aastore, 1), some (.iinc 1 1, 3), none, none, some (.goto (-21), 3), none, none, some (.return_, 1)]]
def mt_Ne_startAnew : List (List (Option (Instr × Nat))) := [
  [some (.aload_n 0, 1), some (.iload_n 1, 1), some (.putfield 18, 3), none, none, some (.iconst 0, 1), some (.istore_n 2, 1), some (.iload_n 2, 1), some (.bipush 64, 2), none, some (.if_icmp .ge 16, 3), none, none, some (.aload_n 0, 1), some (.getfield 21, 3), none],
  [none, some (.iload_n 2, 1), some (.iconst 0, 1), some (.iastore, 1), some (.iinc 2 1, 3), none, none, some (.goto (-16), 3), none, none, some (.iconst 0, 1), some (.istore_n 2, 1), some (.iload_n 2, 1), some (.iconst 3, 1), some (.if_icmp .ge 21, 3), none],
  [none, some (.aload_n 0, 1), some (.getfield 27, 3), none, none, some (.iload_n 2, 1), some (.aaload, 1), some (.iconst 0, 1), some (.iconst 1, 1), some (.iconst 1, 1), some (.invokevirtual 32, 3), none, none, some (.iinc 2 1, 3), none, none],
  [some (.goto (-20), 3), none, none, some (.return_, 1)]]
def mt_Ne_calmFlows : List (List (Option (Instr × Nat))) := [
  [some (.iconst 0, 1), some (.istore_n 1, 1), some (.iload_n 1, 1), some (.iconst 3, 1), some (.if_icmp .ge 18, 3), none, none, some (.aload_n 0, 1), some (.getfield 27, 3), none, none, some (.iload_n 1, 1), some (.aaload, 1), some (.invokevirtual 36, 3), none, none],
  [some (.iinc 1 1, 3), none, none, some (.goto (-17), 3), none, none, some (.return_, 1)]]
def mt_Ne_isNode : List (List (Option (Instr × Nat))) := [
  [some (.iload_n 1, 1), some (.ifCond .lt 21, 3), none, none, some (.iload_n 1, 1), some (.aload_n 0, 1), some (.getfield 18, 3), none, none, some (.if_icmp .ge 13, 3), none, none, some (.iload_n 1, 1), some (.bipush 8, 2), none, some (.if_icmp .ge 7, 3)],
  [none, none, some (.iconst 1, 1), some (.goto 4, 3), none, none, some (.iconst 0, 1), some (.ireturn, 1)]]
def mt_Ne_flowAt : List (List (Option (Instr × Nat))) := [
  [some (.iload_n 1, 1), some (.aload_n 0, 1), some (.getfield 27, 3), none, none, some (.arraylength, 1), some (.invokestatic 39, 3), none, none, some (.ifCond .eq 12, 3), none, none, some (.aload_n 0, 1), some (.getfield 27, 3), none, none],
  [some (.iload_n 1, 1), some (.aaload, 1), some (.goto 4, 3), none, none, some (.aconst_null, 1), some (.areturn, 1)]]
def mt_Ne_roomAt : List (List (Option (Instr × Nat))) := [
  [some (.aload_n 0, 1), some (.iload_n 1, 1), some (.invokevirtual 43, 3), none, none, some (.ifCond .eq 25, 3), none, none, some (.aload_n 0, 1), some (.iload_n 2, 1), some (.invokevirtual 43, 3), none, none, some (.ifCond .eq 17, 3), none, none],
  [some (.aload_n 0, 1), some (.getfield 21, 3), none, none, some (.iload_n 1, 1), some (.bipush 8, 2), none, some (.imul, 1), some (.iload_n 2, 1), some (.iadd, 1), some (.iaload, 1), some (.goto 4, 3), none, none, some (.iconst 0, 1), some (.ireturn, 1)]]
def mt_Ne_setRoom : List (List (Option (Instr × Nat))) := [
  [some (.aload_n 0, 1), some (.iload_n 1, 1), some (.invokevirtual 43, 3), none, none, some (.ifCond .eq 23, 3), none, none, some (.aload_n 0, 1), some (.iload_n 2, 1), some (.invokevirtual 43, 3), none, none, some (.ifCond .eq 15, 3), none, none],
  [some (.aload_n 0, 1), some (.getfield 21, 3), none, none, some (.iload_n 1, 1), some (.bipush 8, 2), none, some (.imul, 1), some (.iload_n 2, 1), some (.iadd, 1), some (.iload_n 3, 1), some (.iastore, 1), some (.return_, 1)]]
def mt_Ne_linkCount : List (List (Option (Instr × Nat))) := [
  [some (.iconst 0, 1), some (.istore_n 1, 1), some (.iconst 0, 1), some (.istore_n 2, 1), some (.iload_n 2, 1), some (.bipush 64, 2), none, some (.if_icmp .ge 21, 3), none, none, some (.aload_n 0, 1), some (.getfield 21, 3), none, none, some (.iload_n 2, 1), some (.iaload, 1)],
  [some (.ifCond .le 6, 3), none, none, some (.iinc 1 1, 3), none, none, some (.iinc 2 1, 3), none, none, some (.goto (-21), 3), none, none, some (.iload_n 1, 1), some (.ireturn, 1)]]
def mt_Ne_tableAt : List (List (Option (Instr × Nat))) := [
  [some (.iconst 0, 1), some (.istore_n 2, 1), some (.iconst 0, 1), some (.istore_n 3, 1), some (.iload_n 3, 1), some (.iconst 3, 1), some (.if_icmp .ge 56, 3), none, none, some (.aload_n 0, 1), some (.getfield 27, 3), none, none, some (.iload_n 3, 1), some (.aaload, 1), some (.astore 4, 2)],
  [none, some (.aload 4, 2), none, some (.iload_n 1, 1), some (.aload 4, 2), none, some (.getfield 47, 3), none, none, some (.invokevirtual 50, 3), none, none, some (.iconst (-1), 1), some (.if_icmp .eq 6, 3), none, none],
  [some (.iinc 2 1, 3), none, none, some (.aload 4, 2), none, some (.getfield 54, 3), none, none, some (.ifCond .eq 16, 3), none, none, some (.aload 4, 2), none, some (.iload_n 1, 1), some (.invokevirtual 57, 3), none],
  [none, some (.iconst (-1), 1), some (.if_icmp .eq 6, 3), none, none, some (.iinc 2 1, 3), none, none, some (.iinc 3 1, 3), none, none, some (.goto (-55), 3), none, none, some (.iload_n 2, 1), some (.ireturn, 1)]]
def mt_Ne_greatestTable : List (List (Option (Instr × Nat))) := [
  [some (.iconst 0, 1), some (.istore_n 1, 1), some (.iconst 0, 1), some (.istore_n 2, 1), some (.iload_n 2, 1), some (.aload_n 0, 1), some (.getfield 18, 3), none, none, some (.if_icmp .ge 19, 3), none, none, some (.iload_n 1, 1), some (.aload_n 0, 1), some (.iload_n 2, 1), some (.invokevirtual 61, 3)],
  [none, none, some (.invokestatic 64, 3), none, none, some (.istore_n 1, 1), some (.iinc 2 1, 3), none, none, some (.goto (-21), 3), none, none, some (.iload_n 1, 1), some (.ireturn, 1)]]
def mt_Pa_init : List (List (Option (Instr × Nat))) := [
  [some (.aload_n 0, 1), some (.invokespecial 3, 3), none, none, some (.aload_n 0, 1), some (.bipush 8, 2), none, some (.newarray .int, 2), none, some (.putfield 9, 3), none, none, some (.return_, 1)]]
def mt_Pa_follow : List (List (Option (Instr × Nat))) := [
  [some (.iconst 0, 1), some (.istore 4, 2), none, some (.iload 4, 2), none, some (.bipush 8, 2), none, some (.if_icmp .ge 17, 3), none, none, some (.aload_n 0, 1), some (.getfield 9, 3), none, none, some (.iload 4, 2), none],
  [some (.iconst (-1), 1), some (.iastore, 1), some (.iinc 4 1, 3), none, none, some (.goto (-18), 3), none, none, some (.aload_n 2, 1), some (.getfield 15, 3), none, none, some (.istore 4, 2), none, some (.aload_n 0, 1), some (.iconst 1, 1)],
  [some (.iload 4, 2), none, some (.ishl, 1), some (.putfield 21, 3), none, none, some (.iconst 0, 1), some (.istore 5, 2), none, some (.iload 5, 2), none, some (.bipush 8, 2), none, some (.if_icmp .ge 79, 3), none, none],
  [some (.aload_n 1, 1), some (.iload 4, 2), none, some (.invokevirtual 24, 3), none, none, some (.ifCond .eq 70, 3), none, none, some (.aload_n 2, 1), some (.iload 4, 2), none, some (.iload_n 3, 1), some (.invokevirtual 30, 3), none, none],
  [some (.istore 6, 2), none, some (.aload_n 1, 1), some (.iload 4, 2), none, some (.iload 6, 2), none, some (.invokevirtual 34, 3), none, none, some (.ifCond .eq 50, 3), none, none, some (.aload_n 0, 1), some (.getfield 21, 3), none],
  [none, some (.iconst 1, 1), some (.iload 6, 2), none, some (.ishl, 1), some (.iand, 1), some (.ifCond .eq 6, 3), none, none, some (.goto 35, 3), none, none, some (.aload_n 0, 1), some (.getfield 9, 3), none, none],
  [some (.iload 4, 2), none, some (.iload 6, 2), none, some (.iastore, 1), some (.aload_n 0, 1), some (.dup, 1), some (.getfield 21, 3), none, none, some (.iconst 1, 1), some (.iload 6, 2), none, some (.ishl, 1), some (.ior, 1), some (.putfield 21, 3)],
  [none, none, some (.iload 6, 2), none, some (.istore 4, 2), none, some (.iinc 5 1, 3), none, none, some (.goto (-80), 3), none, none, some (.aload_n 0, 1), some (.iload 4, 2), none, some (.putfield 37, 3)],
  [none, none, some (.aload_n 0, 1), some (.iload 4, 2), none, some (.aload_n 2, 1), some (.getfield 40, 3), none, none, some (.if_icmp .ne 7, 3), none, none, some (.iconst 1, 1), some (.goto 4, 3), none, none],
  [some (.iconst 0, 1), some (.putfield 43, 3), none, none, some (.return_, 1)]]
def mt_Pl_init : List (List (Option (Instr × Nat))) := [
  [some (.aload_n 0, 1), some (.invokespecial 3, 3), none, none, some (.aload_n 0, 1), some (.aload_n 1, 1), some (.putfield 9, 3), none, none, some (.aload_n 0, 1), some (.aload_n 2, 1), some (.putfield 15, 3), none, none, some (.aload_n 0, 1), some (.sipush 256, 3)],
  [none, none, some (.newarray .boolean, 2), none, some (.putfield 19, 3), none, none, some (.aload_n 0, 1), some (.sipush 256, 3), none, none, some (.newarray .boolean, 2), none, some (.putfield 23, 3), none, none],
  [some (.aload_n 0, 1), some (.sipush 256, 3), none, none, some (.newarray .int, 2), none, some (.putfield 26, 3), none, none, some (.aload_n 0, 1), some (.sipush 256, 3), none, none, some (.newarray .int, 2), none, some (.putfield 30, 3)],
  [none, none, some (.return_, 1)]]
def mt_Pl_findPlan : List (List (Option (Instr × Nat))) := [
  [some (.aload_n 0, 1), some (.getfield 9, 3), none, none, some (.iload_n 1, 1), some (.invokevirtual 33, 3), none, none, some (.astore_n 3, 1), some (.aload_n 3, 1), some (.ifnonnull 5, 3), none, none, some (.iconst 0, 1), some (.ireturn, 1), some (.aload_n 0, 1)],
  [some (.aload_n 3, 1), some (.getfield 39, 3), none, none, some (.putfield 45, 3), none, none, some (.aload_n 0, 1), some (.aload_n 3, 1), some (.invokevirtual 46, 3), none, none, some (.putfield 50, 3), none, none, some (.aload_n 0, 1)],
  [some (.getfield 15, 3), none, none, some (.iconst 1, 1), some (.iload_n 1, 1), some (.ishl, 1), some (.iload_n 2, 1), some (.invokevirtual 52, 3), none, none, some (.aload_n 0, 1), some (.getfield 50, 3), none, none, some (.aload_n 0, 1), some (.getfield 45, 3)],
  [none, none, some (.iconst (-1), 1), some (.ixor, 1), some (.iand, 1), some (.istore 4, 2), none, some (.iload 4, 2), none, some (.istore 5, 2), none, some (.iconst 0, 1), some (.istore 6, 2), none, some (.iload 6, 2), none],
  [some (.sipush 256, 3), none, none, some (.if_icmp .ge 38, 3), none, none, some (.aload_n 0, 1), some (.aload_n 3, 1), some (.aload_n 0, 1), some (.getfield 45, 3), none, none, some (.iload 5, 2), none, some (.ior, 1), some (.invokevirtual 58, 3)],
  [none, none, some (.iload 5, 2), none, some (.ifCond .ne 6, 3), none, none, some (.goto 18, 3), none, none, some (.iload 5, 2), none, some (.iconst 1, 1), some (.isub, 1), some (.iload 4, 2), none],
  [some (.iand, 1), some (.istore 5, 2), none, some (.iinc 6 1, 3), none, none, some (.goto (-40), 3), none, none, some (.aload_n 0, 1), some (.aload_n 0, 1), some (.getfield 45, 3), none, none, some (.invokevirtual 62, 3), none],
  [none, some (.iconst (-1), 1), some (.if_icmp .eq 7, 3), none, none, some (.iconst 1, 1), some (.goto 4, 3), none, none, some (.iconst 0, 1), some (.ireturn, 1)]]
def mt_Pl_settle : List (List (Option (Instr × Nat))) := [
  [some (.iload_n 2, 1), some (.sipush 256, 3), none, none, some (.invokestatic 66, 3), none, none, some (.ifCond .ne 4, 3), none, none, some (.return_, 1), some (.aload_n 0, 1), some (.getfield 19, 3), none, none, some (.iload_n 2, 1)],
  [some (.aload_n 0, 1), some (.getfield 9, 3), none, none, some (.getfield 70, 3), none, none, some (.aload_n 0, 1), some (.getfield 15, 3), none, none, some (.aload_n 1, 1), some (.iload_n 2, 1), some (.invokevirtual 73, 3), none, none],
  [some (.iconst (-1), 1), some (.ixor, 1), some (.iand, 1), some (.ifCond .ne 7, 3), none, none, some (.iconst 1, 1), some (.goto 4, 3), none, none, some (.iconst 0, 1), some (.bastore, 1), some (.aload_n 0, 1), some (.getfield 26, 3), none, none],
  [some (.iload_n 2, 1), some (.iload_n 2, 1), some (.aload_n 0, 1), some (.getfield 50, 3), none, none, some (.if_icmp .ne 7, 3), none, none, some (.iconst 0, 1), some (.goto 4, 3), none, none, some (.iconst (-1), 1), some (.iastore, 1), some (.aload_n 0, 1)],
  [some (.getfield 30, 3), none, none, some (.iload_n 2, 1), some (.iconst 0, 1), some (.iastore, 1), some (.aload_n 0, 1), some (.getfield 19, 3), none, none, some (.iload_n 2, 1), some (.baload, 1), some (.ifCond .eq 16, 3), none, none, some (.iload_n 2, 1)],
  [some (.aload_n 0, 1), some (.getfield 50, 3), none, none, some (.if_icmp .eq 8, 3), none, none, some (.aload_n 0, 1), some (.iload_n 2, 1), some (.invokevirtual 77, 3), none, none, some (.return_, 1)]]
def mt_Pl_chooseFirstRound : List (List (Option (Instr × Nat))) := [
  [some (.aload_n 0, 1), some (.getfield 50, 3), none, none, some (.iload_n 1, 1), some (.iconst (-1), 1), some (.ixor, 1), some (.iand, 1), some (.sipush 255, 3), none, none, some (.iand, 1), some (.istore_n 2, 1), some (.aload_n 0, 1), some (.getfield 23, 3), none],
  [none, some (.iconst 0, 1), some (.iconst 1, 1), some (.bastore, 1), some (.iconst 0, 1), some (.istore_n 3, 1), some (.iconst 1, 1), some (.istore 4, 2), none, some (.iload 4, 2), none, some (.sipush 256, 3), none, none, some (.if_icmp .ge 136, 3), none],
  [none, some (.iload_n 3, 1), some (.iload_n 2, 1), some (.if_icmp .eq 131, 3), none, none, some (.iload_n 3, 1), some (.iload_n 2, 1), some (.isub, 1), some (.iload_n 2, 1), some (.iand, 1), some (.istore_n 3, 1), some (.iload_n 1, 1), some (.iload_n 3, 1), some (.ior, 1), some (.istore 5, 2)],
  [none, some (.aload_n 0, 1), some (.getfield 23, 3), none, none, some (.iload_n 3, 1), some (.aload_n 0, 1), some (.getfield 19, 3), none, none, some (.iload 5, 2), none, some (.baload, 1), some (.ifCond .eq 15, 3), none, none],
  [some (.aload_n 0, 1), some (.iload_n 3, 1), some (.invokevirtual 81, 3), none, none, some (.ifCond .eq 7, 3), none, none, some (.iconst 1, 1), some (.goto 4, 3), none, none, some (.iconst 0, 1), some (.bastore, 1), some (.aload_n 0, 1), some (.getfield 23, 3)],
  [none, none, some (.iload_n 3, 1), some (.baload, 1), some (.ifCond .eq 18, 3), none, none, some (.aload_n 0, 1), some (.getfield 26, 3), none, none, some (.iload 5, 2), none, some (.iaload, 1), some (.iconst (-1), 1), some (.if_icmp .eq 7, 3)],
  [none, none, some (.iconst 1, 1), some (.goto 4, 3), none, none, some (.iconst 0, 1), some (.istore 6, 2), none, some (.iload 6, 2), none, some (.ifCond .eq 53, 3), none, none, some (.aload_n 0, 1), some (.getfield 26, 3)],
  [none, none, some (.iload_n 1, 1), some (.iaload, 1), some (.iconst (-1), 1), some (.if_icmp .eq 21, 3), none, none, some (.aload_n 0, 1), some (.getfield 26, 3), none, none, some (.iload 5, 2), none, some (.iaload, 1), some (.iconst 1, 1)],
  [some (.iadd, 1), some (.aload_n 0, 1), some (.getfield 26, 3), none, none, some (.iload_n 1, 1), some (.iaload, 1), some (.if_icmp .gt 25, 3), none, none, some (.aload_n 0, 1), some (.getfield 26, 3), none, none, some (.iload_n 1, 1), some (.aload_n 0, 1)],
  [some (.getfield 26, 3), none, none, some (.iload 5, 2), none, some (.iaload, 1), some (.iconst 1, 1), some (.iadd, 1), some (.iastore, 1), some (.aload_n 0, 1), some (.getfield 30, 3), none, none, some (.iload_n 1, 1), some (.iload_n 3, 1), some (.iastore, 1)],
  [some (.iinc 4 1, 3), none, none, some (.goto (-138), 3), none, none, some (.return_, 1)]]
def mt_Pl_arePartsSafe : List (List (Option (Instr × Nat))) := [
  [some (.iconst 0, 1), some (.istore_n 2, 1), some (.iload_n 2, 1), some (.bipush 8, 2), none, some (.if_icmp .ge 34, 3), none, none, some (.iload_n 1, 1), some (.iconst 1, 1), some (.iload_n 2, 1), some (.ishl, 1), some (.iand, 1), some (.ifCond .eq 20, 3), none, none],
  [some (.aload_n 0, 1), some (.getfield 23, 3), none, none, some (.iload_n 1, 1), some (.iconst 1, 1), some (.iload_n 2, 1), some (.ishl, 1), some (.iconst (-1), 1), some (.ixor, 1), some (.iand, 1), some (.baload, 1), some (.ifCond .ne 5, 3), none, none, some (.iconst 0, 1)],
  [some (.ireturn, 1), some (.iinc 2 1, 3), none, none, some (.goto (-34), 3), none, none, some (.iconst 1, 1), some (.ireturn, 1)]]
def mt_Pl_fewestFrom : List (List (Option (Instr × Nat))) := [
  [some (.iload_n 1, 1), some (.sipush 256, 3), none, none, some (.invokestatic 66, 3), none, none, some (.ifCond .eq 12, 3), none, none, some (.aload_n 0, 1), some (.getfield 26, 3), none, none, some (.iload_n 1, 1), some (.iaload, 1)],
  [some (.goto 4, 3), none, none, some (.iconst (-1), 1), some (.ireturn, 1)]]
def mt_Pl_roundCount : List (List (Option (Instr × Nat))) := [
  [some (.aload_n 0, 1), some (.aload_n 0, 1), some (.getfield 45, 3), none, none, some (.invokevirtual 62, 3), none, none, some (.ireturn, 1)]]
def mt_Pl_roundAt : List (List (Option (Instr × Nat))) := [
  [some (.aload_n 0, 1), some (.getfield 45, 3), none, none, some (.istore_n 2, 1), some (.iconst 0, 1), some (.istore_n 3, 1), some (.iload_n 3, 1), some (.iload_n 1, 1), some (.if_icmp .ge 23, 3), none, none, some (.iload_n 3, 1), some (.bipush 8, 2), none, some (.if_icmp .ge 17, 3)],
  [none, none, some (.iload_n 2, 1), some (.aload_n 0, 1), some (.iload_n 2, 1), some (.invokevirtual 85, 3), none, none, some (.ior, 1), some (.istore_n 2, 1), some (.iinc 3 1, 3), none, none, some (.goto (-22), 3), none, none],
  [some (.aload_n 0, 1), some (.iload_n 2, 1), some (.invokevirtual 85, 3), none, none, some (.ireturn, 1)]]
def mt_Pl_firstFrom : List (List (Option (Instr × Nat))) := [
  [some (.iload_n 1, 1), some (.sipush 256, 3), none, none, some (.invokestatic 66, 3), none, none, some (.ifCond .eq 12, 3), none, none, some (.aload_n 0, 1), some (.getfield 30, 3), none, none, some (.iload_n 1, 1), some (.iaload, 1)],
  [some (.goto 4, 3), none, none, some (.iconst 0, 1), some (.ireturn, 1)]]
def mt_Re_init : List (List (Option (Instr × Nat))) := [
  [some (.aload_n 0, 1), some (.invokespecial 3, 3), none, none, some (.aload_n 0, 1), some (.aload_n 1, 1), some (.putfield 9, 3), none, none, some (.aload_n 0, 1), some (.sipush 200, 3), none, none, some (.newarray .int, 2), none, some (.putfield 15, 3)],
  [none, none, some (.aload_n 0, 1), some (.bipush 120, 2), none, some (.newarray .int, 2), none, some (.putfield 19, 3), none, none, some (.aload_n 0, 1), some (.iconst 3, 1), some (.newarray .int, 2), none, some (.putfield 22, 3), none],
  [none, some (.aload_n 0, 1), some (.iconst 3, 1), some (.newarray .int, 2), none, some (.putfield 25, 3), none, none, some (.return_, 1)]]
def mt_Re_append : List (List (Option (Instr × Nat))) := [
  [some (.aload_n 0, 1), some (.getfield 28, 3), none, none, some (.aload_n 0, 1), some (.getfield 15, 3), none, none, some (.arraylength, 1), some (.invokestatic 32, 3), none, none, some (.ifCond .ne 5, 3), none, none, some (.iconst 0, 1)],
  [some (.ireturn, 1), some (.aload_n 0, 1), some (.getfield 15, 3), none, none, some (.aload_n 0, 1), some (.getfield 28, 3), none, none, some (.iload_n 1, 1), some (.iastore, 1), some (.aload_n 0, 1), some (.dup, 1), some (.getfield 28, 3), none, none],
  [some (.iconst 1, 1), some (.iadd, 1), some (.putfield 28, 3), none, none, some (.iconst 1, 1), some (.ireturn, 1)]]
def mt_Re_findFault : List (List (Option (Instr × Nat))) := [
  [some (.aload_n 0, 1), some (.invokevirtual 36, 3), none, none, some (.aload_n 0, 1), some (.iconst 0, 1), some (.putfield 39, 3), none, none, some (.aload_n 0, 1), some (.iconst 0, 1), some (.putfield 42, 3), none, none, some (.iconst 0, 1), some (.istore_n 1, 1)],
  [some (.iload_n 1, 1), some (.bipush 24, 2), none, some (.if_icmp .ge 47, 3), none, none, some (.aload_n 0, 1), some (.invokevirtual 45, 3), none, none, some (.aload_n 0, 1), some (.invokevirtual 48, 3), none, none, some (.ifCond .ne 8, 3), none],
  [none, some (.aload_n 0, 1), some (.getfield 52, 3), none, none, some (.ireturn, 1), some (.aload_n 0, 1), some (.getfield 55, 3), none, none, some (.iconst 3, 1), some (.if_icmp .ne 5, 3), none, none, some (.iconst (-1), 1), some (.ireturn, 1)],
  [some (.aload_n 0, 1), some (.invokevirtual 58, 3), none, none, some (.ifCond .ne 8, 3), none, none, some (.aload_n 0, 1), some (.getfield 52, 3), none, none, some (.ireturn, 1), some (.iinc 1 1, 3), none, none, some (.goto (-47), 3)],
  [none, none, some (.aload_n 0, 1), some (.getfield 52, 3), none, none, some (.ireturn, 1)]]
def mt_Re_foreseeNet : List (List (Option (Instr × Nat))) := [
  [some (.aload_n 0, 1), some (.aload_n 0, 1), some (.getfield 9, 3), none, none, some (.getfield 61, 3), none, none, some (.putfield 66, 3), none, none, some (.iconst 0, 1), some (.istore_n 1, 1), some (.iload_n 1, 1), some (.iconst 3, 1), some (.if_icmp .ge 42, 3)],
  [none, none, some (.aload_n 0, 1), some (.getfield 9, 3), none, none, some (.iload_n 1, 1), some (.invokevirtual 67, 3), none, none, some (.astore_n 2, 1), some (.aload_n 2, 1), some (.ifnull 23, 3), none, none, some (.aload_n 0, 1)],
  [some (.getfield 22, 3), none, none, some (.iload_n 1, 1), some (.aload_n 2, 1), some (.getfield 71, 3), none, none, some (.iastore, 1), some (.aload_n 0, 1), some (.getfield 25, 3), none, none, some (.iload_n 1, 1), some (.aload_n 2, 1), some (.getfield 76, 3)],
  [none, none, some (.iastore, 1), some (.iinc 1 1, 3), none, none, some (.goto (-41), 3), none, none, some (.return_, 1)]]
def mt_Re_letterAt : List (List (Option (Instr × Nat))) := [
  [some (.iload_n 1, 1), some (.aload_n 0, 1), some (.getfield 28, 3), none, none, some (.if_icmp .ge 24, 3), none, none, some (.iload_n 1, 1), some (.aload_n 0, 1), some (.getfield 15, 3), none, none, some (.arraylength, 1), some (.invokestatic 32, 3), none],
  [none, some (.ifCond .eq 12, 3), none, none, some (.aload_n 0, 1), some (.getfield 15, 3), none, none, some (.iload_n 1, 1), some (.iaload, 1), some (.goto 4, 3), none, none, some (.iconst (-1), 1), some (.ireturn, 1)]]
def mt_Re_nextToken : List (List (Option (Instr × Nat))) := [
  [some (.aload_n 0, 1), some (.aload_n 0, 1), some (.getfield 42, 3), none, none, some (.putfield 52, 3), none, none, some (.aload_n 0, 1), some (.getfield 52, 3), none, none, some (.aload_n 0, 1), some (.getfield 28, 3), none, none],
  [some (.if_icmp .ge 29, 3), none, none, some (.aload_n 0, 1), some (.aload_n 0, 1), some (.getfield 52, 3), none, none, some (.invokevirtual 79, 3), none, none, some (.bipush 32, 2), none, some (.if_icmp .ne 16, 3), none, none],
  [some (.aload_n 0, 1), some (.dup, 1), some (.getfield 52, 3), none, none, some (.iconst 1, 1), some (.iadd, 1), some (.putfield 52, 3), none, none, some (.goto (-34), 3), none, none, some (.aload_n 0, 1), some (.aload_n 0, 1), some (.aload_n 0, 1)],
  [some (.getfield 52, 3), none, none, some (.invokevirtual 79, 3), none, none, some (.invokestatic 83, 3), none, none, some (.putfield 55, 3), none, none, some (.aload_n 0, 1), some (.aload_n 0, 1), some (.getfield 52, 3), none],
  [none, some (.putfield 42, 3), none, none, some (.aload_n 0, 1), some (.getfield 55, 3), none, none, some (.iconst 3, 1), some (.if_icmp .ne 4, 3), none, none, some (.return_, 1), some (.aload_n 0, 1), some (.dup, 1), some (.getfield 42, 3)],
  [none, none, some (.iconst 1, 1), some (.iadd, 1), some (.putfield 42, 3), none, none, some (.aload_n 0, 1), some (.getfield 55, 3), none, none, some (.iconst 2, 1), some (.if_icmp .eq 45, 3), none, none, some (.aload_n 0, 1)],
  [some (.getfield 42, 3), none, none, some (.aload_n 0, 1), some (.getfield 28, 3), none, none, some (.if_icmp .ge 34, 3), none, none, some (.aload_n 0, 1), some (.aload_n 0, 1), some (.getfield 42, 3), none, none, some (.invokevirtual 79, 3)],
  [none, none, some (.invokestatic 83, 3), none, none, some (.aload_n 0, 1), some (.getfield 55, 3), none, none, some (.if_icmp .ne 16, 3), none, none, some (.aload_n 0, 1), some (.dup, 1), some (.getfield 42, 3), none],
  [none, some (.iconst 1, 1), some (.iadd, 1), some (.putfield 42, 3), none, none, some (.goto (-47), 3), none, none, some (.return_, 1)]]
def mt_Re_kindOf : List (List (Option (Instr × Nat))) := [
  [some (.iload_n 0, 1), some (.iconst (-1), 1), some (.if_icmp .ne 5, 3), none, none, some (.iconst 3, 1), some (.ireturn, 1), some (.iload_n 0, 1), some (.bipush 97, 2), none, some (.if_icmp .lt 11, 3), none, none, some (.iload_n 0, 1), some (.bipush 122, 2), none],
  [some (.if_icmp .gt 5, 3), none, none, some (.iconst 0, 1), some (.ireturn, 1), some (.iload_n 0, 1), some (.bipush 48, 2), none, some (.if_icmp .lt 13, 3), none, none, some (.iload_n 0, 1), some (.bipush 57, 2), none, some (.if_icmp .gt 7, 3), none],
  [none, some (.iconst 1, 1), some (.goto 4, 3), none, none, some (.iconst 2, 1), some (.ireturn, 1)]]
def mt_Re_isSemicolon : List (List (Option (Instr × Nat))) := [
  [some (.aload_n 0, 1), some (.getfield 55, 3), none, none, some (.iconst 2, 1), some (.if_icmp .ne 20, 3), none, none, some (.aload_n 0, 1), some (.aload_n 0, 1), some (.getfield 52, 3), none, none, some (.invokevirtual 79, 3), none, none],
  [some (.bipush 59, 2), none, some (.if_icmp .ne 7, 3), none, none, some (.iconst 1, 1), some (.goto 4, 3), none, none, some (.iconst 0, 1), some (.ireturn, 1)]]
def mt_Re_readClause : List (List (Option (Instr × Nat))) := [
  [some (.aload_n 0, 1), some (.getfield 39, 3), none, none, some (.iconst 5, 1), some (.imul, 1), some (.istore_n 1, 1), some (.aload_n 0, 1), some (.invokevirtual 86, 3), none, none, some (.istore_n 2, 1), some (.iload_n 2, 1), some (.iconst (-1), 1), some (.if_icmp .eq 14, 3), none],
  [none, some (.iload_n 1, 1), some (.iconst 5, 1), some (.iadd, 1), some (.aload_n 0, 1), some (.getfield 19, 3), none, none, some (.arraylength, 1), some (.if_icmp .le 5, 3), none, none, some (.iconst 0, 1), some (.ireturn, 1), some (.aload_n 0, 1), some (.getfield 19, 3)],
  [none, none, some (.iload_n 1, 1), some (.iload_n 2, 1), some (.iastore, 1), some (.aload_n 0, 1), some (.invokevirtual 45, 3), none, none, some (.iload_n 2, 1), some (.invokestatic 90, 3), none, none, some (.istore_n 3, 1), some (.iconst 1, 1), some (.istore 4, 2)],
  [none, some (.iload 4, 2), none, some (.iload_n 3, 1), some (.if_icmp .gt 74, 3), none, none, some (.iload 4, 2), none, some (.iconst 5, 1), some (.if_icmp .ge 68, 3), none, none, some (.aload_n 0, 1), some (.getfield 55, 3), none],
  [none, some (.iconst 1, 1), some (.if_icmp .ne 16, 3), none, none, some (.aload_n 0, 1), some (.getfield 42, 3), none, none, some (.aload_n 0, 1), some (.getfield 52, 3), none, none, some (.isub, 1), some (.iconst 1, 1), some (.if_icmp .eq 5, 3)],
  [none, none, some (.iconst 0, 1), some (.ireturn, 1), some (.aload_n 0, 1), some (.getfield 19, 3), none, none, some (.iload_n 1, 1), some (.iload 4, 2), none, some (.iadd, 1), some (.aload_n 0, 1), some (.aload_n 0, 1), some (.getfield 52, 3), none],
  [none, some (.invokevirtual 79, 3), none, none, some (.bipush 48, 2), none, some (.isub, 1), some (.iastore, 1), some (.aload_n 0, 1), some (.iload_n 1, 1), some (.iload 4, 2), none, some (.invokevirtual 93, 3), none, none, some (.ifCond .ne 5, 3)],
  [none, none, some (.iconst 0, 1), some (.ireturn, 1), some (.aload_n 0, 1), some (.invokevirtual 45, 3), none, none, some (.iinc 4 1, 3), none, none, some (.goto (-74), 3), none, none, some (.aload_n 0, 1), some (.dup, 1)],
  [some (.getfield 39, 3), none, none, some (.iconst 1, 1), some (.iadd, 1), some (.putfield 39, 3), none, none, some (.aload_n 0, 1), some (.iload_n 1, 1), some (.invokevirtual 96, 3), none, none, some (.iconst 1, 1), some (.ireturn, 1)]]
def mt_Re_clauseKind : List (List (Option (Instr × Nat))) := [
  [some (.aload_n 0, 1), some (.getfield 55, 3), none, none, some (.ifCond .ne 30, 3), none, none, some (.iconst 0, 1), some (.istore_n 1, 1), some (.iload_n 1, 1), some (.bipush 6, 2), none, some (.if_icmp .ge 22, 3), none, none, some (.aload_n 0, 1)],
  [some (.iload_n 1, 1), some (.invokestatic 100, 3), none, none, some (.invokevirtual 104, 3), none, none, some (.ifCond .eq 5, 3), none, none, some (.iload_n 1, 1), some (.ireturn, 1), some (.iinc 1 1, 3), none, none, some (.goto (-22), 3)],
  [none, none, some (.iconst (-1), 1), some (.ireturn, 1)]]
def mt_Re_tokenIs : List (List (Option (Instr × Nat))) := [
  [some (.aload_n 0, 1), some (.getfield 42, 3), none, none, some (.aload_n 0, 1), some (.getfield 52, 3), none, none, some (.isub, 1), some (.aload_n 1, 1), some (.invokevirtual 108, 3), none, none, some (.if_icmp .eq 5, 3), none, none],
  [some (.iconst 0, 1), some (.ireturn, 1), some (.iconst 0, 1), some (.istore_n 2, 1), some (.iload_n 2, 1), some (.aload_n 1, 1), some (.invokevirtual 108, 3), none, none, some (.if_icmp .ge 29, 3), none, none, some (.aload_n 0, 1), some (.aload_n 0, 1), some (.getfield 52, 3), none],
  [none, some (.iload_n 2, 1), some (.iadd, 1), some (.invokevirtual 79, 3), none, none, some (.aload_n 1, 1), some (.iload_n 2, 1), some (.invokevirtual 112, 3), none, none, some (.if_icmp .eq 5, 3), none, none, some (.iconst 0, 1), some (.ireturn, 1)],
  [some (.iinc 2 1, 3), none, none, some (.goto (-31), 3), none, none, some (.iconst 1, 1), some (.ireturn, 1)]]
def mt_Re_wordOf : List (List (Option (Instr × Nat))) := [
  [some (.iload_n 0, 1), some (.tableswitch 50 0 4 #[35, 38, 41, 44, 47], 35), none, none, none, none, none, none, none, none, none, none, none, none, none, none],
  [none, none, none, none, none, none, none, none, none, none, none, none, none, none, none, none],
  [none, none, none, none, some (.ldc 116, 2), none, some (.areturn, 1), some (.ldc 117, 2), none, some (.areturn, 1), some (.ldc 119, 2), none, some (.areturn, 1), some (.ldc 121, 2), none, some (.areturn, 1)],
  [some (.ldc 123, 2), none, some (.areturn, 1), some (.ldc 125, 2), none, some (.areturn, 1)]]
def mt_Re_numbersOf : List (List (Option (Instr × Nat))) := [
  [some (.iload_n 0, 1), some (.tableswitch 37 0 3 #[31, 37, 35, 33], 31), none, none, none, none, none, none, none, none, none, none, none, none, none, none],
  [none, none, none, none, none, none, none, none, none, none, none, none, none, none, none, none],
  [some (.iconst 1, 1), some (.ireturn, 1), some (.iconst 2, 1), some (.ireturn, 1), some (.iconst 4, 1), some (.ireturn, 1), some (.iconst 3, 1), some (.ireturn, 1)]]
def mt_Re_clauseAt : List (List (Option (Instr × Nat))) := [
  [some (.iload_n 1, 1), some (.aload_n 0, 1), some (.getfield 19, 3), none, none, some (.arraylength, 1), some (.invokestatic 32, 3), none, none, some (.ifCond .eq 12, 3), none, none, some (.aload_n 0, 1), some (.getfield 19, 3), none, none],
  [some (.iload_n 1, 1), some (.iaload, 1), some (.goto 4, 3), none, none, some (.iconst (-1), 1), some (.ireturn, 1)]]
def mt_Re_sourceOf : List (List (Option (Instr × Nat))) := [
  [some (.iload_n 1, 1), some (.aload_n 0, 1), some (.getfield 22, 3), none, none, some (.arraylength, 1), some (.invokestatic 32, 3), none, none, some (.ifCond .eq 12, 3), none, none, some (.aload_n 0, 1), some (.getfield 22, 3), none, none],
  [some (.iload_n 1, 1), some (.iaload, 1), some (.goto 4, 3), none, none, some (.iconst (-1), 1), some (.ireturn, 1)]]
def mt_Re_goalOf : List (List (Option (Instr × Nat))) := [
  [some (.iload_n 1, 1), some (.aload_n 0, 1), some (.getfield 25, 3), none, none, some (.arraylength, 1), some (.invokestatic 32, 3), none, none, some (.ifCond .eq 12, 3), none, none, some (.aload_n 0, 1), some (.getfield 25, 3), none, none],
  [some (.iload_n 1, 1), some (.iaload, 1), some (.goto 4, 3), none, none, some (.iconst (-1), 1), some (.ireturn, 1)]]
def mt_Re_numberFits : List (List (Option (Instr × Nat))) := [
  [some (.aload_n 0, 1), some (.iload_n 1, 1), some (.invokevirtual 127, 3), none, none, some (.istore_n 3, 1), some (.aload_n 0, 1), some (.iload_n 1, 1), some (.iconst 1, 1), some (.iadd, 1), some (.invokevirtual 127, 3), none, none, some (.istore 4, 2), none, some (.aload_n 0, 1)],
  [some (.iload_n 1, 1), some (.iload_n 2, 1), some (.iadd, 1), some (.invokevirtual 127, 3), none, none, some (.istore 5, 2), none, some (.iload 5, 2), none, some (.aload_n 0, 1), some (.getfield 66, 3), none, none, some (.if_icmp .ge 7, 3), none],
  [none, some (.iconst 1, 1), some (.goto 4, 3), none, none, some (.iconst 0, 1), some (.istore 6, 2), none, some (.iload 5, 2), none, some (.aload_n 0, 1), some (.iload_n 1, 1), some (.iload_n 2, 1), some (.iadd, 1), some (.iconst 1, 1), some (.isub, 1)],
  [some (.invokevirtual 127, 3), none, none, some (.if_icmp .eq 7, 3), none, none, some (.iconst 1, 1), some (.goto 4, 3), none, none, some (.iconst 0, 1), some (.istore 7, 2), none, some (.iload_n 3, 1), some (.ifCond .ne 22, 3), none],
  [none, some (.iload 5, 2), none, some (.iconst 2, 1), some (.if_icmp .lt 14, 3), none, none, some (.iload 5, 2), none, some (.bipush 8, 2), none, some (.if_icmp .gt 7, 3), none, none, some (.iconst 1, 1), some (.goto 4, 3)],
  [none, none, some (.iconst 0, 1), some (.ireturn, 1), some (.iload_n 3, 1), some (.iconst 1, 1), some (.if_icmp .ne 49, 3), none, none, some (.iload_n 2, 1), some (.iconst 1, 1), some (.if_icmp .ne 8, 3), none, none, some (.iload 6, 2), none],
  [some (.goto 38, 3), none, none, some (.iload_n 2, 1), some (.iconst 2, 1), some (.if_icmp .ne 21, 3), none, none, some (.iload 6, 2), none, some (.ifCond .eq 12, 3), none, none, some (.iload 7, 2), none, some (.ifCond .eq 7, 3)],
  [none, none, some (.iconst 1, 1), some (.goto 19, 3), none, none, some (.iconst 0, 1), some (.goto 15, 3), none, none, some (.iload 5, 2), none, some (.bipush 9, 2), none, some (.if_icmp .gt 7, 3), none],
  [none, some (.iconst 1, 1), some (.goto 4, 3), none, none, some (.iconst 0, 1), some (.ireturn, 1), some (.iload_n 2, 1), some (.iconst 1, 1), some (.if_icmp .ne 15, 3), none, none, some (.iload 5, 2), none, some (.iconst 3, 1), some (.if_icmp .ge 7, 3)],
  [none, none, some (.iconst 1, 1), some (.goto 4, 3), none, none, some (.iconst 0, 1), some (.ireturn, 1), some (.iload_n 3, 1), some (.iconst 2, 1), some (.if_icmp .ne 27, 3), none, none, some (.iload_n 2, 1), some (.iconst 4, 1), some (.if_icmp .ne 22, 3)],
  [none, none, some (.iload 5, 2), none, some (.iconst 1, 1), some (.if_icmp .lt 14, 3), none, none, some (.iload 5, 2), none, some (.bipush 9, 2), none, some (.if_icmp .gt 7, 3), none, none, some (.iconst 1, 1)],
  [some (.goto 4, 3), none, none, some (.iconst 0, 1), some (.ireturn, 1), some (.iload_n 2, 1), some (.iconst 3, 1), some (.if_icmp .ne 19, 3), none, none, some (.iload 6, 2), none, some (.ifCond .eq 12, 3), none, none, some (.iload 7, 2)],
  [none, some (.ifCond .eq 7, 3), none, none, some (.iconst 1, 1), some (.goto 4, 3), none, none, some (.iconst 0, 1), some (.ireturn, 1), some (.iload_n 3, 1), some (.iconst 2, 1), some (.if_icmp .ne 6, 3), none, none, some (.iload 6, 2)],
  [none, some (.ireturn, 1), some (.iload 5, 2), none, some (.aload_n 0, 1), some (.iload 4, 2), none, some (.invokevirtual 130, 3), none, none, some (.if_icmp .ne 7, 3), none, none, some (.iconst 1, 1), some (.goto 4, 3), none],
  [none, some (.iconst 0, 1), some (.istore 8, 2), none, some (.iload 5, 2), none, some (.aload_n 0, 1), some (.iload 4, 2), none, some (.invokevirtual 133, 3), none, none, some (.if_icmp .ne 7, 3), none, none, some (.iconst 1, 1)],
  [some (.goto 4, 3), none, none, some (.iconst 0, 1), some (.istore 9, 2), none, some (.iload 6, 2), none, some (.ifCond .eq 22, 3), none, none, some (.iload 8, 2), none, some (.ifCond .ne 17, 3), none, none],
  [some (.iload_n 3, 1), some (.iconst 3, 1), some (.if_icmp .ne 8, 3), none, none, some (.iload 9, 2), none, some (.ifCond .ne 7, 3), none, none, some (.iconst 1, 1), some (.goto 4, 3), none, none, some (.iconst 0, 1), some (.ireturn, 1)]]
def mt_Re_foresee : List (List (Option (Instr × Nat))) := [
  [some (.aload_n 0, 1), some (.iload_n 1, 1), some (.invokevirtual 127, 3), none, none, some (.istore_n 2, 1), some (.aload_n 0, 1), some (.iload_n 1, 1), some (.iconst 1, 1), some (.iadd, 1), some (.invokevirtual 127, 3), none, none, some (.istore_n 3, 1), some (.iload_n 2, 1), some (.ifCond .ne 39, 3)],
  [none, none, some (.aload_n 0, 1), some (.iload_n 3, 1), some (.putfield 66, 3), none, none, some (.iconst 0, 1), some (.istore 4, 2), none, some (.iload 4, 2), none, some (.iconst 3, 1), some (.if_icmp .ge 25, 3), none, none],
  [some (.aload_n 0, 1), some (.getfield 22, 3), none, none, some (.iload 4, 2), none, some (.iconst 0, 1), some (.iastore, 1), some (.aload_n 0, 1), some (.getfield 25, 3), none, none, some (.iload 4, 2), none, some (.iconst 1, 1), some (.iastore, 1)],
  [some (.iinc 4 1, 3), none, none, some (.goto (-25), 3), none, none, some (.iload_n 2, 1), some (.iconst 2, 1), some (.if_icmp .ne 37, 3), none, none, some (.iload_n 3, 1), some (.iconst 3, 1), some (.invokestatic 32, 3), none, none],
  [some (.ifCond .eq 29, 3), none, none, some (.aload_n 0, 1), some (.getfield 22, 3), none, none, some (.iload_n 3, 1), some (.aload_n 0, 1), some (.iload_n 1, 1), some (.iconst 2, 1), some (.iadd, 1), some (.invokevirtual 127, 3), none, none, some (.iastore, 1)],
  [some (.aload_n 0, 1), some (.getfield 25, 3), none, none, some (.iload_n 3, 1), some (.aload_n 0, 1), some (.iload_n 1, 1), some (.iconst 3, 1), some (.iadd, 1), some (.invokevirtual 127, 3), none, none, some (.iastore, 1), some (.return_, 1)]]
def mt_Re_doClauses : List (List (Option (Instr × Nat))) := [
  [some (.iconst 0, 1), some (.istore_n 1, 1), some (.iload_n 1, 1), some (.aload_n 0, 1), some (.getfield 39, 3), none, none, some (.if_icmp .ge 22, 3), none, none, some (.iload_n 1, 1), some (.bipush 24, 2), none, some (.if_icmp .ge 16, 3), none, none],
  [some (.aload_n 0, 1), some (.iload_n 1, 1), some (.iconst 5, 1), some (.imul, 1), some (.invokevirtual 136, 3), none, none, some (.iinc 1 1, 3), none, none, some (.goto (-24), 3), none, none, some (.return_, 1)]]
def mt_Re_doClause : List (List (Option (Instr × Nat))) := [
  [some (.aload_n 0, 1), some (.iload_n 1, 1), some (.invokevirtual 127, 3), none, none, some (.istore_n 2, 1), some (.aload_n 0, 1), some (.iload_n 1, 1), some (.iconst 1, 1), some (.iadd, 1), some (.invokevirtual 127, 3), none, none, some (.istore_n 3, 1), some (.aload_n 0, 1), some (.iload_n 1, 1)],
  [some (.iconst 2, 1), some (.iadd, 1), some (.invokevirtual 127, 3), none, none, some (.istore 4, 2), none, some (.aload_n 0, 1), some (.iload_n 1, 1), some (.iconst 3, 1), some (.iadd, 1), some (.invokevirtual 127, 3), none, none, some (.istore 5, 2), none],
  [some (.iload_n 2, 1), some (.ifCond .ne 12, 3), none, none, some (.aload_n 0, 1), some (.getfield 9, 3), none, none, some (.iload_n 3, 1), some (.invokevirtual 139, 3), none, none, some (.return_, 1), some (.iload_n 2, 1), some (.iconst 1, 1), some (.if_icmp .ne 16, 3)],
  [none, none, some (.aload_n 0, 1), some (.getfield 9, 3), none, none, some (.iload_n 3, 1), some (.iload 4, 2), none, some (.iload 5, 2), none, some (.invokevirtual 142, 3), none, none, some (.return_, 1), some (.aload_n 0, 1)],
  [some (.getfield 9, 3), none, none, some (.iload_n 3, 1), some (.invokevirtual 67, 3), none, none, some (.astore 6, 2), none, some (.aload 6, 2), none, some (.ifnonnull 4, 3), none, none, some (.return_, 1), some (.iload_n 2, 1)],
  [some (.iconst 2, 1), some (.if_icmp .ne 22, 3), none, none, some (.aload 6, 2), none, some (.iload 4, 2), none, some (.iload 5, 2), none, some (.aload_n 0, 1), some (.iload_n 1, 1), some (.iconst 4, 1), some (.iadd, 1), some (.invokevirtual 127, 3), none],
  [none, some (.invokevirtual 146, 3), none, none, some (.goto 44, 3), none, none, some (.iload_n 2, 1), some (.iconst 3, 1), some (.if_icmp .ne 13, 3), none, none, some (.aload 6, 2), none, some (.iload 4, 2), none],
  [some (.putfield 149, 3), none, none, some (.goto 29, 3), none, none, some (.iload_n 2, 1), some (.iconst 4, 1), some (.if_icmp .ne 15, 3), none, none, some (.aload 6, 2), none, some (.iload 4, 2), none, some (.iload 5, 2)],
  [none, some (.invokevirtual 151, 3), none, none, some (.goto 12, 3), none, none, some (.aload 6, 2), none, some (.iload 4, 2), none, some (.iload 5, 2), none, some (.invokevirtual 155, 3), none, none],
  [some (.return_, 1)]]
def mt_Mx_init : List (List (Option (Instr × Nat))) := [
  [some (.aload_n 0, 1), some (.invokespecial 3, 3), none, none, some (.aload_n 0, 1), some (.new 9, 3), none, none, some (.dup, 1), some (.invokespecial 11, 3), none, none, some (.putfield 12, 3), none, none, some (.aload_n 0, 1)],
  [some (.new 16, 3), none, none, some (.dup, 1), some (.aload_n 0, 1), some (.getfield 12, 3), none, none, some (.invokespecial 18, 3), none, none, some (.putfield 21, 3), none, none, some (.aload_n 0, 1), some (.new 25, 3)],
  [none, none, some (.dup, 1), some (.aload_n 0, 1), some (.getfield 12, 3), none, none, some (.aload_n 0, 1), some (.getfield 21, 3), none, none, some (.invokespecial 27, 3), none, none, some (.putfield 30, 3), none],
  [none, some (.aload_n 0, 1), some (.new 34, 3), none, none, some (.dup, 1), some (.aload_n 0, 1), some (.getfield 12, 3), none, none, some (.invokespecial 36, 3), none, none, some (.putfield 37, 3), none, none],
  [some (.aload_n 0, 1), some (.new 41, 3), none, none, some (.dup, 1), some (.aload_n 0, 1), some (.getfield 12, 3), none, none, some (.invokespecial 43, 3), none, none, some (.putfield 44, 3), none, none, some (.return_, 1)]]
def mt_Mx_write : List (List (Option (Instr × Nat))) := [
  [some (.iload_n 1, 1), some (.ifCond .lt 10, 3), none, none, some (.iload_n 1, 1), some (.sipush 255, 3), none, none, some (.if_icmp .le 6, 3), none, none, some (.bipush (-3), 2), none, some (.ireturn, 1), some (.aload_n 0, 1), some (.getfield 44, 3)],
  [none, none, some (.iload_n 1, 1), some (.invokevirtual 48, 3), none, none, some (.ifCond .eq 13, 3), none, none, some (.aload_n 0, 1), some (.getfield 44, 3), none, none, some (.getfield 52, 3), none, none],
  [some (.goto 5, 3), none, none, some (.bipush (-5), 2), none, some (.ireturn, 1)]]
def mt_Mx_erase : List (List (Option (Instr × Nat))) := [
  [some (.aload_n 0, 1), some (.getfield 44, 3), none, none, some (.getfield 52, 3), none, none, some (.istore_n 1, 1), some (.aload_n 0, 1), some (.getfield 44, 3), none, none, some (.iconst 0, 1), some (.putfield 52, 3), none, none],
  [some (.iload_n 1, 1), some (.ireturn, 1)]]
def mt_Mx_fault : List (List (Option (Instr × Nat))) := [
  [some (.aload_n 0, 1), some (.getfield 44, 3), none, none, some (.invokevirtual 56, 3), none, none, some (.ireturn, 1)]]
def mt_Mx_rules : List (List (Option (Instr × Nat))) := [
  [some (.aload_n 0, 1), some (.getfield 44, 3), none, none, some (.invokevirtual 56, 3), none, none, some (.iconst (-1), 1), some (.if_icmp .eq 6, 3), none, none, some (.bipush (-4), 2), none, some (.ireturn, 1), some (.aload_n 0, 1), some (.getfield 44, 3)],
  [none, none, some (.invokevirtual 60, 3), none, none, some (.aload_n 0, 1), some (.getfield 12, 3), none, none, some (.invokevirtual 63, 3), none, none, some (.aload_n 0, 1), some (.getfield 37, 3), none, none],
  [some (.invokevirtual 66, 3), none, none, some (.aload_n 0, 1), some (.getfield 44, 3), none, none, some (.iconst 0, 1), some (.putfield 52, 3), none, none, some (.aload_n 0, 1), some (.getfield 44, 3), none, none, some (.getfield 69, 3)],
  [none, none, some (.ireturn, 1)]]
def mt_Mx_room : List (List (Option (Instr × Nat))) := [
  [some (.aload_n 0, 1), some (.getfield 12, 3), none, none, some (.iload_n 1, 1), some (.invokevirtual 72, 3), none, none, some (.ifCond .eq 14, 3), none, none, some (.aload_n 0, 1), some (.getfield 12, 3), none, none, some (.iload_n 2, 1)],
  [some (.invokevirtual 72, 3), none, none, some (.ifCond .ne 6, 3), none, none, some (.bipush (-2), 2), none, some (.ireturn, 1), some (.aload_n 0, 1), some (.getfield 12, 3), none, none, some (.iload_n 1, 1), some (.iload_n 2, 1), some (.invokevirtual 75, 3)],
  [none, none, some (.ireturn, 1)]]
def mt_Mx_load : List (List (Option (Instr × Nat))) := [
  [some (.aload_n 0, 1), some (.getfield 12, 3), none, none, some (.iload_n 1, 1), some (.invokevirtual 72, 3), none, none, some (.ifCond .eq 14, 3), none, none, some (.aload_n 0, 1), some (.getfield 12, 3), none, none, some (.iload_n 2, 1)],
  [some (.invokevirtual 72, 3), none, none, some (.ifCond .ne 6, 3), none, none, some (.bipush (-2), 2), none, some (.ireturn, 1), some (.aload_n 0, 1), some (.getfield 21, 3), none, none, some (.iconst 0, 1), some (.iconst 0, 1), some (.invokevirtual 79, 3)],
  [none, none, some (.aload_n 0, 1), some (.getfield 21, 3), none, none, some (.iload_n 1, 1), some (.iload_n 2, 1), some (.invokevirtual 83, 3), none, none, some (.ireturn, 1)]]
def mt_Mx_flow : List (List (Option (Instr × Nat))) := [
  [some (.aload_n 0, 1), some (.getfield 12, 3), none, none, some (.iload_n 1, 1), some (.invokevirtual 86, 3), none, none, some (.astore_n 3, 1), some (.aload_n 3, 1), some (.ifnonnull 6, 3), none, none, some (.bipush (-2), 2), none, some (.ireturn, 1)],
  [some (.iload_n 2, 1), some (.tableswitch 87 0 7 #[47, 52, 57, 62, 67, 72, 77, 82], 47), none, none, none, none, none, none, none, none, none, none, none, none, none, none],
  [none, none, none, none, none, none, none, none, none, none, none, none, none, none, none, none],
  [none, none, none, none, none, none, none, none, none, none, none, none, none, none, none, none],
  [some (.aload_n 3, 1), some (.getfield 90, 3), none, none, some (.ireturn, 1), some (.aload_n 3, 1), some (.getfield 95, 3), none, none, some (.ireturn, 1), some (.aload_n 3, 1), some (.getfield 98, 3), none, none, some (.ireturn, 1), some (.aload_n 3, 1)],
  [some (.getfield 101, 3), none, none, some (.ireturn, 1), some (.aload_n 3, 1), some (.invokevirtual 104, 3), none, none, some (.ireturn, 1), some (.aload_n 3, 1), some (.getfield 107, 3), none, none, some (.ireturn, 1), some (.aload_n 3, 1), some (.getfield 110, 3)],
  [none, none, some (.ireturn, 1), some (.aload_n 3, 1), some (.getfield 113, 3), none, none, some (.ireturn, 1), some (.bipush (-3), 2), none, some (.ireturn, 1)]]
def mt_Mx_rule : List (List (Option (Instr × Nat))) := [
  [some (.aload_n 0, 1), some (.getfield 12, 3), none, none, some (.iload_n 1, 1), some (.invokevirtual 86, 3), none, none, some (.astore 4, 2), none, some (.aload 4, 2), none, some (.ifnull 14, 3), none, none, some (.aload_n 0, 1)],
  [some (.getfield 12, 3), none, none, some (.iload_n 2, 1), some (.invokevirtual 72, 3), none, none, some (.ifCond .ne 6, 3), none, none, some (.bipush (-2), 2), none, some (.ireturn, 1), some (.iload_n 3, 1), some (.tableswitch 52 0 2 #[26, 33, 40], 26), none],
  [none, none, none, none, none, none, none, none, none, none, none, none, none, none, none, none],
  [none, none, none, none, none, none, none, none, some (.aload 4, 2), none, some (.iload_n 2, 1), some (.invokevirtual 116, 3), none, none, some (.ireturn, 1), some (.aload 4, 2)],
  [none, some (.iload_n 2, 1), some (.invokevirtual 120, 3), none, none, some (.ireturn, 1), some (.aload 4, 2), none, some (.iload_n 2, 1), some (.aload 4, 2), none, some (.getfield 107, 3), none, none, some (.invokevirtual 123, 3), none],
  [none, some (.ireturn, 1), some (.bipush (-3), 2), none, some (.ireturn, 1)]]
def mt_Mx_table : List (List (Option (Instr × Nat))) := [
  [some (.aload_n 0, 1), some (.getfield 12, 3), none, none, some (.iload_n 1, 1), some (.invokevirtual 72, 3), none, none, some (.ifCond .eq 14, 3), none, none, some (.aload_n 0, 1), some (.getfield 12, 3), none, none, some (.iload_n 1, 1)],
  [some (.invokevirtual 126, 3), none, none, some (.goto 5, 3), none, none, some (.bipush (-2), 2), none, some (.ireturn, 1)]]
def mt_Mx_link : List (List (Option (Instr × Nat))) := [
  [some (.aload_n 0, 1), some (.getfield 12, 3), none, none, some (.iload_n 1, 1), some (.invokevirtual 72, 3), none, none, some (.ifCond .eq 19, 3), none, none, some (.aload_n 0, 1), some (.getfield 12, 3), none, none, some (.iload_n 2, 1)],
  [some (.invokevirtual 72, 3), none, none, some (.ifCond .eq 8, 3), none, none, some (.iload_n 1, 1), some (.iload_n 2, 1), some (.if_icmp .ne 6, 3), none, none, some (.bipush (-2), 2), none, some (.ireturn, 1), some (.iload_n 3, 1), some (.ifCond .lt 9, 3)],
  [none, none, some (.iload_n 3, 1), some (.bipush 9, 2), none, some (.if_icmp .le 6, 3), none, none, some (.bipush (-3), 2), none, some (.ireturn, 1), some (.aload_n 0, 1), some (.getfield 12, 3), none, none, some (.iload_n 1, 1)],
  [some (.iload_n 2, 1), some (.invokevirtual 75, 3), none, none, some (.istore 4, 2), none, some (.aload_n 0, 1), some (.getfield 12, 3), none, none, some (.iload_n 1, 1), some (.iload_n 2, 1), some (.iload_n 3, 1), some (.invokevirtual 129, 3), none, none],
  [some (.iload 4, 2), none, some (.ireturn, 1)]]
def mt_Mx_want : List (List (Option (Instr × Nat))) := [
  [some (.iload_n 1, 1), some (.ifCond .lt 9, 3), none, none, some (.iload_n 1, 1), some (.bipush 15, 2), none, some (.if_icmp .le 6, 3), none, none, some (.bipush (-3), 2), none, some (.ireturn, 1), some (.aload_n 0, 1), some (.getfield 12, 3), none],
  [none, some (.getfield 133, 3), none, none, some (.istore_n 2, 1), some (.aload_n 0, 1), some (.getfield 12, 3), none, none, some (.iload_n 1, 1), some (.putfield 133, 3), none, none, some (.iload_n 2, 1), some (.ireturn, 1)]]
def mt_Mx_slots : List (List (Option (Instr × Nat))) := [
  [some (.iload_n 1, 1), some (.iconst 1, 1), some (.if_icmp .lt 9, 3), none, none, some (.iload_n 1, 1), some (.bipush 6, 2), none, some (.if_icmp .le 6, 3), none, none, some (.bipush (-3), 2), none, some (.ireturn, 1), some (.aload_n 0, 1), some (.getfield 12, 3)],
  [none, none, some (.getfield 136, 3), none, none, some (.istore_n 2, 1), some (.aload_n 0, 1), some (.getfield 12, 3), none, none, some (.iload_n 1, 1), some (.putfield 136, 3), none, none, some (.iload_n 2, 1), some (.ireturn, 1)]]
def mt_Mx_turn : List (List (Option (Instr × Nat))) := [
  [some (.aload_n 0, 1), some (.getfield 12, 3), none, none, some (.iload_n 1, 1), some (.invokevirtual 86, 3), none, none, some (.astore_n 3, 1), some (.aload_n 3, 1), some (.ifnonnull 6, 3), none, none, some (.bipush (-2), 2), none, some (.ireturn, 1)],
  [some (.aload_n 3, 1), some (.iload_n 2, 1), some (.invokevirtual 139, 3), none, none, some (.ifCond .ne 6, 3), none, none, some (.bipush (-3), 2), none, some (.ireturn, 1), some (.aload_n 3, 1), some (.getfield 110, 3), none, none, some (.ifCond .ne 27, 3)],
  [none, none, some (.aload_n 0, 1), some (.getfield 37, 3), none, none, some (.iload_n 1, 1), some (.invokevirtual 142, 3), none, none, some (.ifCond .ne 16, 3), none, none, some (.aload_n 0, 1), some (.getfield 21, 3), none],
  [none, some (.iload_n 1, 1), some (.iload_n 2, 1), some (.invokevirtual 145, 3), none, none, some (.iconst (-1), 1), some (.if_icmp .eq 6, 3), none, none, some (.bipush (-4), 2), none, some (.ireturn, 1), some (.aload_n 3, 1), some (.iload_n 2, 1), some (.invokevirtual 148, 3)],
  [none, none, some (.aload_n 3, 1), some (.getfield 107, 3), none, none, some (.ireturn, 1)]]
def mt_Mx_force : List (List (Option (Instr × Nat))) := [
  [some (.aload_n 0, 1), some (.getfield 12, 3), none, none, some (.iload_n 1, 1), some (.invokevirtual 86, 3), none, none, some (.astore_n 3, 1), some (.aload_n 3, 1), some (.ifnonnull 6, 3), none, none, some (.bipush (-2), 2), none, some (.ireturn, 1)],
  [some (.aload_n 3, 1), some (.iload_n 2, 1), some (.invokevirtual 139, 3), none, none, some (.ifCond .ne 6, 3), none, none, some (.bipush (-3), 2), none, some (.ireturn, 1), some (.aload_n 3, 1), some (.getfield 110, 3), none, none, some (.ifCond .eq 6, 3)],
  [none, none, some (.bipush (-4), 2), none, some (.ireturn, 1), some (.aload_n 3, 1), some (.iload_n 2, 1), some (.invokevirtual 148, 3), none, none, some (.aload_n 3, 1), some (.getfield 107, 3), none, none, some (.ireturn, 1)]]
def mt_Mx_advance : List (List (Option (Instr × Nat))) := [
  [some (.aload_n 0, 1), some (.getfield 12, 3), none, none, some (.iload_n 1, 1), some (.invokevirtual 86, 3), none, none, some (.astore_n 2, 1), some (.aload_n 2, 1), some (.ifnonnull 6, 3), none, none, some (.bipush (-2), 2), none, some (.ireturn, 1)],
  [some (.aload_n 2, 1), some (.getfield 110, 3), none, none, some (.ifCond .ne 25, 3), none, none, some (.aload_n 0, 1), some (.getfield 37, 3), none, none, some (.iload_n 1, 1), some (.invokevirtual 142, 3), none, none, some (.ifCond .ne 14, 3)],
  [none, none, some (.aload_n 2, 1), some (.getfield 107, 3), none, none, some (.aload_n 2, 1), some (.invokevirtual 104, 3), none, none, some (.if_icmp .ne 6, 3), none, none, some (.bipush (-4), 2), none, some (.ireturn, 1)],
  [some (.aload_n 0, 1), some (.getfield 30, 3), none, none, some (.iload_n 1, 1), some (.iconst 0, 1), some (.invokevirtual 152, 3), none, none, some (.ifCond .ne 5, 3), none, none, some (.iconst (-1), 1), some (.ireturn, 1), some (.aload_n 0, 1), some (.getfield 30, 3)],
  [none, none, some (.iconst 0, 1), some (.invokevirtual 156, 3), none, none, some (.istore_n 3, 1), some (.aload_n 2, 1), some (.iload_n 3, 1), some (.invokevirtual 148, 3), none, none, some (.iload_n 3, 1), some (.ireturn, 1)]]
def mt_Mx_reverse : List (List (Option (Instr × Nat))) := [
  [some (.aload_n 0, 1), some (.getfield 12, 3), none, none, some (.iload_n 1, 1), some (.invokevirtual 86, 3), none, none, some (.astore_n 2, 1), some (.aload_n 2, 1), some (.ifnonnull 6, 3), none, none, some (.bipush (-2), 2), none, some (.ireturn, 1)],
  [some (.aload_n 2, 1), some (.getfield 110, 3), none, none, some (.ifCond .ne 10, 3), none, none, some (.aload_n 2, 1), some (.getfield 113, 3), none, none, some (.ifCond .ne 6, 3), none, none, some (.bipush (-4), 2), none],
  [some (.ireturn, 1), some (.aload_n 2, 1), some (.invokevirtual 159, 3), none, none, some (.aload_n 2, 1), some (.getfield 107, 3), none, none, some (.ireturn, 1)]]
def mt_Mx_ready : List (List (Option (Instr × Nat))) := [
  [some (.aload_n 0, 1), some (.getfield 12, 3), none, none, some (.iload_n 1, 1), some (.invokevirtual 86, 3), none, none, some (.astore_n 2, 1), some (.aload_n 2, 1), some (.ifnonnull 6, 3), none, none, some (.bipush (-2), 2), none, some (.ireturn, 1)],
  [some (.aload_n 2, 1), some (.getfield 110, 3), none, none, some (.ifCond .ne 10, 3), none, none, some (.aload_n 2, 1), some (.getfield 107, 3), none, none, some (.ifCond .eq 6, 3), none, none, some (.bipush (-4), 2), none],
  [some (.ireturn, 1), some (.aload_n 2, 1), some (.iconst 1, 1), some (.putfield 110, 3), none, none, some (.aload_n 0, 1), some (.getfield 12, 3), none, none, some (.invokevirtual 162, 3), none, none, some (.istore_n 3, 1), some (.iload_n 3, 1), some (.aload_n 0, 1)],
  [some (.getfield 12, 3), none, none, some (.getfield 136, 3), none, none, some (.if_icmp .le 11, 3), none, none, some (.aload_n 2, 1), some (.iconst 0, 1), some (.putfield 110, 3), none, none, some (.bipush (-5), 2), none],
  [some (.ireturn, 1), some (.iload_n 3, 1), some (.ireturn, 1)]]
def mt_Mx_flip : List (List (Option (Instr × Nat))) := [
  [some (.aload_n 0, 1), some (.getfield 12, 3), none, none, some (.iload_n 1, 1), some (.invokevirtual 86, 3), none, none, some (.astore_n 2, 1), some (.aload_n 2, 1), some (.ifnonnull 6, 3), none, none, some (.bipush (-2), 2), none, some (.ireturn, 1)],
  [some (.aload_n 2, 1), some (.getfield 110, 3), none, none, some (.iconst 1, 1), some (.if_icmp .eq 6, 3), none, none, some (.bipush (-4), 2), none, some (.ireturn, 1), some (.aload_n 2, 1), some (.iconst 2, 1), some (.putfield 110, 3), none, none],
  [some (.aload_n 0, 1), some (.getfield 37, 3), none, none, some (.iload_n 1, 1), some (.iconst 1, 1), some (.invokevirtual 165, 3), none, none, some (.aload_n 0, 1), some (.getfield 37, 3), none, none, some (.iload_n 1, 1), some (.iconst 0, 1), some (.invokevirtual 165, 3)],
  [none, none, some (.iadd, 1), some (.ireturn, 1)]]
def mt_Mx_finish : List (List (Option (Instr × Nat))) := [
  [some (.aload_n 0, 1), some (.getfield 12, 3), none, none, some (.iload_n 1, 1), some (.invokevirtual 86, 3), none, none, some (.astore_n 2, 1), some (.aload_n 2, 1), some (.ifnonnull 6, 3), none, none, some (.bipush (-2), 2), none, some (.ireturn, 1)],
  [some (.aload_n 2, 1), some (.getfield 110, 3), none, none, some (.iconst 2, 1), some (.if_icmp .ne 15, 3), none, none, some (.aload_n 0, 1), some (.getfield 37, 3), none, none, some (.iload_n 1, 1), some (.iconst 0, 1), some (.invokevirtual 165, 3), none],
  [none, some (.ifCond .le 6, 3), none, none, some (.bipush (-4), 2), none, some (.ireturn, 1), some (.aload_n 2, 1), some (.aload_n 2, 1), some (.invokevirtual 104, 3), none, none, some (.putfield 107, 3), none, none, some (.aload_n 2, 1)],
  [some (.iconst 0, 1), some (.putfield 110, 3), none, none, some (.aload_n 2, 1), some (.iconst 0, 1), some (.putfield 113, 3), none, none, some (.aload_n 2, 1), some (.getfield 107, 3), none, none, some (.ireturn, 1)]]
def mt_Mx_cancel : List (List (Option (Instr × Nat))) := [
  [some (.aload_n 0, 1), some (.getfield 12, 3), none, none, some (.iload_n 1, 1), some (.invokevirtual 86, 3), none, none, some (.astore_n 2, 1), some (.aload_n 2, 1), some (.ifnonnull 6, 3), none, none, some (.bipush (-2), 2), none, some (.ireturn, 1)],
  [some (.aload_n 2, 1), some (.getfield 110, 3), none, none, some (.ifCond .eq 15, 3), none, none, some (.aload_n 0, 1), some (.getfield 37, 3), none, none, some (.iload_n 1, 1), some (.iconst 1, 1), some (.invokevirtual 165, 3), none, none],
  [some (.ifCond .le 6, 3), none, none, some (.bipush (-4), 2), none, some (.ireturn, 1), some (.aload_n 2, 1), some (.getfield 110, 3), none, none, some (.istore_n 3, 1), some (.aload_n 2, 1), some (.iconst 0, 1), some (.putfield 110, 3), none, none],
  [some (.iload_n 3, 1), some (.ireturn, 1)]]
def mt_Mx_send : List (List (Option (Instr × Nat))) := [
  [some (.aload_n 0, 1), some (.getfield 12, 3), none, none, some (.iload_n 1, 1), some (.invokevirtual 86, 3), none, none, some (.ifnonnull 6, 3), none, none, some (.bipush (-2), 2), none, some (.ireturn, 1), some (.aload_n 0, 1), some (.getfield 37, 3)],
  [none, none, some (.iload_n 1, 1), some (.invokevirtual 169, 3), none, none, some (.ifCond .eq 13, 3), none, none, some (.aload_n 0, 1), some (.getfield 37, 3), none, none, some (.getfield 171, 3), none, none],
  [some (.goto 5, 3), none, none, some (.bipush (-5), 2), none, some (.ireturn, 1)]]
def mt_Mx_tick : List (List (Option (Instr × Nat))) := [
  [some (.aload_n 0, 1), some (.getfield 37, 3), none, none, some (.invokevirtual 174, 3), none, none, some (.ireturn, 1)]]
def mt_Mx_sound : List (List (Option (Instr × Nat))) := [
  [some (.aload_n 0, 1), some (.getfield 12, 3), none, none, some (.iload_n 1, 1), some (.invokevirtual 86, 3), none, none, some (.astore_n 3, 1), some (.aload_n 3, 1), some (.ifnonnull 6, 3), none, none, some (.bipush (-2), 2), none, some (.ireturn, 1)],
  [some (.aload_n 3, 1), some (.iload_n 2, 1), some (.invokevirtual 177, 3), none, none, some (.ifCond .ne 6, 3), none, none, some (.bipush (-3), 2), none, some (.ireturn, 1), some (.aload_n 0, 1), some (.getfield 21, 3), none, none, some (.iconst 1, 1)],
  [some (.iload_n 1, 1), some (.ishl, 1), some (.iconst 0, 1), some (.invokevirtual 79, 3), none, none, some (.aload_n 0, 1), some (.getfield 21, 3), none, none, some (.aload_n 3, 1), some (.iload_n 2, 1), some (.invokevirtual 180, 3), none, none, some (.ireturn, 1)]]
def mt_Mx_walk : List (List (Option (Instr × Nat))) := [
  [some (.aload_n 0, 1), some (.getfield 12, 3), none, none, some (.iload_n 1, 1), some (.invokevirtual 86, 3), none, none, some (.astore 4, 2), none, some (.aload 4, 2), none, some (.ifnonnull 6, 3), none, none, some (.bipush (-2), 2)],
  [none, some (.ireturn, 1), some (.aload 4, 2), none, some (.iload_n 2, 1), some (.invokevirtual 177, 3), none, none, some (.ifCond .ne 6, 3), none, none, some (.bipush (-3), 2), none, some (.ireturn, 1), some (.aload_n 0, 1), some (.getfield 21, 3)],
  [none, none, some (.getfield 184, 3), none, none, some (.astore 5, 2), none, some (.aload 5, 2), none, some (.aload_n 0, 1), some (.getfield 12, 3), none, none, some (.aload 4, 2), none, some (.iload_n 2, 1)],
  [some (.invokevirtual 188, 3), none, none, some (.iload_n 3, 1), some (.tableswitch 49 0 2 #[28, 34, 43], 28), none, none, none, none, none, none, none, none, none, none, none],
  [none, none, none, none, none, none, none, none, none, none, none, none, none, none, none, none],
  [some (.aload 5, 2), none, some (.getfield 194, 3), none, none, some (.ireturn, 1), some (.aload 5, 2), none, some (.getfield 194, 3), none, none, some (.invokestatic 197, 3), none, none, some (.ireturn, 1), some (.aload 5, 2)],
  [none, some (.getfield 202, 3), none, none, some (.ireturn, 1), some (.bipush (-3), 2), none, some (.ireturn, 1)]]
def mt_Mx_safe : List (List (Option (Instr × Nat))) := [
  [some (.aload_n 0, 1), some (.getfield 12, 3), none, none, some (.iload_n 1, 1), some (.invokevirtual 86, 3), none, none, some (.astore 4, 2), none, some (.aload 4, 2), none, some (.ifnonnull 6, 3), none, none, some (.bipush (-2), 2)],
  [none, some (.ireturn, 1), some (.aload 4, 2), none, some (.iload_n 2, 1), some (.invokevirtual 139, 3), none, none, some (.ifCond .eq 12, 3), none, none, some (.iload_n 3, 1), some (.ifCond .lt 8, 3), none, none, some (.iload_n 3, 1)],
  [some (.iconst 2, 1), some (.if_icmp .le 6, 3), none, none, some (.bipush (-3), 2), none, some (.ireturn, 1), some (.aload_n 0, 1), some (.getfield 21, 3), none, none, some (.iload_n 1, 1), some (.iload_n 2, 1), some (.invokevirtual 145, 3), none, none],
  [some (.istore 5, 2), none, some (.iload_n 3, 1), some (.ifCond .ne 15, 3), none, none, some (.iload 5, 2), none, some (.iconst (-1), 1), some (.if_icmp .ne 7, 3), none, none, some (.iconst 1, 1), some (.goto 4, 3), none, none],
  [some (.iconst 0, 1), some (.ireturn, 1), some (.iload_n 3, 1), some (.iconst 1, 1), some (.if_icmp .eq 9, 3), none, none, some (.iload 5, 2), none, some (.iconst (-1), 1), some (.if_icmp .ne 6, 3), none, none, some (.iload 5, 2), none, some (.ireturn, 1)],
  [some (.aload_n 0, 1), some (.getfield 21, 3), none, none, some (.aload 4, 2), none, some (.iload 5, 2), none, some (.invokevirtual 205, 3), none, none, some (.ireturn, 1)]]
def mt_Mx_plan : List (List (Option (Instr × Nat))) := [
  [some (.aload_n 0, 1), some (.getfield 12, 3), none, none, some (.iload_n 1, 1), some (.invokevirtual 86, 3), none, none, some (.ifnonnull 6, 3), none, none, some (.bipush (-2), 2), none, some (.ireturn, 1), some (.aload_n 0, 1), some (.getfield 30, 3)],
  [none, none, some (.iload_n 1, 1), some (.iconst 0, 1), some (.invokevirtual 152, 3), none, none, some (.ifCond .ne 6, 3), none, none, some (.bipush (-4), 2), none, some (.ireturn, 1), some (.iload_n 2, 1), some (.ifCond .lt 14, 3), none],
  [none, some (.iload_n 2, 1), some (.aload_n 0, 1), some (.getfield 30, 3), none, none, some (.invokevirtual 208, 3), none, none, some (.if_icmp .lt 6, 3), none, none, some (.bipush (-3), 2), none, some (.ireturn, 1), some (.aload_n 0, 1)],
  [some (.getfield 30, 3), none, none, some (.iload_n 2, 1), some (.invokevirtual 156, 3), none, none, some (.ireturn, 1)]]
def mt_Mx_rounds : List (List (Option (Instr × Nat))) := [
  [some (.aload_n 0, 1), some (.getfield 12, 3), none, none, some (.iload_n 1, 1), some (.invokevirtual 86, 3), none, none, some (.ifnonnull 6, 3), none, none, some (.bipush (-2), 2), none, some (.ireturn, 1), some (.aload_n 0, 1), some (.getfield 30, 3)],
  [none, none, some (.iload_n 1, 1), some (.iconst 0, 1), some (.invokevirtual 152, 3), none, none, some (.ifCond .eq 13, 3), none, none, some (.aload_n 0, 1), some (.getfield 30, 3), none, none, some (.invokevirtual 208, 3), none],
  [none, some (.goto 4, 3), none, none, some (.iconst (-1), 1), some (.ireturn, 1)]]
def mt_Mx_order : List (List (Option (Instr × Nat))) := [
  [some (.iload_n 1, 1), some (.ifCond .lt 8, 3), none, none, some (.iload_n 1, 1), some (.iconst 3, 1), some (.if_icmp .lt 6, 3), none, none, some (.bipush (-3), 2), none, some (.ireturn, 1), some (.iconst 0, 1), some (.istore_n 2, 1), some (.iload_n 2, 1), some (.iconst 3, 1)],
  [some (.iadd, 1), some (.getstatic 210, 3), none, none, some (.arraylength, 1), some (.if_icmp .gt 71, 3), none, none, some (.iconst 0, 1), some (.istore_n 3, 1), some (.iconst 0, 1), some (.istore 4, 2), none, some (.iload_n 3, 1), some (.iconst 3, 1), some (.if_icmp .ge 42, 3)],
  [none, none, some (.aload_n 0, 1), some (.getfield 30, 3), none, none, some (.getstatic 210, 3), none, none, some (.iload_n 2, 1), some (.iload_n 3, 1), some (.iadd, 1), some (.iaload, 1), some (.iload 4, 2), none, some (.invokevirtual 152, 3)],
  [none, none, some (.ifCond .eq 23, 3), none, none, some (.iload 4, 2), none, some (.iconst 1, 1), some (.getstatic 210, 3), none, none, some (.iload_n 2, 1), some (.iload_n 3, 1), some (.iadd, 1), some (.iaload, 1), some (.ishl, 1)],
  [some (.ior, 1), some (.istore 4, 2), none, some (.iinc 3 1, 3), none, none, some (.goto (-41), 3), none, none, some (.iload_n 3, 1), some (.iconst 3, 1), some (.if_icmp .ne 11, 3), none, none, some (.getstatic 210, 3), none],
  [none, some (.iload_n 2, 1), some (.iload_n 1, 1), some (.iadd, 1), some (.iaload, 1), some (.ireturn, 1), some (.iinc 2 3, 3), none, none, some (.goto (-75), 3), none, none, some (.iconst (-1), 1), some (.ireturn, 1)]]
def mt_Mx_waits : List (List (Option (Instr × Nat))) := [
  [some (.aload_n 0, 1), some (.getfield 12, 3), none, none, some (.iload_n 1, 1), some (.invokevirtual 86, 3), none, none, some (.astore_n 3, 1), some (.aload_n 3, 1), some (.ifnull 14, 3), none, none, some (.aload_n 0, 1), some (.getfield 12, 3), none],
  [none, some (.iload_n 2, 1), some (.invokevirtual 86, 3), none, none, some (.ifnonnull 6, 3), none, none, some (.bipush (-2), 2), none, some (.ireturn, 1), some (.aload_n 3, 1), some (.invokevirtual 104, 3), none, none, some (.istore 4, 2)],
  [none, some (.aload_n 0, 1), some (.getfield 21, 3), none, none, some (.iconst 1, 1), some (.iload_n 1, 1), some (.ishl, 1), some (.iconst 0, 1), some (.invokevirtual 79, 3), none, none, some (.aload_n 0, 1), some (.getfield 21, 3), none, none],
  [some (.aload_n 3, 1), some (.iload 4, 2), none, some (.invokevirtual 180, 3), none, none, some (.istore 5, 2), none, some (.aload_n 0, 1), some (.getfield 21, 3), none, none, some (.iconst 1, 1), some (.iload_n 1, 1), some (.ishl, 1), some (.iconst 1, 1)],
  [some (.iload_n 2, 1), some (.ishl, 1), some (.ior, 1), some (.iconst 0, 1), some (.invokevirtual 79, 3), none, none, some (.aload_n 0, 1), some (.getfield 21, 3), none, none, some (.aload_n 3, 1), some (.iload 4, 2), none, some (.invokevirtual 180, 3), none],
  [none, some (.istore 6, 2), none, some (.iload 5, 2), none, some (.iconst 1, 1), some (.iand, 1), some (.ifCond .eq 23, 3), none, none, some (.iload 5, 2), none, some (.bipush 8, 2), none, some (.iand, 1), some (.ifCond .ne 15, 3)],
  [none, none, some (.iload 6, 2), none, some (.bipush 8, 2), none, some (.iand, 1), some (.ifCond .eq 7, 3), none, none, some (.iconst 1, 1), some (.goto 4, 3), none, none, some (.iconst 0, 1), some (.istore 7, 2)],
  [none, some (.iload 7, 2), none, some (.ifCond .eq 7, 3), none, none, some (.iconst 1, 1), some (.goto 4, 3), none, none, some (.iconst 0, 1), some (.ireturn, 1)]]
def mt_Mx_letter : List (List (Option (Instr × Nat))) := [
  [some (.aload_n 0, 1), some (.getfield 37, 3), none, none, some (.iload_n 1, 1), some (.invokevirtual 214, 3), none, none, some (.astore_n 3, 1), some (.aload_n 3, 1), some (.ifnonnull 6, 3), none, none, some (.bipush (-2), 2), none, some (.ireturn, 1)],
  [some (.iload_n 2, 1), some (.tableswitch 89 0 5 #[39, 44, 49, 54, 67, 76], 39), none, none, none, none, none, none, none, none, none, none, none, none, none, none],
  [none, none, none, none, none, none, none, none, none, none, none, none, none, none, none, none],
  [none, none, none, none, none, none, none, none, some (.aload_n 3, 1), some (.getfield 218, 3), none, none, some (.ireturn, 1), some (.aload_n 3, 1), some (.getfield 223, 3), none],
  [none, some (.ireturn, 1), some (.aload_n 3, 1), some (.getfield 226, 3), none, none, some (.ireturn, 1), some (.aload_n 3, 1), some (.getfield 229, 3), none, none, some (.ifCond .eq 7, 3), none, none, some (.iconst 1, 1), some (.goto 4, 3)],
  [none, none, some (.iconst 0, 1), some (.ireturn, 1), some (.aload_n 0, 1), some (.getfield 37, 3), none, none, some (.aload_n 3, 1), some (.invokevirtual 233, 3), none, none, some (.ireturn, 1), some (.aload_n 3, 1), some (.invokevirtual 237, 3), none],
  [none, some (.ifCond .eq 7, 3), none, none, some (.iconst 1, 1), some (.goto 4, 3), none, none, some (.iconst 0, 1), some (.ireturn, 1), some (.bipush (-3), 2), none, some (.ireturn, 1)]]
def mt_Mx_count : List (List (Option (Instr × Nat))) := [
  [some (.iload_n 1, 1), some (.tableswitch 147 0 10 #[59, 67, 75, 83, 91, 99, 107, 115, 123, 131, 139], 59), none, none, none, none, none, none, none, none, none, none, none, none, none, none],
  [none, none, none, none, none, none, none, none, none, none, none, none, none, none, none, none],
  [none, none, none, none, none, none, none, none, none, none, none, none, none, none, none, none],
  [none, none, none, none, none, none, none, none, none, none, none, none, some (.aload_n 0, 1), some (.getfield 12, 3), none, none],
  [some (.getfield 241, 3), none, none, some (.ireturn, 1), some (.aload_n 0, 1), some (.getfield 12, 3), none, none, some (.invokevirtual 244, 3), none, none, some (.ireturn, 1), some (.aload_n 0, 1), some (.getfield 12, 3), none, none],
  [some (.getfield 133, 3), none, none, some (.ireturn, 1), some (.aload_n 0, 1), some (.getfield 12, 3), none, none, some (.getfield 136, 3), none, none, some (.ireturn, 1), some (.aload_n 0, 1), some (.getfield 37, 3), none, none],
  [some (.getfield 171, 3), none, none, some (.ireturn, 1), some (.aload_n 0, 1), some (.getfield 37, 3), none, none, some (.getfield 247, 3), none, none, some (.ireturn, 1), some (.aload_n 0, 1), some (.getfield 37, 3), none, none],
  [some (.getfield 250, 3), none, none, some (.ireturn, 1), some (.aload_n 0, 1), some (.getfield 37, 3), none, none, some (.getfield 253, 3), none, none, some (.ireturn, 1), some (.aload_n 0, 1), some (.getfield 37, 3), none, none],
  [some (.getfield 256, 3), none, none, some (.ireturn, 1), some (.aload_n 0, 1), some (.getfield 44, 3), none, none, some (.getfield 52, 3), none, none, some (.ireturn, 1), some (.aload_n 0, 1), some (.getfield 12, 3), none, none],
  [some (.invokevirtual 162, 3), none, none, some (.ireturn, 1), some (.bipush (-3), 2), none, some (.ireturn, 1)]]
def mt_Mx_isPlace : List (List (Option (Instr × Nat))) := [
  [some (.iload_n 0, 1), some (.ifCond .lt 12, 3), none, none, some (.iload_n 0, 1), some (.iload_n 1, 1), some (.if_icmp .ge 7, 3), none, none, some (.iconst 1, 1), some (.goto 4, 3), none, none, some (.iconst 0, 1), some (.ireturn, 1)]]
def mt_Mo_init : List (List (Option (Instr × Nat))) := [
  [some (.aload_n 0, 1), some (.invokespecial 1, 3), none, none, some (.aload_n 0, 1), some (.iconst 2, 1), some (.putfield 7, 3), none, none, some (.aload_n 0, 1), some (.bipush 64, 2), none, some (.newarray .int, 2), none, some (.putfield 13, 3), none],
  [none, some (.aload_n 0, 1), some (.iconst 3, 1), some (.newarray .int, 2), none, some (.putfield 17, 3), none, none, some (.aload_n 0, 1), some (.iconst 3, 1), some (.newarray .int, 2), none, some (.putfield 20, 3), none, none, some (.aload_n 0, 1)],
  [some (.iconst 3, 1), some (.newarray .int, 2), none, some (.putfield 23, 3), none, none, some (.aload_n 0, 1), some (.iconst 3, 1), some (.newarray .int, 2), none, some (.putfield 26, 3), none, none, some (.aload_n 0, 1), some (.bipush 24, 2), none],
  [some (.newarray .int, 2), none, some (.putfield 29, 3), none, none, some (.aload_n 0, 1), some (.bipush 24, 2), none, some (.newarray .int, 2), none, some (.putfield 32, 3), none, none, some (.aload_n 0, 1), some (.bipush 15, 2), none],
  [some (.putfield 35, 3), none, none, some (.aload_n 0, 1), some (.bipush 6, 2), none, some (.putfield 38, 3), none, none, some (.aload_n 0, 1), some (.iconst 3, 1), some (.newarray .int, 2), none, some (.putfield 41, 3), none, none],
  [some (.aload_n 0, 1), some (.iconst 3, 1), some (.newarray .int, 2), none, some (.putfield 44, 3), none, none, some (.aload_n 0, 1), some (.bipush 24, 2), none, some (.newarray .int, 2), none, some (.putfield 47, 3), none, none, some (.aload_n 0, 1)],
  [some (.iconst 3, 1), some (.newarray .int, 2), none, some (.putfield 50, 3), none, none, some (.aload_n 0, 1), some (.iconst 3, 1), some (.newarray .int, 2), none, some (.putfield 53, 3), none, none, some (.aload_n 0, 1), some (.bipush 96, 2), none],
  [some (.newarray .int, 2), none, some (.putfield 56, 3), none, none, some (.aload_n 0, 1), some (.sipush 200, 3), none, none, some (.newarray .int, 2), none, some (.putfield 59, 3), none, none, some (.aload_n 0, 1), some (.iconst 3, 1)],
  [some (.newarray .int, 2), none, some (.putfield 62, 3), none, none, some (.aload_n 0, 1), some (.iconst 3, 1), some (.newarray .int, 2), none, some (.putfield 65, 3), none, none, some (.aload_n 0, 1), some (.iconst 4, 1), some (.newarray .int, 2), none],
  [some (.putfield 68, 3), none, none, some (.aload_n 0, 1), some (.bipush 24, 2), none, some (.newarray .int, 2), none, some (.dup, 1), some (.iconst 0, 1), some (.bipush 110, 2), none, some (.iastore, 1), some (.dup, 1), some (.iconst 1, 1), some (.bipush 101, 2)],
  [none, some (.iastore, 1), some (.dup, 1), some (.iconst 2, 1), some (.bipush 116, 2), none, some (.iastore, 1), some (.dup, 1), some (.iconst 3, 1), some (.iconst 0, 1), some (.iastore, 1), some (.dup, 1), some (.iconst 4, 1), some (.bipush 108, 2), none, some (.iastore, 1)],
  [some (.dup, 1), some (.iconst 5, 1), some (.bipush 105, 2), none, some (.iastore, 1), some (.dup, 1), some (.bipush 6, 2), none, some (.bipush 110, 2), none, some (.iastore, 1), some (.dup, 1), some (.bipush 7, 2), none, some (.bipush 107, 2), none],
  [some (.iastore, 1), some (.dup, 1), some (.bipush 8, 2), none, some (.bipush 102, 2), none, some (.iastore, 1), some (.dup, 1), some (.bipush 9, 2), none, some (.bipush 108, 2), none, some (.iastore, 1), some (.dup, 1), some (.bipush 10, 2), none],
  [some (.bipush 111, 2), none, some (.iastore, 1), some (.dup, 1), some (.bipush 11, 2), none, some (.bipush 119, 2), none, some (.iastore, 1), some (.dup, 1), some (.bipush 12, 2), none, some (.bipush 112, 2), none, some (.iastore, 1), some (.dup, 1)],
  [some (.bipush 13, 2), none, some (.bipush 111, 2), none, some (.iastore, 1), some (.dup, 1), some (.bipush 14, 2), none, some (.bipush 115, 2), none, some (.iastore, 1), some (.dup, 1), some (.bipush 15, 2), none, some (.bipush 116, 2), none],
  [some (.iastore, 1), some (.dup, 1), some (.bipush 16, 2), none, some (.bipush 111, 2), none, some (.iastore, 1), some (.dup, 1), some (.bipush 17, 2), none, some (.bipush 108, 2), none, some (.iastore, 1), some (.dup, 1), some (.bipush 18, 2), none],
  [some (.bipush 100, 2), none, some (.iastore, 1), some (.dup, 1), some (.bipush 19, 2), none, some (.iconst 0, 1), some (.iastore, 1), some (.dup, 1), some (.bipush 20, 2), none, some (.bipush 110, 2), none, some (.iastore, 1), some (.dup, 1), some (.bipush 21, 2)],
  [none, some (.bipush 101, 2), none, some (.iastore, 1), some (.dup, 1), some (.bipush 22, 2), none, some (.bipush 119, 2), none, some (.iastore, 1), some (.dup, 1), some (.bipush 23, 2), none, some (.iconst 0, 1), some (.iastore, 1), some (.putfield 71, 3)],
  [none, none, some (.aload_n 0, 1), some (.bipush 8, 2), none, some (.newarray .int, 2), none, some (.putfield 74, 3), none, none, some (.aload_n 0, 1), some (.iconst 3, 1), some (.newarray .int, 2), none, some (.putfield 77, 3), none],
  [none, some (.aload_n 0, 1), some (.bipush 64, 2), none, some (.newarray .int, 2), none, some (.putfield 80, 3), none, none, some (.aload_n 0, 1), some (.sipush 256, 3), none, none, some (.newarray .boolean, 2), none, some (.putfield 83, 3)],
  [none, none, some (.aload_n 0, 1), some (.sipush 256, 3), none, none, some (.newarray .int, 2), none, some (.putfield 87, 3), none, none, some (.aload_n 0, 1), some (.sipush 256, 3), none, none, some (.newarray .int, 2)],
  [none, some (.putfield 90, 3), none, none, some (.aload_n 0, 1), some (.iconst 2, 1), some (.invokevirtual 93, 3), none, none, some (.return_, 1)]]
def mt_Mo_in : List (List (Option (Instr × Nat))) := [
  [some (.lload_n 0, 1), some (.lload_n 2, 1), some (.lcmp, 1), some (.ifCond .lt 14, 3), none, none, some (.lload_n 0, 1), some (.lload 4, 2), none, some (.lcmp, 1), some (.ifCond .gt 7, 3), none, none, some (.iconst 1, 1), some (.goto 4, 3), none],
  [none, some (.iconst 0, 1), some (.ireturn, 1)]]
def mt_Mo_has : List (List (Option (Instr × Nat))) := [
  [some (.iload_n 0, 1), some (.iload_n 1, 1), some (.ishr, 1), some (.iconst 1, 1), some (.iand, 1), some (.iconst 1, 1), some (.if_icmp .ne 7, 3), none, none, some (.iconst 1, 1), some (.goto 4, 3), none, none, some (.iconst 0, 1), some (.ireturn, 1)]]
def mt_Mo_isNode : List (List (Option (Instr × Nat))) := [
  [some (.iload_n 1, 1), some (.i2l, 1), some (.lconst 0, 1), some (.aload_n 0, 1), some (.getfield 7, 3), none, none, some (.iconst 1, 1), some (.isub, 1), some (.i2l, 1), some (.invokestatic 97, 3), none, none, some (.ireturn, 1)]]
def mt_Mo_isFlow : List (List (Option (Instr × Nat))) := [
  [some (.iload_n 0, 1), some (.i2l, 1), some (.lconst 0, 1), some (.ldc2_w 101, 3), none, none, some (.invokestatic 97, 3), none, none, some (.ireturn, 1)]]
def mt_Mo_flows : List (List (Option (Instr × Nat))) := [
  [some (.aload_n 0, 1), some (.getfield 17, 3), none, none, some (.iload_n 1, 1), some (.iload_n 2, 1), some (.iastore, 1), some (.aload_n 0, 1), some (.getfield 20, 3), none, none, some (.iload_n 1, 1), some (.iload_n 3, 1), some (.iastore, 1), some (.aload_n 0, 1), some (.getfield 23, 3)],
  [none, none, some (.iload_n 1, 1), some (.iload 4, 2), none, some (.iastore, 1), some (.aload_n 0, 1), some (.getfield 26, 3), none, none, some (.iload_n 1, 1), some (.iconst (-1), 1), some (.iastore, 1), some (.iconst 0, 1), some (.istore 5, 2), none],
  [some (.iload 5, 2), none, some (.bipush 8, 2), none, some (.if_icmp .ge 35, 3), none, none, some (.aload_n 0, 1), some (.getfield 29, 3), none, none, some (.bipush 8, 2), none, some (.iload_n 1, 1), some (.imul, 1), some (.iload 5, 2)],
  [none, some (.iadd, 1), some (.iconst (-1), 1), some (.iastore, 1), some (.aload_n 0, 1), some (.getfield 32, 3), none, none, some (.bipush 8, 2), none, some (.iload_n 1, 1), some (.imul, 1), some (.iload 5, 2), none, some (.iadd, 1), some (.iconst (-1), 1)],
  [some (.iastore, 1), some (.iinc 5 1, 3), none, none, some (.goto (-36), 3), none, none, some (.return_, 1)]]
def mt_Mo_begins : List (List (Option (Instr × Nat))) := [
  [some (.aload_n 0, 1), some (.iload_n 1, 1), some (.putfield 7, 3), none, none, some (.iconst 0, 1), some (.istore_n 2, 1), some (.iload_n 2, 1), some (.bipush 64, 2), none, some (.if_icmp .ge 16, 3), none, none, some (.aload_n 0, 1), some (.getfield 13, 3), none],
  [none, some (.iload_n 2, 1), some (.iconst 0, 1), some (.iastore, 1), some (.iinc 2 1, 3), none, none, some (.goto (-16), 3), none, none, some (.iconst 0, 1), some (.istore_n 2, 1), some (.iload_n 2, 1), some (.iconst 3, 1), some (.if_icmp .ge 17, 3), none],
  [none, some (.aload_n 0, 1), some (.iload_n 2, 1), some (.iconst 0, 1), some (.iconst 1, 1), some (.iconst 1, 1), some (.invokevirtual 103, 3), none, none, some (.iinc 2 1, 3), none, none, some (.goto (-16), 3), none, none, some (.return_, 1)]]
def mt_Mo_write : List (List (Option (Instr × Nat))) := [
  [some (.iload_n 1, 1), some (.i2l, 1), some (.lconst 0, 1), some (.ldc2_w 107, 3), none, none, some (.invokestatic 97, 3), none, none, some (.ifCond .ne 6, 3), none, none, some (.bipush (-3), 2), none, some (.ireturn, 1), some (.aload_n 0, 1)],
  [some (.getfield 109, 3), none, none, some (.sipush 200, 3), none, none, some (.if_icmp .ne 6, 3), none, none, some (.bipush (-5), 2), none, some (.ireturn, 1), some (.aload_n 0, 1), some (.getfield 59, 3), none, none],
  [some (.aload_n 0, 1), some (.getfield 109, 3), none, none, some (.iload_n 1, 1), some (.iastore, 1), some (.aload_n 0, 1), some (.dup, 1), some (.getfield 109, 3), none, none, some (.iconst 1, 1), some (.iadd, 1), some (.putfield 109, 3), none, none],
  [some (.aload_n 0, 1), some (.getfield 109, 3), none, none, some (.ireturn, 1)]]
def mt_Mo_erase : List (List (Option (Instr × Nat))) := [
  [some (.aload_n 0, 1), some (.getfield 109, 3), none, none, some (.istore_n 1, 1), some (.aload_n 0, 1), some (.iconst 0, 1), some (.putfield 109, 3), none, none, some (.iload_n 1, 1), some (.ireturn, 1)]]
def mt_Mo_isSmall : List (List (Option (Instr × Nat))) := [
  [some (.iload_n 0, 1), some (.i2l, 1), some (.ldc2_w 112, 3), none, none, some (.ldc2_w 114, 3), none, none, some (.invokestatic 97, 3), none, none, some (.ireturn, 1)]]
def mt_Mo_isDigit : List (List (Option (Instr × Nat))) := [
  [some (.iload_n 0, 1), some (.i2l, 1), some (.ldc2_w 116, 3), none, none, some (.ldc2_w 118, 3), none, none, some (.invokestatic 97, 3), none, none, some (.ireturn, 1)]]
def mt_Mo_nextToken : List (List (Option (Instr × Nat))) := [
  [some (.aload_n 0, 1), some (.aload_n 0, 1), some (.getfield 120, 3), none, none, some (.putfield 123, 3), none, none, some (.aload_n 0, 1), some (.getfield 123, 3), none, none, some (.aload_n 0, 1), some (.getfield 109, 3), none, none],
  [some (.if_icmp .ge 30, 3), none, none, some (.aload_n 0, 1), some (.getfield 59, 3), none, none, some (.aload_n 0, 1), some (.getfield 123, 3), none, none, some (.iaload, 1), some (.bipush 32, 2), none, some (.if_icmp .ne 16, 3), none],
  [none, some (.aload_n 0, 1), some (.dup, 1), some (.getfield 123, 3), none, none, some (.iconst 1, 1), some (.iadd, 1), some (.putfield 123, 3), none, none, some (.goto (-35), 3), none, none, some (.aload_n 0, 1), some (.aload_n 0, 1)],
  [some (.getfield 123, 3), none, none, some (.aload_n 0, 1), some (.getfield 109, 3), none, none, some (.if_icmp .ge 12, 3), none, none, some (.aload_n 0, 1), some (.getfield 123, 3), none, none, some (.iconst 1, 1), some (.iadd, 1)],
  [some (.goto 7, 3), none, none, some (.aload_n 0, 1), some (.getfield 123, 3), none, none, some (.putfield 120, 3), none, none, some (.aload_n 0, 1), some (.getfield 123, 3), none, none, some (.aload_n 0, 1), some (.getfield 109, 3)],
  [none, none, some (.if_icmp .ge 57, 3), none, none, some (.aload_n 0, 1), some (.getfield 59, 3), none, none, some (.aload_n 0, 1), some (.getfield 123, 3), none, none, some (.iaload, 1), some (.invokestatic 126, 3), none],
  [none, some (.ifCond .eq 42, 3), none, none, some (.aload_n 0, 1), some (.getfield 120, 3), none, none, some (.aload_n 0, 1), some (.getfield 109, 3), none, none, some (.if_icmp .ge 96, 3), none, none, some (.aload_n 0, 1)],
  [some (.getfield 59, 3), none, none, some (.aload_n 0, 1), some (.getfield 120, 3), none, none, some (.iaload, 1), some (.invokestatic 126, 3), none, none, some (.ifCond .eq 81, 3), none, none, some (.aload_n 0, 1), some (.dup, 1)],
  [some (.getfield 120, 3), none, none, some (.iconst 1, 1), some (.iadd, 1), some (.putfield 120, 3), none, none, some (.goto (-36), 3), none, none, some (.aload_n 0, 1), some (.getfield 123, 3), none, none, some (.aload_n 0, 1)],
  [some (.getfield 109, 3), none, none, some (.if_icmp .ge 57, 3), none, none, some (.aload_n 0, 1), some (.getfield 59, 3), none, none, some (.aload_n 0, 1), some (.getfield 123, 3), none, none, some (.iaload, 1), some (.invokestatic 130, 3)],
  [none, none, some (.ifCond .eq 42, 3), none, none, some (.aload_n 0, 1), some (.getfield 120, 3), none, none, some (.aload_n 0, 1), some (.getfield 109, 3), none, none, some (.if_icmp .ge 31, 3), none, none],
  [some (.aload_n 0, 1), some (.getfield 59, 3), none, none, some (.aload_n 0, 1), some (.getfield 120, 3), none, none, some (.iaload, 1), some (.invokestatic 130, 3), none, none, some (.ifCond .eq 16, 3), none, none, some (.aload_n 0, 1)],
  [some (.dup, 1), some (.getfield 120, 3), none, none, some (.iconst 1, 1), some (.iadd, 1), some (.putfield 120, 3), none, none, some (.goto (-36), 3), none, none, some (.return_, 1)]]
def mt_Mo_wordHere : List (List (Option (Instr × Nat))) := [
  [some (.iconst 0, 1), some (.istore_n 1, 1), some (.iload_n 1, 1), some (.iconst 5, 1), some (.if_icmp .gt 109, 3), none, none, some (.aload_n 0, 1), some (.getfield 120, 3), none, none, some (.aload_n 0, 1), some (.getfield 123, 3), none, none, some (.if_icmp .le 20, 3)],
  [none, none, some (.aload_n 0, 1), some (.getfield 120, 3), none, none, some (.aload_n 0, 1), some (.getfield 123, 3), none, none, some (.isub, 1), some (.iconst 5, 1), some (.if_icmp .ge 7, 3), none, none, some (.iconst 1, 1)],
  [some (.goto 4, 3), none, none, some (.iconst 0, 1), some (.istore_n 2, 1), some (.iconst 0, 1), some (.istore_n 3, 1), some (.iload_n 3, 1), some (.iconst 4, 1), some (.if_icmp .ge 60, 3), none, none, some (.iload_n 2, 1), some (.ifCond .eq 56, 3), none, none],
  [some (.aload_n 0, 1), some (.getfield 71, 3), none, none, some (.iconst 4, 1), some (.iload_n 1, 1), some (.imul, 1), some (.iload_n 3, 1), some (.iadd, 1), some (.iaload, 1), some (.aload_n 0, 1), some (.getfield 123, 3), none, none, some (.iload_n 3, 1), some (.iadd, 1)],
  [some (.aload_n 0, 1), some (.getfield 120, 3), none, none, some (.if_icmp .ge 17, 3), none, none, some (.aload_n 0, 1), some (.getfield 59, 3), none, none, some (.aload_n 0, 1), some (.getfield 123, 3), none, none, some (.iload_n 3, 1)],
  [some (.iadd, 1), some (.iaload, 1), some (.goto 4, 3), none, none, some (.iconst 0, 1), some (.if_icmp .ne 7, 3), none, none, some (.iconst 1, 1), some (.goto 4, 3), none, none, some (.iconst 0, 1), some (.istore_n 2, 1), some (.iinc 3 1, 3)],
  [none, none, some (.goto (-59), 3), none, none, some (.iload_n 2, 1), some (.ifCond .eq 5, 3), none, none, some (.iload_n 1, 1), some (.ireturn, 1), some (.iinc 1 1, 3), none, none, some (.goto (-108), 3), none],
  [none, some (.iconst (-1), 1), some (.ireturn, 1)]]
def mt_Mo_number : List (List (Option (Instr × Nat))) := [
  [some (.aload_n 0, 1), some (.getfield 123, 3), none, none, some (.aload_n 0, 1), some (.getfield 109, 3), none, none, some (.if_icmp .eq 31, 3), none, none, some (.aload_n 0, 1), some (.getfield 59, 3), none, none, some (.aload_n 0, 1)],
  [some (.getfield 123, 3), none, none, some (.iaload, 1), some (.invokestatic 130, 3), none, none, some (.ifCond .eq 16, 3), none, none, some (.aload_n 0, 1), some (.getfield 120, 3), none, none, some (.aload_n 0, 1), some (.getfield 123, 3)],
  [none, none, some (.isub, 1), some (.iconst 1, 1), some (.if_icmp .le 5, 3), none, none, some (.iconst 0, 1), some (.ireturn, 1), some (.aload_n 0, 1), some (.getfield 59, 3), none, none, some (.aload_n 0, 1), some (.getfield 123, 3), none],
  [none, some (.iaload, 1), some (.bipush 48, 2), none, some (.isub, 1), some (.istore 6, 2), none, some (.iload 6, 2), none, some (.i2l, 1), some (.iload_n 2, 1), some (.i2l, 1), some (.iload_n 3, 1), some (.i2l, 1), some (.invokestatic 97, 3), none],
  [none, some (.ifCond .eq 21, 3), none, none, some (.iload 6, 2), none, some (.iload 4, 2), none, some (.if_icmp .eq 14, 3), none, none, some (.iload 6, 2), none, some (.iload 5, 2), none, some (.if_icmp .eq 7, 3)],
  [none, none, some (.iconst 1, 1), some (.goto 4, 3), none, none, some (.iconst 0, 1), some (.istore 7, 2), none, some (.iload 7, 2), none, some (.ifCond .eq 15, 3), none, none, some (.aload_n 0, 1), some (.getfield 68, 3)],
  [none, none, some (.iload_n 1, 1), some (.iload 6, 2), none, some (.iastore, 1), some (.aload_n 0, 1), some (.invokevirtual 133, 3), none, none, some (.iload 7, 2), none, some (.ireturn, 1)]]
def mt_Mo_node : List (List (Option (Instr × Nat))) := [
  [some (.aload_n 0, 1), some (.iload_n 1, 1), some (.iconst 0, 1), some (.aload_n 0, 1), some (.getfield 136, 3), none, none, some (.iconst 1, 1), some (.isub, 1), some (.iload_n 2, 1), some (.iload_n 3, 1), some (.invokevirtual 139, 3), none, none, some (.ireturn, 1)]]
def mt_Mo_readsRest : List (List (Option (Instr × Nat))) := [
  [some (.iload_n 1, 1), some (.tableswitch 190 0 3 #[31, 42, 86, 142], 31), none, none, none, none, none, none, none, none, none, none, none, none, none, none],
  [none, none, none, none, none, none, none, none, none, none, none, none, none, none, none, none],
  [some (.aload_n 0, 1), some (.iconst 0, 1), some (.iconst 2, 1), some (.bipush 8, 2), none, some (.iconst (-1), 1), some (.iconst (-1), 1), some (.invokevirtual 139, 3), none, none, some (.ireturn, 1), some (.aload_n 0, 1), some (.iconst 0, 1), some (.iconst (-1), 1), some (.iconst (-1), 1), some (.invokevirtual 143, 3)],
  [none, none, some (.ifCond .eq 35, 3), none, none, some (.aload_n 0, 1), some (.iconst 1, 1), some (.aload_n 0, 1), some (.getfield 68, 3), none, none, some (.iconst 0, 1), some (.iaload, 1), some (.iconst (-1), 1), some (.invokevirtual 143, 3), none],
  [none, some (.ifCond .eq 20, 3), none, none, some (.aload_n 0, 1), some (.iconst 2, 1), some (.iconst 0, 1), some (.bipush 9, 2), none, some (.iconst (-1), 1), some (.iconst (-1), 1), some (.invokevirtual 139, 3), none, none, some (.ifCond .eq 7, 3), none],
  [none, some (.iconst 1, 1), some (.goto 4, 3), none, none, some (.iconst 0, 1), some (.ireturn, 1), some (.aload_n 0, 1), some (.iconst 0, 1), some (.iconst 0, 1), some (.iconst 2, 1), some (.iconst (-1), 1), some (.iconst (-1), 1), some (.invokevirtual 139, 3), none, none],
  [some (.ifCond .eq 45, 3), none, none, some (.aload_n 0, 1), some (.iconst 1, 1), some (.iconst (-1), 1), some (.iconst (-1), 1), some (.invokevirtual 143, 3), none, none, some (.ifCond .eq 35, 3), none, none, some (.aload_n 0, 1), some (.iconst 2, 1), some (.aload_n 0, 1)],
  [some (.getfield 68, 3), none, none, some (.iconst 1, 1), some (.iaload, 1), some (.iconst (-1), 1), some (.invokevirtual 143, 3), none, none, some (.ifCond .eq 20, 3), none, none, some (.aload_n 0, 1), some (.iconst 3, 1), some (.iconst 1, 1), some (.bipush 9, 2)],
  [none, some (.iconst (-1), 1), some (.iconst (-1), 1), some (.invokevirtual 139, 3), none, none, some (.ifCond .eq 7, 3), none, none, some (.iconst 1, 1), some (.goto 4, 3), none, none, some (.iconst 0, 1), some (.ireturn, 1), some (.aload_n 0, 1)],
  [some (.iconst 0, 1), some (.iconst 0, 1), some (.iconst 2, 1), some (.iconst (-1), 1), some (.iconst (-1), 1), some (.invokevirtual 139, 3), none, none, some (.ifCond .eq 37, 3), none, none, some (.aload_n 0, 1), some (.iconst 1, 1), some (.aload_n 0, 1), some (.getfield 62, 3), none],
  [none, some (.aload_n 0, 1), some (.getfield 68, 3), none, none, some (.iconst 0, 1), some (.iaload, 1), some (.iaload, 1), some (.aload_n 0, 1), some (.getfield 65, 3), none, none, some (.aload_n 0, 1), some (.getfield 68, 3), none, none],
  [some (.iconst 0, 1), some (.iaload, 1), some (.iaload, 1), some (.invokevirtual 143, 3), none, none, some (.ifCond .eq 7, 3), none, none, some (.iconst 1, 1), some (.goto 4, 3), none, none, some (.iconst 0, 1), some (.ireturn, 1), some (.aload_n 0, 1)],
  [some (.iconst 0, 1), some (.iconst 0, 1), some (.iconst 2, 1), some (.iconst (-1), 1), some (.iconst (-1), 1), some (.invokevirtual 139, 3), none, none, some (.ifCond .eq 42, 3), none, none, some (.aload_n 0, 1), some (.iconst 1, 1), some (.aload_n 0, 1), some (.getfield 65, 3), none],
  [none, some (.aload_n 0, 1), some (.getfield 68, 3), none, none, some (.iconst 0, 1), some (.iaload, 1), some (.iaload, 1), some (.iconst (-1), 1), some (.invokevirtual 143, 3), none, none, some (.ifCond .eq 22, 3), none, none, some (.aload_n 0, 1)],
  [some (.iconst 2, 1), some (.aload_n 0, 1), some (.getfield 68, 3), none, none, some (.iconst 1, 1), some (.iaload, 1), some (.iconst (-1), 1), some (.invokevirtual 143, 3), none, none, some (.ifCond .eq 7, 3), none, none, some (.iconst 1, 1), some (.goto 4, 3)],
  [none, none, some (.iconst 0, 1), some (.ireturn, 1)]]
def mt_Mo_does : List (List (Option (Instr × Nat))) := [
  [some (.aload_n 0, 1), some (.getfield 68, 3), none, none, some (.iconst 0, 1), some (.iaload, 1), some (.istore_n 2, 1), some (.iload_n 1, 1), some (.tableswitch 145 0 4 #[36, 49, 79, 105, 120], 36), none, none, none, none, none, none, none],
  [none, none, none, none, none, none, none, none, none, none, none, none, none, none, none, none],
  [none, none, none, none, none, none, none, none, none, none, none, none, some (.aload_n 0, 1), some (.aload_n 0, 1), some (.getfield 68, 3), none],
  [none, some (.iconst 0, 1), some (.iaload, 1), some (.invokevirtual 93, 3), none, none, some (.goto 121, 3), none, none, some (.aload_n 0, 1), some (.getfield 13, 3), none, none, some (.bipush 8, 2), none, some (.aload_n 0, 1)],
  [some (.getfield 68, 3), none, none, some (.iconst 0, 1), some (.iaload, 1), some (.imul, 1), some (.aload_n 0, 1), some (.getfield 68, 3), none, none, some (.iconst 1, 1), some (.iaload, 1), some (.iadd, 1), some (.aload_n 0, 1), some (.getfield 68, 3), none],
  [none, some (.iconst 2, 1), some (.iaload, 1), some (.iastore, 1), some (.goto 91, 3), none, none, some (.aload_n 0, 1), some (.iload_n 2, 1), some (.aload_n 0, 1), some (.getfield 68, 3), none, none, some (.iconst 1, 1), some (.iaload, 1), some (.aload_n 0, 1)],
  [some (.getfield 68, 3), none, none, some (.iconst 2, 1), some (.iaload, 1), some (.aload_n 0, 1), some (.getfield 68, 3), none, none, some (.iconst 3, 1), some (.iaload, 1), some (.invokevirtual 103, 3), none, none, some (.goto 65, 3), none],
  [none, some (.aload_n 0, 1), some (.getfield 26, 3), none, none, some (.iload_n 2, 1), some (.aload_n 0, 1), some (.getfield 68, 3), none, none, some (.iconst 1, 1), some (.iaload, 1), some (.iastore, 1), some (.goto 50, 3), none, none],
  [some (.aload_n 0, 1), some (.getfield 29, 3), none, none, some (.bipush 8, 2), none, some (.iload_n 2, 1), some (.imul, 1), some (.aload_n 0, 1), some (.getfield 68, 3), none, none, some (.iconst 1, 1), some (.iaload, 1), some (.iadd, 1), some (.aload_n 0, 1)],
  [some (.getfield 68, 3), none, none, some (.iconst 2, 1), some (.iaload, 1), some (.iastore, 1), some (.goto 25, 3), none, none, some (.aload_n 0, 1), some (.getfield 32, 3), none, none, some (.bipush 8, 2), none, some (.iload_n 2, 1)],
  [some (.imul, 1), some (.aload_n 0, 1), some (.getfield 68, 3), none, none, some (.iconst 1, 1), some (.iaload, 1), some (.iadd, 1), some (.aload_n 0, 1), some (.getfield 68, 3), none, none, some (.iconst 2, 1), some (.iaload, 1), some (.iastore, 1), some (.return_, 1)]]
def mt_Mo_readsClause : List (List (Option (Instr × Nat))) := [
  [some (.aload_n 0, 1), some (.invokevirtual 147, 3), none, none, some (.istore_n 1, 1), some (.iload_n 1, 1), some (.iconst (-1), 1), some (.if_icmp .ne 5, 3), none, none, some (.iconst 0, 1), some (.ireturn, 1), some (.aload_n 0, 1), some (.invokevirtual 133, 3), none, none],
  [some (.aload_n 0, 1), some (.iload_n 1, 1), some (.invokevirtual 151, 3), none, none, some (.ifCond .ne 5, 3), none, none, some (.iconst 0, 1), some (.ireturn, 1), some (.iload_n 1, 1), some (.ifCond .ne 43, 3), none, none, some (.aload_n 0, 1), some (.aload_n 0, 1)],
  [some (.getfield 68, 3), none, none, some (.iconst 0, 1), some (.iaload, 1), some (.putfield 136, 3), none, none, some (.iconst 0, 1), some (.istore_n 2, 1), some (.iload_n 2, 1), some (.iconst 3, 1), some (.if_icmp .ge 23, 3), none, none, some (.aload_n 0, 1)],
  [some (.getfield 62, 3), none, none, some (.iload_n 2, 1), some (.iconst 0, 1), some (.iastore, 1), some (.aload_n 0, 1), some (.getfield 65, 3), none, none, some (.iload_n 2, 1), some (.iconst 1, 1), some (.iastore, 1), some (.iinc 2 1, 3), none, none],
  [some (.goto (-22), 3), none, none, some (.goto 42, 3), none, none, some (.iload_n 1, 1), some (.iconst 2, 1), some (.if_icmp .ne 37, 3), none, none, some (.aload_n 0, 1), some (.getfield 62, 3), none, none, some (.aload_n 0, 1)],
  [some (.getfield 68, 3), none, none, some (.iconst 0, 1), some (.iaload, 1), some (.aload_n 0, 1), some (.getfield 68, 3), none, none, some (.iconst 1, 1), some (.iaload, 1), some (.iastore, 1), some (.aload_n 0, 1), some (.getfield 65, 3), none, none],
  [some (.aload_n 0, 1), some (.getfield 68, 3), none, none, some (.iconst 0, 1), some (.iaload, 1), some (.aload_n 0, 1), some (.getfield 68, 3), none, none, some (.iconst 2, 1), some (.iaload, 1), some (.iastore, 1), some (.aload_n 0, 1), some (.getfield 154, 3), none],
  [none, some (.ifCond .eq 8, 3), none, none, some (.aload_n 0, 1), some (.iload_n 1, 1), some (.invokevirtual 158, 3), none, none, some (.iconst 1, 1), some (.ireturn, 1)]]
def mt_Mo_reads : List (List (Option (Instr × Nat))) := [
  [some (.aload_n 0, 1), some (.iload_n 1, 1), some (.putfield 154, 3), none, none, some (.aload_n 0, 1), some (.iconst 0, 1), some (.putfield 120, 3), none, none, some (.aload_n 0, 1), some (.iconst 1, 1), some (.putfield 161, 3), none, none, some (.aload_n 0, 1)],
  [some (.aload_n 0, 1), some (.getfield 7, 3), none, none, some (.putfield 136, 3), none, none, some (.iconst 0, 1), some (.istore_n 2, 1), some (.iload_n 2, 1), some (.iconst 3, 1), some (.if_icmp .ge 33, 3), none, none, some (.aload_n 0, 1), some (.getfield 62, 3)],
  [none, none, some (.iload_n 2, 1), some (.aload_n 0, 1), some (.getfield 17, 3), none, none, some (.iload_n 2, 1), some (.iaload, 1), some (.iastore, 1), some (.aload_n 0, 1), some (.getfield 65, 3), none, none, some (.iload_n 2, 1), some (.aload_n 0, 1)],
  [some (.getfield 20, 3), none, none, some (.iload_n 2, 1), some (.iaload, 1), some (.iastore, 1), some (.iinc 2 1, 3), none, none, some (.goto (-32), 3), none, none, some (.aload_n 0, 1), some (.invokevirtual 133, 3), none, none],
  [some (.aload_n 0, 1), some (.invokevirtual 164, 3), none, none, some (.istore_n 2, 1), some (.iload_n 2, 1), some (.ifCond .eq 69, 3), none, none, some (.aload_n 0, 1), some (.getfield 123, 3), none, none, some (.aload_n 0, 1), some (.getfield 109, 3), none],
  [none, some (.if_icmp .ge 58, 3), none, none, some (.aload_n 0, 1), some (.getfield 161, 3), none, none, some (.bipush 24, 2), none, some (.if_icmp .ge 21, 3), none, none, some (.aload_n 0, 1), some (.getfield 59, 3), none],
  [none, some (.aload_n 0, 1), some (.getfield 123, 3), none, none, some (.iaload, 1), some (.bipush 59, 2), none, some (.if_icmp .ne 7, 3), none, none, some (.iconst 1, 1), some (.goto 4, 3), none, none, some (.iconst 0, 1)],
  [some (.istore_n 2, 1), some (.iload_n 2, 1), some (.ifCond .eq (-45), 3), none, none, some (.aload_n 0, 1), some (.invokevirtual 133, 3), none, none, some (.aload_n 0, 1), some (.invokevirtual 164, 3), none, none, some (.istore_n 2, 1), some (.aload_n 0, 1), some (.dup, 1)],
  [some (.getfield 161, 3), none, none, some (.iconst 1, 1), some (.iadd, 1), some (.putfield 161, 3), none, none, some (.goto (-67), 3), none, none, some (.iload_n 2, 1), some (.ireturn, 1)]]
def mt_Mo_fault : List (List (Option (Instr × Nat))) := [
  [some (.aload_n 0, 1), some (.iconst 0, 1), some (.invokevirtual 168, 3), none, none, some (.ifCond .eq 7, 3), none, none, some (.iconst (-1), 1), some (.goto 7, 3), none, none, some (.aload_n 0, 1), some (.getfield 123, 3), none, none],
  [some (.ireturn, 1)]]
def mt_Mo_rules : List (List (Option (Instr × Nat))) := [
  [some (.aload_n 0, 1), some (.iconst 0, 1), some (.invokevirtual 168, 3), none, none, some (.ifCond .ne 6, 3), none, none, some (.bipush (-4), 2), none, some (.ireturn, 1), some (.aload_n 0, 1), some (.iconst 1, 1), some (.invokevirtual 168, 3), none, none],
  [some (.pop, 1), some (.aload_n 0, 1), some (.iconst 0, 1), some (.putfield 109, 3), none, none, some (.iconst 0, 1), some (.istore_n 1, 1), some (.iload_n 1, 1), some (.iconst 3, 1), some (.if_icmp .ge 37, 3), none, none, some (.aload_n 0, 1), some (.getfield 41, 3), none],
  [none, some (.iload_n 1, 1), some (.iconst 0, 1), some (.iastore, 1), some (.aload_n 0, 1), some (.getfield 44, 3), none, none, some (.iload_n 1, 1), some (.iconst 0, 1), some (.iastore, 1), some (.aload_n 0, 1), some (.getfield 50, 3), none, none, some (.iload_n 1, 1)],
  [some (.iconst 0, 1), some (.iastore, 1), some (.aload_n 0, 1), some (.getfield 53, 3), none, none, some (.iload_n 1, 1), some (.iconst 0, 1), some (.iastore, 1), some (.iinc 1 1, 3), none, none, some (.goto (-36), 3), none, none, some (.aload_n 0, 1)],
  [some (.iconst 0, 1), some (.putfield 172, 3), none, none, some (.aload_n 0, 1), some (.iconst 0, 1), some (.putfield 175, 3), none, none, some (.aload_n 0, 1), some (.iconst 0, 1), some (.putfield 178, 3), none, none, some (.aload_n 0, 1), some (.iconst 0, 1)],
  [some (.putfield 181, 3), none, none, some (.aload_n 0, 1), some (.iconst 0, 1), some (.putfield 184, 3), none, none, some (.aload_n 0, 1), some (.getfield 161, 3), none, none, some (.ireturn, 1)]]
def mt_Mo_movers : List (List (Option (Instr × Nat))) := [
  [some (.iconst 0, 1), some (.istore_n 2, 1), some (.iconst 0, 1), some (.istore_n 3, 1), some (.iload_n 3, 1), some (.bipush 8, 2), none, some (.if_icmp .ge 44, 3), none, none, some (.iload_n 2, 1), some (.aload_n 0, 1), some (.getfield 29, 3), none, none, some (.bipush 8, 2)],
  [none, some (.iload_n 1, 1), some (.imul, 1), some (.iload_n 3, 1), some (.iadd, 1), some (.iaload, 1), some (.aload_n 0, 1), some (.getfield 32, 3), none, none, some (.bipush 8, 2), none, some (.iload_n 1, 1), some (.imul, 1), some (.iload_n 3, 1), some (.iadd, 1)],
  [some (.iaload, 1), some (.if_icmp .eq 9, 3), none, none, some (.iconst 1, 1), some (.iload_n 3, 1), some (.ishl, 1), some (.goto 4, 3), none, none, some (.iconst 0, 1), some (.ior, 1), some (.istore_n 2, 1), some (.iinc 3 1, 3), none, none],
  [some (.goto (-44), 3), none, none, some (.iload_n 2, 1), some (.ireturn, 1)]]
def mt_Mo_ruleBy : List (List (Option (Instr × Nat))) := [
  [some (.iload_n 3, 1), some (.iload_n 2, 1), some (.invokestatic 187, 3), none, none, some (.ifCond .eq 17, 3), none, none, some (.aload_n 0, 1), some (.getfield 32, 3), none, none, some (.bipush 8, 2), none, some (.iload_n 1, 1), some (.imul, 1)],
  [some (.iload_n 2, 1), some (.iadd, 1), some (.iaload, 1), some (.goto 14, 3), none, none, some (.aload_n 0, 1), some (.getfield 29, 3), none, none, some (.bipush 8, 2), none, some (.iload_n 1, 1), some (.imul, 1), some (.iload_n 2, 1), some (.iadd, 1)],
  [some (.iaload, 1), some (.ireturn, 1)]]
def mt_Mo_walks : List (List (Option (Instr × Nat))) := [
  [some (.aload_n 0, 1), some (.getfield 74, 3), none, none, some (.iconst 0, 1), some (.aload_n 0, 1), some (.getfield 17, 3), none, none, some (.iload_n 1, 1), some (.iaload, 1), some (.iastore, 1), some (.aload_n 0, 1), some (.iconst 1, 1), some (.putfield 191, 3), none],
  [none, some (.aload_n 0, 1), some (.iconst 1, 1), some (.aload_n 0, 1), some (.getfield 17, 3), none, none, some (.iload_n 1, 1), some (.iaload, 1), some (.ishl, 1), some (.putfield 194, 3), none, none, some (.iconst 1, 1), some (.istore_n 3, 1), some (.iload_n 3, 1)],
  [some (.ifCond .eq 122, 3), none, none, some (.aload_n 0, 1), some (.getfield 74, 3), none, none, some (.aload_n 0, 1), some (.getfield 191, 3), none, none, some (.iconst 1, 1), some (.isub, 1), some (.iaload, 1), some (.istore 4, 2), none],
  [some (.iload 4, 2), none, some (.aload_n 0, 1), some (.getfield 20, 3), none, none, some (.iload_n 1, 1), some (.iaload, 1), some (.if_icmp .ne 7, 3), none, none, some (.iconst (-1), 1), some (.goto 11, 3), none, none, some (.aload_n 0, 1)],
  [some (.iload_n 1, 1), some (.iload 4, 2), none, some (.iload_n 2, 1), some (.invokevirtual 197, 3), none, none, some (.istore 5, 2), none, some (.iload 5, 2), none, some (.iconst (-1), 1), some (.if_icmp .eq 35, 3), none, none, some (.aload_n 0, 1)],
  [some (.getfield 13, 3), none, none, some (.bipush 8, 2), none, some (.iload 4, 2), none, some (.imul, 1), some (.iload 5, 2), none, some (.iadd, 1), some (.iaload, 1), some (.ifCond .le 19, 3), none, none, some (.aload_n 0, 1)],
  [some (.getfield 194, 3), none, none, some (.iload 5, 2), none, some (.invokestatic 187, 3), none, none, some (.ifCond .ne 7, 3), none, none, some (.iconst 1, 1), some (.goto 4, 3), none, none, some (.iconst 0, 1)],
  [some (.istore_n 3, 1), some (.iload_n 3, 1), some (.ifCond .eq 37, 3), none, none, some (.aload_n 0, 1), some (.getfield 74, 3), none, none, some (.aload_n 0, 1), some (.getfield 191, 3), none, none, some (.iload 5, 2), none, some (.iastore, 1)],
  [some (.aload_n 0, 1), some (.dup, 1), some (.getfield 191, 3), none, none, some (.iconst 1, 1), some (.iadd, 1), some (.putfield 191, 3), none, none, some (.aload_n 0, 1), some (.dup, 1), some (.getfield 194, 3), none, none, some (.iconst 1, 1)],
  [some (.iload 5, 2), none, some (.ishl, 1), some (.ior, 1), some (.putfield 194, 3), none, none, some (.goto (-120), 3), none, none, some (.aload_n 0, 1), some (.aload_n 0, 1), some (.getfield 74, 3), none, none, some (.aload_n 0, 1)],
  [some (.getfield 191, 3), none, none, some (.iconst 1, 1), some (.isub, 1), some (.iaload, 1), some (.aload_n 0, 1), some (.getfield 20, 3), none, none, some (.iload_n 1, 1), some (.iaload, 1), some (.if_icmp .ne 7, 3), none, none, some (.iconst 1, 1)],
  [some (.goto 4, 3), none, none, some (.iconst 0, 1), some (.putfield 201, 3), none, none, some (.return_, 1)]]
def mt_Mo_needsOf : List (List (Option (Instr × Nat))) := [
  [some (.iconst 0, 1), some (.istore_n 3, 1), some (.iload_n 3, 1), some (.bipush 64, 2), none, some (.if_icmp .ge 16, 3), none, none, some (.aload_n 0, 1), some (.getfield 80, 3), none, none, some (.iload_n 3, 1), some (.iconst 0, 1), some (.iastore, 1), some (.iinc 3 1, 3)],
  [none, none, some (.goto (-16), 3), none, none, some (.iconst 0, 1), some (.istore_n 3, 1), some (.iload_n 3, 1), some (.iconst 3, 1), some (.if_icmp .ge 82, 3), none, none, some (.iload_n 3, 1), some (.iload_n 1, 1), some (.if_icmp .eq 71, 3), none],
  [none, some (.iload_n 3, 1), some (.iload_n 2, 1), some (.if_icmp .eq 66, 3), none, none, some (.aload_n 0, 1), some (.iload_n 3, 1), some (.aload_n 0, 1), some (.getfield 77, 3), none, none, some (.iload_n 3, 1), some (.iaload, 1), some (.invokevirtual 204, 3), none],
  [none, some (.iconst 1, 1), some (.istore 4, 2), none, some (.iload 4, 2), none, some (.aload_n 0, 1), some (.getfield 191, 3), none, none, some (.if_icmp .ge 43, 3), none, none, some (.aload_n 0, 1), some (.getfield 80, 3), none],
  [none, some (.bipush 8, 2), none, some (.aload_n 0, 1), some (.getfield 74, 3), none, none, some (.iload 4, 2), none, some (.iconst 1, 1), some (.isub, 1), some (.iaload, 1), some (.imul, 1), some (.aload_n 0, 1), some (.getfield 74, 3), none],
  [none, some (.iload 4, 2), none, some (.iaload, 1), some (.iadd, 1), some (.dup2, 1), some (.iaload, 1), some (.aload_n 0, 1), some (.getfield 23, 3), none, none, some (.iload_n 3, 1), some (.iaload, 1), some (.iadd, 1), some (.iastore, 1), some (.iinc 4 1, 3)],
  [none, none, some (.goto (-46), 3), none, none, some (.iinc 3 1, 3), none, none, some (.goto (-81), 3), none, none, some (.return_, 1)]]
def mt_Mo_asTurned : List (List (Option (Instr × Nat))) := [
  [some (.iconst 0, 1), some (.istore_n 1, 1), some (.iload_n 1, 1), some (.iconst 3, 1), some (.if_icmp .ge 21, 3), none, none, some (.aload_n 0, 1), some (.getfield 77, 3), none, none, some (.iload_n 1, 1), some (.aload_n 0, 1), some (.getfield 41, 3), none, none],
  [some (.iload_n 1, 1), some (.iaload, 1), some (.iastore, 1), some (.iinc 1 1, 3), none, none, some (.goto (-20), 3), none, none, some (.return_, 1)]]
def mt_Mo_isRoom : List (List (Option (Instr × Nat))) := [
  [some (.iconst 1, 1), some (.istore_n 2, 1), some (.iconst 1, 1), some (.istore_n 3, 1), some (.iload_n 3, 1), some (.aload_n 0, 1), some (.getfield 191, 3), none, none, some (.if_icmp .ge 63, 3), none, none, some (.bipush 8, 2), none, some (.aload_n 0, 1), some (.getfield 74, 3)],
  [none, none, some (.iload_n 3, 1), some (.iconst 1, 1), some (.isub, 1), some (.iaload, 1), some (.imul, 1), some (.aload_n 0, 1), some (.getfield 74, 3), none, none, some (.iload_n 3, 1), some (.iaload, 1), some (.iadd, 1), some (.istore 4, 2), none],
  [some (.iload_n 2, 1), some (.ifCond .eq 31, 3), none, none, some (.aload_n 0, 1), some (.getfield 80, 3), none, none, some (.iload 4, 2), none, some (.iaload, 1), some (.aload_n 0, 1), some (.getfield 23, 3), none, none, some (.iload_n 1, 1)],
  [some (.iaload, 1), some (.iadd, 1), some (.aload_n 0, 1), some (.getfield 13, 3), none, none, some (.iload 4, 2), none, some (.iaload, 1), some (.if_icmp .gt 7, 3), none, none, some (.iconst 1, 1), some (.goto 4, 3), none, none],
  [some (.iconst 0, 1), some (.istore_n 2, 1), some (.iinc 3 1, 3), none, none, some (.goto (-65), 3), none, none, some (.iload_n 2, 1), some (.ireturn, 1)]]
def mt_Mo_isRing : List (List (Option (Instr × Nat))) := [
  [some (.iconst 0, 1), some (.istore_n 3, 1), some (.iconst 0, 1), some (.istore 4, 2), none, some (.iload 4, 2), none, some (.aload_n 0, 1), some (.getfield 7, 3), none, none, some (.if_icmp .ge 68, 3), none, none, some (.aload_n 0, 1), some (.iload_n 1, 1)],
  [some (.iload 4, 2), none, some (.iload_n 2, 1), some (.invokevirtual 197, 3), none, none, some (.istore 5, 2), none, some (.iconst 0, 1), some (.istore 6, 2), none, some (.iload 6, 2), none, some (.bipush 8, 2), none, some (.if_icmp .ge 42, 3)],
  [none, none, some (.iload 5, 2), none, some (.iconst (-1), 1), some (.if_icmp .eq 36, 3), none, none, some (.iload_n 3, 1), some (.ifCond .ne 10, 3), none, none, some (.iload 5, 2), none, some (.iload 4, 2), none],
  [some (.if_icmp .ne 7, 3), none, none, some (.iconst 1, 1), some (.goto 4, 3), none, none, some (.iconst 0, 1), some (.istore_n 3, 1), some (.aload_n 0, 1), some (.iload_n 1, 1), some (.iload 5, 2), none, some (.iload_n 2, 1), some (.invokevirtual 197, 3), none],
  [none, some (.istore 5, 2), none, some (.iinc 6 1, 3), none, none, some (.goto (-43), 3), none, none, some (.iinc 4 1, 3), none, none, some (.goto (-71), 3), none, none, some (.iload_n 3, 1)],
  [some (.ireturn, 1)]]
def mt_Mo_holds : List (List (Option (Instr × Nat))) := [
  [some (.aload_n 0, 1), some (.iload_n 1, 1), some (.iload_n 2, 1), some (.invokevirtual 204, 3), none, none, some (.aload_n 0, 1), some (.getfield 201, 3), none, none, some (.ifCond .eq 7, 3), none, none, some (.iconst 1, 1), some (.goto 4, 3), none],
  [none, some (.iconst 0, 1), some (.istore_n 3, 1), some (.iload_n 3, 1), some (.aload_n 0, 1), some (.iload_n 1, 1), some (.iload_n 2, 1), some (.invokevirtual 208, 3), none, none, some (.ifCond .eq 7, 3), none, none, some (.iconst 0, 1), some (.goto 4, 3), none],
  [none, some (.iconst 2, 1), some (.ior, 1), some (.istore_n 3, 1), some (.iload_n 3, 1), some (.aload_n 0, 1), some (.getfield 26, 3), none, none, some (.iload_n 1, 1), some (.iaload, 1), some (.iconst (-1), 1), some (.if_icmp .eq 19, 3), none, none, some (.aload_n 0, 1)],
  [some (.getfield 194, 3), none, none, some (.aload_n 0, 1), some (.getfield 26, 3), none, none, some (.iload_n 1, 1), some (.iaload, 1), some (.invokestatic 187, 3), none, none, some (.ifCond .eq 7, 3), none, none, some (.iconst 4, 1)],
  [some (.goto 4, 3), none, none, some (.iconst 0, 1), some (.ior, 1), some (.istore_n 3, 1), some (.iload_n 3, 1), some (.aload_n 0, 1), some (.iload_n 1, 1), some (.invokevirtual 211, 3), none, none, some (.ifCond .eq 8, 3), none, none, some (.bipush 8, 2)],
  [none, some (.goto 4, 3), none, none, some (.iconst 0, 1), some (.ior, 1), some (.istore_n 3, 1), some (.iload_n 3, 1), some (.ireturn, 1)]]
def mt_Mo_isSound : List (List (Option (Instr × Nat))) := [
  [some (.aload_n 0, 1), some (.iload_n 1, 1), some (.iload_n 2, 1), some (.invokevirtual 214, 3), none, none, some (.aload_n 0, 1), some (.getfield 35, 3), none, none, some (.iand, 1), some (.aload_n 0, 1), some (.getfield 35, 3), none, none, some (.if_icmp .ne 7, 3)],
  [none, none, some (.iconst 1, 1), some (.goto 4, 3), none, none, some (.iconst 0, 1), some (.ireturn, 1)]]
def mt_Mo_isSafe : List (List (Option (Instr × Nat))) := [
  [some (.aload_n 0, 1), some (.getfield 83, 3), none, none, some (.iload_n 1, 1), some (.baload, 1), some (.istore_n 3, 1), some (.iload_n 2, 1), some (.istore 4, 2), none, some (.iload 4, 2), none, some (.ifCond .le 28, 3), none, none, some (.iload_n 3, 1)],
  [some (.ifCond .eq 24, 3), none, none, some (.aload_n 0, 1), some (.getfield 83, 3), none, none, some (.iload_n 1, 1), some (.iload 4, 2), none, some (.ior, 1), some (.baload, 1), some (.istore_n 3, 1), some (.iload 4, 2), none, some (.iconst 1, 1)],
  [some (.isub, 1), some (.iload_n 2, 1), some (.iand, 1), some (.istore 4, 2), none, some (.goto (-27), 3), none, none, some (.iload_n 3, 1), some (.ireturn, 1)]]
def mt_Mo_firstOf : List (List (Option (Instr × Nat))) := [
  [some (.iload_n 2, 1), some (.iload_n 1, 1), some (.iconst (-1), 1), some (.ixor, 1), some (.iand, 1), some (.istore 4, 2), none, some (.iload 4, 2), none, some (.ifCond .le 44, 3), none, none, some (.aload_n 0, 1), some (.getfield 87, 3), none, none],
  [some (.iload_n 1, 1), some (.iload 4, 2), none, some (.ior, 1), some (.iaload, 1), some (.iload_n 3, 1), some (.if_icmp .ne 16, 3), none, none, some (.aload_n 0, 1), some (.iload_n 1, 1), some (.iload 4, 2), none, some (.invokevirtual 218, 3), none, none],
  [some (.ifCond .eq 6, 3), none, none, some (.iload 4, 2), none, some (.ireturn, 1), some (.iload 4, 2), none, some (.iconst 1, 1), some (.isub, 1), some (.iload_n 2, 1), some (.iand, 1), some (.iload_n 1, 1), some (.iconst (-1), 1), some (.ixor, 1), some (.iand, 1)],
  [some (.istore 4, 2), none, some (.goto (-43), 3), none, none, some (.iconst 0, 1), some (.ireturn, 1)]]
def mt_Mo_plans : List (List (Option (Instr × Nat))) := [
  [some (.aload_n 0, 1), some (.iload_n 1, 1), some (.invokevirtual 221, 3), none, none, some (.istore_n 2, 1), some (.iconst 0, 1), some (.istore_n 3, 1), some (.iload_n 3, 1), some (.sipush 256, 3), none, none, some (.if_icmp .ge 53, 3), none, none, some (.aload_n 0, 1)],
  [some (.getfield 83, 3), none, none, some (.iload_n 3, 1), some (.iload_n 3, 1), some (.iload_n 2, 1), some (.iconst (-1), 1), some (.ixor, 1), some (.iand, 1), some (.ifCond .ne 16, 3), none, none, some (.aload_n 0, 1), some (.iload_n 1, 1), some (.iload_n 3, 1), some (.invokevirtual 225, 3)],
  [none, none, some (.ifCond .eq 7, 3), none, none, some (.iconst 1, 1), some (.goto 4, 3), none, none, some (.iconst 0, 1), some (.bastore, 1), some (.aload_n 0, 1), some (.getfield 87, 3), none, none, some (.iload_n 3, 1)],
  [some (.iload_n 3, 1), some (.iload_n 2, 1), some (.if_icmp .ne 7, 3), none, none, some (.iconst 0, 1), some (.goto 4, 3), none, none, some (.iconst (-1), 1), some (.iastore, 1), some (.iinc 3 1, 3), none, none, some (.goto (-54), 3), none],
  [none, some (.iconst 0, 1), some (.istore_n 3, 1), some (.iload_n 3, 1), some (.bipush 8, 2), none, some (.if_icmp .ge 85, 3), none, none, some (.iconst 0, 1), some (.istore 4, 2), none, some (.iload 4, 2), none, some (.sipush 256, 3), none],
  [none, some (.if_icmp .ge 68, 3), none, none, some (.iload 4, 2), none, some (.iload_n 2, 1), some (.iconst (-1), 1), some (.ixor, 1), some (.iand, 1), some (.ifCond .ne 53, 3), none, none, some (.aload_n 0, 1), some (.getfield 87, 3), none],
  [none, some (.iload 4, 2), none, some (.iaload, 1), some (.iconst (-1), 1), some (.if_icmp .ne 42, 3), none, none, some (.aload_n 0, 1), some (.getfield 90, 3), none, none, some (.iload 4, 2), none, some (.aload_n 0, 1), some (.iload 4, 2)],
  [none, some (.iload_n 2, 1), some (.iload_n 3, 1), some (.invokevirtual 228, 3), none, none, some (.iastore, 1), some (.aload_n 0, 1), some (.getfield 87, 3), none, none, some (.iload 4, 2), none, some (.aload_n 0, 1), some (.getfield 90, 3), none],
  [none, some (.iload 4, 2), none, some (.iaload, 1), some (.ifCond .le 9, 3), none, none, some (.iload_n 3, 1), some (.iconst 1, 1), some (.iadd, 1), some (.goto 4, 3), none, none, some (.iconst (-1), 1), some (.iastore, 1), some (.iinc 4 1, 3)],
  [none, none, some (.goto (-70), 3), none, none, some (.iinc 3 1, 3), none, none, some (.goto (-85), 3), none, none, some (.return_, 1)]]
def mt_Mo_plansNow : List (List (Option (Instr × Nat))) := [
  [some (.aload_n 0, 1), some (.invokevirtual 231, 3), none, none, some (.aload_n 0, 1), some (.iload_n 1, 1), some (.iload_n 1, 1), some (.invokevirtual 234, 3), none, none, some (.aload_n 0, 1), some (.iload_n 1, 1), some (.invokevirtual 237, 3), none, none, some (.return_, 1)]]
def mt_Mo_room : List (List (Option (Instr × Nat))) := [
  [some (.aload_n 0, 1), some (.iload_n 1, 1), some (.invokevirtual 240, 3), none, none, some (.ifCond .eq 25, 3), none, none, some (.aload_n 0, 1), some (.iload_n 2, 1), some (.invokevirtual 240, 3), none, none, some (.ifCond .eq 17, 3), none, none],
  [some (.aload_n 0, 1), some (.getfield 13, 3), none, none, some (.bipush 8, 2), none, some (.iload_n 1, 1), some (.imul, 1), some (.iload_n 2, 1), some (.iadd, 1), some (.iaload, 1), some (.goto 5, 3), none, none, some (.bipush (-2), 2), none],
  [some (.ireturn, 1)]]
def mt_Mo_load : List (List (Option (Instr × Nat))) := [
  [some (.aload_n 0, 1), some (.iload_n 1, 1), some (.invokevirtual 240, 3), none, none, some (.ifCond .eq 11, 3), none, none, some (.aload_n 0, 1), some (.iload_n 2, 1), some (.invokevirtual 240, 3), none, none, some (.ifCond .ne 6, 3), none, none],
  [some (.bipush (-2), 2), none, some (.ireturn, 1), some (.aload_n 0, 1), some (.invokevirtual 231, 3), none, none, some (.aload_n 0, 1), some (.iconst (-1), 1), some (.iconst (-1), 1), some (.invokevirtual 234, 3), none, none, some (.aload_n 0, 1), some (.getfield 80, 3), none],
  [none, some (.bipush 8, 2), none, some (.iload_n 1, 1), some (.imul, 1), some (.iload_n 2, 1), some (.iadd, 1), some (.iaload, 1), some (.ireturn, 1)]]
def mt_Mo_flow : List (List (Option (Instr × Nat))) := [
  [some (.iload_n 1, 1), some (.invokestatic 243, 3), none, none, some (.ifCond .ne 6, 3), none, none, some (.bipush (-2), 2), none, some (.ireturn, 1), some (.iload_n 2, 1), some (.tableswitch 100 0 7 #[45, 52, 59, 66, 73, 79, 86, 93], 45), none, none, none, none],
  [none, none, none, none, none, none, none, none, none, none, none, none, none, none, none, none],
  [none, none, none, none, none, none, none, none, none, none, none, none, none, none, none, none],
  [none, none, none, none, none, none, none, none, some (.aload_n 0, 1), some (.getfield 17, 3), none, none, some (.iload_n 1, 1), some (.iaload, 1), some (.ireturn, 1), some (.aload_n 0, 1)],
  [some (.getfield 20, 3), none, none, some (.iload_n 1, 1), some (.iaload, 1), some (.ireturn, 1), some (.aload_n 0, 1), some (.getfield 23, 3), none, none, some (.iload_n 1, 1), some (.iaload, 1), some (.ireturn, 1), some (.aload_n 0, 1), some (.getfield 26, 3), none],
  [none, some (.iload_n 1, 1), some (.iaload, 1), some (.ireturn, 1), some (.aload_n 0, 1), some (.iload_n 1, 1), some (.invokevirtual 221, 3), none, none, some (.ireturn, 1), some (.aload_n 0, 1), some (.getfield 41, 3), none, none, some (.iload_n 1, 1), some (.iaload, 1)],
  [some (.ireturn, 1), some (.aload_n 0, 1), some (.getfield 44, 3), none, none, some (.iload_n 1, 1), some (.iaload, 1), some (.ireturn, 1), some (.aload_n 0, 1), some (.getfield 50, 3), none, none, some (.iload_n 1, 1), some (.iaload, 1), some (.ireturn, 1), some (.bipush (-3), 2)],
  [none, some (.ireturn, 1)]]
def mt_Mo_rule : List (List (Option (Instr × Nat))) := [
  [some (.iload_n 1, 1), some (.invokestatic 243, 3), none, none, some (.ifCond .eq 11, 3), none, none, some (.aload_n 0, 1), some (.iload_n 2, 1), some (.invokevirtual 240, 3), none, none, some (.ifCond .ne 6, 3), none, none, some (.bipush (-2), 2)],
  [none, some (.ireturn, 1), some (.iload_n 3, 1), some (.tableswitch 62 0 2 #[25, 37, 49], 25), none, none, none, none, none, none, none, none, none, none, none, none],
  [none, none, none, none, none, none, none, none, none, none, none, none, some (.aload_n 0, 1), some (.getfield 29, 3), none, none],
  [some (.bipush 8, 2), none, some (.iload_n 1, 1), some (.imul, 1), some (.iload_n 2, 1), some (.iadd, 1), some (.iaload, 1), some (.ireturn, 1), some (.aload_n 0, 1), some (.getfield 32, 3), none, none, some (.bipush 8, 2), none, some (.iload_n 1, 1), some (.imul, 1)],
  [some (.iload_n 2, 1), some (.iadd, 1), some (.iaload, 1), some (.ireturn, 1), some (.aload_n 0, 1), some (.iload_n 1, 1), some (.iload_n 2, 1), some (.aload_n 0, 1), some (.getfield 41, 3), none, none, some (.iload_n 1, 1), some (.iaload, 1), some (.invokevirtual 197, 3), none, none],
  [some (.ireturn, 1), some (.bipush (-3), 2), none, some (.ireturn, 1)]]
def mt_Mo_tableWith : List (List (Option (Instr × Nat))) := [
  [some (.iconst 0, 1), some (.istore_n 3, 1), some (.iconst 0, 1), some (.istore 4, 2), none, some (.iload 4, 2), none, some (.iconst 3, 1), some (.if_icmp .ge 75, 3), none, none, some (.iload_n 3, 1), some (.aload_n 0, 1), some (.iload 4, 2), none, some (.iload_n 1, 1)],
  [some (.aload_n 0, 1), some (.getfield 41, 3), none, none, some (.iload 4, 2), none, some (.iaload, 1), some (.invokevirtual 197, 3), none, none, some (.iconst (-1), 1), some (.if_icmp .eq 7, 3), none, none, some (.iconst 1, 1), some (.goto 4, 3)],
  [none, none, some (.iconst 0, 1), some (.iadd, 1), some (.istore_n 3, 1), some (.iload_n 3, 1), some (.aload_n 0, 1), some (.getfield 44, 3), none, none, some (.iload 4, 2), none, some (.iaload, 1), some (.ifCond .ne 9, 3), none, none],
  [some (.iload 4, 2), none, some (.iload_n 2, 1), some (.if_icmp .ne 23, 3), none, none, some (.aload_n 0, 1), some (.getfield 32, 3), none, none, some (.bipush 8, 2), none, some (.iload 4, 2), none, some (.imul, 1), some (.iload_n 1, 1)],
  [some (.iadd, 1), some (.iaload, 1), some (.iconst (-1), 1), some (.if_icmp .eq 7, 3), none, none, some (.iconst 1, 1), some (.goto 4, 3), none, none, some (.iconst 0, 1), some (.iadd, 1), some (.istore_n 3, 1), some (.iinc 4 1, 3), none, none],
  [some (.goto (-75), 3), none, none, some (.iload_n 3, 1), some (.ireturn, 1)]]
def mt_Mo_table : List (List (Option (Instr × Nat))) := [
  [some (.aload_n 0, 1), some (.iload_n 1, 1), some (.invokevirtual 240, 3), none, none, some (.ifCond .eq 12, 3), none, none, some (.aload_n 0, 1), some (.iload_n 1, 1), some (.iconst (-1), 1), some (.invokevirtual 246, 3), none, none, some (.goto 5, 3), none],
  [none, some (.bipush (-2), 2), none, some (.ireturn, 1)]]
def mt_Mo_greatestTable : List (List (Option (Instr × Nat))) := [
  [some (.iconst 0, 1), some (.istore_n 2, 1), some (.iconst 0, 1), some (.istore_n 3, 1), some (.iload_n 3, 1), some (.aload_n 0, 1), some (.getfield 7, 3), none, none, some (.if_icmp .ge 30, 3), none, none, some (.aload_n 0, 1), some (.iload_n 3, 1), some (.iload_n 1, 1), some (.invokevirtual 246, 3)],
  [none, none, some (.istore 4, 2), none, some (.iload 4, 2), none, some (.iload_n 2, 1), some (.if_icmp .le 8, 3), none, none, some (.iload 4, 2), none, some (.goto 4, 3), none, none, some (.iload_n 2, 1)],
  [some (.istore_n 2, 1), some (.iinc 3 1, 3), none, none, some (.goto (-32), 3), none, none, some (.iload_n 2, 1), some (.ireturn, 1)]]
def mt_Mo_link : List (List (Option (Instr × Nat))) := [
  [some (.aload_n 0, 1), some (.iload_n 1, 1), some (.invokevirtual 240, 3), none, none, some (.ifCond .eq 16, 3), none, none, some (.aload_n 0, 1), some (.iload_n 2, 1), some (.invokevirtual 240, 3), none, none, some (.ifCond .eq 8, 3), none, none],
  [some (.iload_n 1, 1), some (.iload_n 2, 1), some (.if_icmp .ne 6, 3), none, none, some (.bipush (-2), 2), none, some (.ireturn, 1), some (.iload_n 3, 1), some (.i2l, 1), some (.lconst 0, 1), some (.ldc2_w 249, 3), none, none, some (.invokestatic 97, 3), none],
  [none, some (.ifCond .ne 6, 3), none, none, some (.bipush (-3), 2), none, some (.ireturn, 1), some (.aload_n 0, 1), some (.getfield 13, 3), none, none, some (.bipush 8, 2), none, some (.iload_n 1, 1), some (.imul, 1), some (.iload_n 2, 1)],
  [some (.iadd, 1), some (.iaload, 1), some (.istore 4, 2), none, some (.aload_n 0, 1), some (.getfield 13, 3), none, none, some (.bipush 8, 2), none, some (.iload_n 1, 1), some (.imul, 1), some (.iload_n 2, 1), some (.iadd, 1), some (.iload_n 3, 1), some (.iastore, 1)],
  [some (.iload 4, 2), none, some (.ireturn, 1)]]
def mt_Mo_want : List (List (Option (Instr × Nat))) := [
  [some (.iload_n 1, 1), some (.i2l, 1), some (.lconst 0, 1), some (.ldc2_w 251, 3), none, none, some (.invokestatic 97, 3), none, none, some (.ifCond .ne 6, 3), none, none, some (.bipush (-3), 2), none, some (.ireturn, 1), some (.aload_n 0, 1)],
  [some (.getfield 35, 3), none, none, some (.istore_n 2, 1), some (.aload_n 0, 1), some (.iload_n 1, 1), some (.putfield 35, 3), none, none, some (.iload_n 2, 1), some (.ireturn, 1)]]
def mt_Mo_slots : List (List (Option (Instr × Nat))) := [
  [some (.iload_n 1, 1), some (.i2l, 1), some (.lconst 1, 1), some (.ldc2_w 253, 3), none, none, some (.invokestatic 97, 3), none, none, some (.ifCond .ne 6, 3), none, none, some (.bipush (-3), 2), none, some (.ireturn, 1), some (.aload_n 0, 1)],
  [some (.getfield 38, 3), none, none, some (.istore_n 2, 1), some (.aload_n 0, 1), some (.iload_n 1, 1), some (.putfield 38, 3), none, none, some (.iload_n 2, 1), some (.ireturn, 1)]]
def mt_Mo_isRound : List (List (Option (Instr × Nat))) := [
  [some (.iload_n 2, 1), some (.ifCond .le 28, 3), none, none, some (.iload_n 2, 1), some (.aload_n 0, 1), some (.iload_n 1, 1), some (.invokevirtual 221, 3), none, none, some (.aload_n 0, 1), some (.getfield 41, 3), none, none, some (.iload_n 1, 1), some (.iaload, 1)],
  [some (.iconst (-1), 1), some (.ixor, 1), some (.iand, 1), some (.iconst (-1), 1), some (.ixor, 1), some (.iand, 1), some (.ifCond .ne 7, 3), none, none, some (.iconst 1, 1), some (.goto 4, 3), none, none, some (.iconst 0, 1), some (.ireturn, 1)]]
def mt_Mo_turns : List (List (Option (Instr × Nat))) := [
  [some (.aload_n 0, 1), some (.getfield 41, 3), none, none, some (.iload_n 1, 1), some (.dup2, 1), some (.iaload, 1), some (.iload_n 2, 1), some (.ior, 1), some (.iastore, 1), some (.aload_n 0, 1), some (.getfield 47, 3), none, none, some (.bipush 8, 2), none],
  [some (.iload_n 1, 1), some (.imul, 1), some (.aload_n 0, 1), some (.getfield 50, 3), none, none, some (.iload_n 1, 1), some (.iaload, 1), some (.iadd, 1), some (.iload_n 2, 1), some (.iastore, 1), some (.aload_n 0, 1), some (.getfield 50, 3), none, none, some (.iload_n 1, 1)],
  [some (.dup2, 1), some (.iaload, 1), some (.iconst 1, 1), some (.iadd, 1), some (.iastore, 1), some (.aload_n 0, 1), some (.getfield 53, 3), none, none, some (.iload_n 1, 1), some (.dup2, 1), some (.iaload, 1), some (.iconst 1, 1), some (.iadd, 1), some (.iastore, 1), some (.return_, 1)]]
def mt_Mo_isStale : List (List (Option (Instr × Nat))) := [
  [some (.iconst 0, 1), some (.istore_n 2, 1), some (.iconst 0, 1), some (.istore_n 3, 1), some (.iload_n 3, 1), some (.aload_n 0, 1), some (.getfield 172, 3), none, none, some (.if_icmp .ge 52, 3), none, none, some (.iload_n 2, 1), some (.ifCond .ne 36, 3), none, none],
  [some (.aload_n 0, 1), some (.getfield 56, 3), none, none, some (.bipush 8, 2), none, some (.iload_n 3, 1), some (.imul, 1), some (.iaload, 1), some (.iload_n 1, 1), some (.if_icmp .ne 27, 3), none, none, some (.aload_n 0, 1), some (.getfield 56, 3), none],
  [none, some (.bipush 8, 2), none, some (.iload_n 3, 1), some (.imul, 1), some (.iconst 4, 1), some (.iadd, 1), some (.iaload, 1), some (.aload_n 0, 1), some (.getfield 53, 3), none, none, some (.iload_n 1, 1), some (.iaload, 1), some (.if_icmp .ge 7, 3), none],
  [none, some (.iconst 1, 1), some (.goto 4, 3), none, none, some (.iconst 0, 1), some (.istore_n 2, 1), some (.iinc 3 1, 3), none, none, some (.goto (-54), 3), none, none, some (.iload_n 2, 1), some (.ireturn, 1)]]
def mt_Mo_lettersOf : List (List (Option (Instr × Nat))) := [
  [some (.iconst 0, 1), some (.istore_n 3, 1), some (.iconst 0, 1), some (.istore 4, 2), none, some (.iload 4, 2), none, some (.aload_n 0, 1), some (.getfield 172, 3), none, none, some (.if_icmp .ge 47, 3), none, none, some (.iload_n 3, 1), some (.aload_n 0, 1)],
  [some (.getfield 56, 3), none, none, some (.bipush 8, 2), none, some (.iload 4, 2), none, some (.imul, 1), some (.iaload, 1), some (.iload_n 1, 1), some (.if_icmp .ne 23, 3), none, none, some (.aload_n 0, 1), some (.getfield 56, 3), none],
  [none, some (.bipush 8, 2), none, some (.iload 4, 2), none, some (.imul, 1), some (.iconst 3, 1), some (.iadd, 1), some (.iaload, 1), some (.iload_n 2, 1), some (.if_icmp .ne 7, 3), none, none, some (.iconst 1, 1), some (.goto 4, 3), none],
  [none, some (.iconst 0, 1), some (.iadd, 1), some (.istore_n 3, 1), some (.iinc 4 1, 3), none, none, some (.goto (-50), 3), none, none, some (.iload_n 3, 1), some (.ireturn, 1)]]
def mt_Mo_turn : List (List (Option (Instr × Nat))) := [
  [some (.iload_n 1, 1), some (.invokestatic 243, 3), none, none, some (.ifCond .ne 6, 3), none, none, some (.bipush (-2), 2), none, some (.ireturn, 1), some (.aload_n 0, 1), some (.iload_n 1, 1), some (.iload_n 2, 1), some (.invokevirtual 255, 3), none, none],
  [some (.ifCond .ne 6, 3), none, none, some (.bipush (-3), 2), none, some (.ireturn, 1), some (.aload_n 0, 1), some (.getfield 44, 3), none, none, some (.iload_n 1, 1), some (.iaload, 1), some (.ifCond .ne 21, 3), none, none, some (.aload_n 0, 1)],
  [some (.iload_n 1, 1), some (.invokevirtual 258, 3), none, none, some (.ifCond .ne 13, 3), none, none, some (.aload_n 0, 1), some (.iload_n 1, 1), some (.iload_n 2, 1), some (.invokevirtual 261, 3), none, none, some (.iconst (-1), 1), some (.if_icmp .eq 6, 3), none],
  [none, some (.bipush (-4), 2), none, some (.ireturn, 1), some (.aload_n 0, 1), some (.iload_n 1, 1), some (.iload_n 2, 1), some (.invokevirtual 264, 3), none, none, some (.aload_n 0, 1), some (.getfield 41, 3), none, none, some (.iload_n 1, 1), some (.iaload, 1)],
  [some (.ireturn, 1)]]
def mt_Mo_force : List (List (Option (Instr × Nat))) := [
  [some (.iload_n 1, 1), some (.invokestatic 243, 3), none, none, some (.ifCond .ne 6, 3), none, none, some (.bipush (-2), 2), none, some (.ireturn, 1), some (.aload_n 0, 1), some (.iload_n 1, 1), some (.iload_n 2, 1), some (.invokevirtual 255, 3), none, none],
  [some (.ifCond .ne 6, 3), none, none, some (.bipush (-3), 2), none, some (.ireturn, 1), some (.aload_n 0, 1), some (.getfield 44, 3), none, none, some (.iload_n 1, 1), some (.iaload, 1), some (.ifCond .eq 6, 3), none, none, some (.bipush (-4), 2)],
  [none, some (.ireturn, 1), some (.aload_n 0, 1), some (.iload_n 1, 1), some (.iload_n 2, 1), some (.invokevirtual 264, 3), none, none, some (.aload_n 0, 1), some (.getfield 41, 3), none, none, some (.iload_n 1, 1), some (.iaload, 1), some (.ireturn, 1)]]
def mt_Mo_advance : List (List (Option (Instr × Nat))) := [
  [some (.iload_n 1, 1), some (.invokestatic 243, 3), none, none, some (.ifCond .ne 6, 3), none, none, some (.bipush (-2), 2), none, some (.ireturn, 1), some (.aload_n 0, 1), some (.getfield 44, 3), none, none, some (.iload_n 1, 1), some (.iaload, 1)],
  [some (.ifCond .ne 25, 3), none, none, some (.aload_n 0, 1), some (.iload_n 1, 1), some (.invokevirtual 258, 3), none, none, some (.ifCond .ne 17, 3), none, none, some (.aload_n 0, 1), some (.getfield 41, 3), none, none, some (.iload_n 1, 1)],
  [some (.iaload, 1), some (.aload_n 0, 1), some (.iload_n 1, 1), some (.invokevirtual 221, 3), none, none, some (.if_icmp .ne 6, 3), none, none, some (.bipush (-4), 2), none, some (.ireturn, 1), some (.aload_n 0, 1), some (.iload_n 1, 1), some (.invokevirtual 267, 3), none],
  [none, some (.aload_n 0, 1), some (.getfield 87, 3), none, none, some (.aload_n 0, 1), some (.getfield 41, 3), none, none, some (.iload_n 1, 1), some (.iaload, 1), some (.iaload, 1), some (.iconst (-1), 1), some (.if_icmp .ne 5, 3), none, none],
  [some (.iconst (-1), 1), some (.ireturn, 1), some (.aload_n 0, 1), some (.getfield 90, 3), none, none, some (.aload_n 0, 1), some (.getfield 41, 3), none, none, some (.iload_n 1, 1), some (.iaload, 1), some (.iaload, 1), some (.istore_n 2, 1), some (.aload_n 0, 1), some (.iload_n 1, 1)],
  [some (.iload_n 2, 1), some (.invokevirtual 264, 3), none, none, some (.iload_n 2, 1), some (.ireturn, 1)]]
def mt_Mo_reverse : List (List (Option (Instr × Nat))) := [
  [some (.iload_n 1, 1), some (.invokestatic 243, 3), none, none, some (.ifCond .ne 6, 3), none, none, some (.bipush (-2), 2), none, some (.ireturn, 1), some (.aload_n 0, 1), some (.getfield 44, 3), none, none, some (.iload_n 1, 1), some (.iaload, 1)],
  [some (.ifCond .ne 12, 3), none, none, some (.aload_n 0, 1), some (.getfield 50, 3), none, none, some (.iload_n 1, 1), some (.iaload, 1), some (.ifCond .ne 6, 3), none, none, some (.bipush (-4), 2), none, some (.ireturn, 1), some (.aload_n 0, 1)],
  [some (.getfield 50, 3), none, none, some (.iload_n 1, 1), some (.dup2, 1), some (.iaload, 1), some (.iconst 1, 1), some (.isub, 1), some (.iastore, 1), some (.aload_n 0, 1), some (.getfield 41, 3), none, none, some (.iload_n 1, 1), some (.dup2, 1), some (.iaload, 1)],
  [some (.aload_n 0, 1), some (.getfield 47, 3), none, none, some (.bipush 8, 2), none, some (.iload_n 1, 1), some (.imul, 1), some (.aload_n 0, 1), some (.getfield 50, 3), none, none, some (.iload_n 1, 1), some (.iaload, 1), some (.iadd, 1), some (.iaload, 1)],
  [some (.iconst (-1), 1), some (.ixor, 1), some (.iand, 1), some (.iastore, 1), some (.aload_n 0, 1), some (.getfield 53, 3), none, none, some (.iload_n 1, 1), some (.dup2, 1), some (.iaload, 1), some (.iconst 1, 1), some (.iadd, 1), some (.iastore, 1), some (.aload_n 0, 1), some (.getfield 41, 3)],
  [none, none, some (.iload_n 1, 1), some (.iaload, 1), some (.ireturn, 1)]]
def mt_Mo_ready : List (List (Option (Instr × Nat))) := [
  [some (.iload_n 1, 1), some (.invokestatic 243, 3), none, none, some (.ifCond .ne 6, 3), none, none, some (.bipush (-2), 2), none, some (.ireturn, 1), some (.aload_n 0, 1), some (.getfield 44, 3), none, none, some (.iload_n 1, 1), some (.iaload, 1)],
  [some (.ifCond .ne 12, 3), none, none, some (.aload_n 0, 1), some (.getfield 41, 3), none, none, some (.iload_n 1, 1), some (.iaload, 1), some (.ifCond .eq 6, 3), none, none, some (.bipush (-4), 2), none, some (.ireturn, 1), some (.aload_n 0, 1)],
  [some (.iload_n 1, 1), some (.invokevirtual 270, 3), none, none, some (.aload_n 0, 1), some (.getfield 38, 3), none, none, some (.if_icmp .le 6, 3), none, none, some (.bipush (-5), 2), none, some (.ireturn, 1), some (.aload_n 0, 1), some (.getfield 44, 3)],
  [none, none, some (.iload_n 1, 1), some (.iconst 1, 1), some (.iastore, 1), some (.aload_n 0, 1), some (.iconst (-1), 1), some (.invokevirtual 270, 3), none, none, some (.ireturn, 1)]]
def mt_Mo_flip : List (List (Option (Instr × Nat))) := [
  [some (.iload_n 1, 1), some (.invokestatic 243, 3), none, none, some (.ifCond .ne 6, 3), none, none, some (.bipush (-2), 2), none, some (.ireturn, 1), some (.aload_n 0, 1), some (.getfield 44, 3), none, none, some (.iload_n 1, 1), some (.iaload, 1)],
  [some (.iconst 1, 1), some (.if_icmp .eq 6, 3), none, none, some (.bipush (-4), 2), none, some (.ireturn, 1), some (.aload_n 0, 1), some (.getfield 44, 3), none, none, some (.iload_n 1, 1), some (.iconst 2, 1), some (.iastore, 1), some (.aload_n 0, 1), some (.iload_n 1, 1)],
  [some (.iconst 0, 1), some (.invokevirtual 273, 3), none, none, some (.aload_n 0, 1), some (.iload_n 1, 1), some (.iconst 1, 1), some (.invokevirtual 273, 3), none, none, some (.iadd, 1), some (.ireturn, 1)]]
def mt_Mo_finish : List (List (Option (Instr × Nat))) := [
  [some (.iload_n 1, 1), some (.invokestatic 243, 3), none, none, some (.ifCond .ne 6, 3), none, none, some (.bipush (-2), 2), none, some (.ireturn, 1), some (.aload_n 0, 1), some (.getfield 44, 3), none, none, some (.iload_n 1, 1), some (.iaload, 1)],
  [some (.iconst 2, 1), some (.if_icmp .ne 12, 3), none, none, some (.aload_n 0, 1), some (.iload_n 1, 1), some (.iconst 0, 1), some (.invokevirtual 273, 3), none, none, some (.ifCond .le 6, 3), none, none, some (.bipush (-4), 2), none, some (.ireturn, 1)],
  [some (.aload_n 0, 1), some (.getfield 41, 3), none, none, some (.iload_n 1, 1), some (.aload_n 0, 1), some (.iload_n 1, 1), some (.invokevirtual 221, 3), none, none, some (.iastore, 1), some (.aload_n 0, 1), some (.getfield 44, 3), none, none, some (.iload_n 1, 1)],
  [some (.iconst 0, 1), some (.iastore, 1), some (.aload_n 0, 1), some (.getfield 50, 3), none, none, some (.iload_n 1, 1), some (.iconst 0, 1), some (.iastore, 1), some (.aload_n 0, 1), some (.getfield 41, 3), none, none, some (.iload_n 1, 1), some (.iaload, 1), some (.ireturn, 1)]]
def mt_Mo_cancel : List (List (Option (Instr × Nat))) := [
  [some (.iload_n 1, 1), some (.invokestatic 243, 3), none, none, some (.ifCond .ne 6, 3), none, none, some (.bipush (-2), 2), none, some (.ireturn, 1), some (.aload_n 0, 1), some (.getfield 44, 3), none, none, some (.iload_n 1, 1), some (.iaload, 1)],
  [some (.ifCond .eq 12, 3), none, none, some (.aload_n 0, 1), some (.iload_n 1, 1), some (.iconst 1, 1), some (.invokevirtual 273, 3), none, none, some (.ifCond .le 6, 3), none, none, some (.bipush (-4), 2), none, some (.ireturn, 1), some (.aload_n 0, 1)],
  [some (.getfield 44, 3), none, none, some (.iload_n 1, 1), some (.iaload, 1), some (.istore_n 2, 1), some (.aload_n 0, 1), some (.getfield 44, 3), none, none, some (.iload_n 1, 1), some (.iconst 0, 1), some (.iastore, 1), some (.iload_n 2, 1), some (.ireturn, 1)]]
def mt_Mo_send : List (List (Option (Instr × Nat))) := [
  [some (.iload_n 1, 1), some (.invokestatic 243, 3), none, none, some (.ifCond .ne 6, 3), none, none, some (.bipush (-2), 2), none, some (.ireturn, 1), some (.aload_n 0, 1), some (.getfield 172, 3), none, none, some (.bipush 12, 2), none],
  [some (.if_icmp .ne 6, 3), none, none, some (.bipush (-5), 2), none, some (.ireturn, 1), some (.bipush 8, 2), none, some (.aload_n 0, 1), some (.getfield 172, 3), none, none, some (.imul, 1), some (.istore_n 2, 1), some (.aload_n 0, 1), some (.getfield 56, 3)],
  [none, none, some (.iload_n 2, 1), some (.iload_n 1, 1), some (.iastore, 1), some (.aload_n 0, 1), some (.getfield 56, 3), none, none, some (.iload_n 2, 1), some (.iconst 1, 1), some (.iadd, 1), some (.aload_n 0, 1), some (.getfield 17, 3), none, none],
  [some (.iload_n 1, 1), some (.iaload, 1), some (.iastore, 1), some (.aload_n 0, 1), some (.getfield 56, 3), none, none, some (.iload_n 2, 1), some (.iconst 2, 1), some (.iadd, 1), some (.iconst 0, 1), some (.iastore, 1), some (.aload_n 0, 1), some (.getfield 56, 3), none, none],
  [some (.iload_n 2, 1), some (.iconst 3, 1), some (.iadd, 1), some (.aload_n 0, 1), some (.getfield 44, 3), none, none, some (.iload_n 1, 1), some (.iaload, 1), some (.iconst 2, 1), some (.if_icmp .ne 7, 3), none, none, some (.iconst 1, 1), some (.goto 4, 3), none],
  [none, some (.iconst 0, 1), some (.iastore, 1), some (.aload_n 0, 1), some (.getfield 56, 3), none, none, some (.iload_n 2, 1), some (.iconst 4, 1), some (.iadd, 1), some (.aload_n 0, 1), some (.getfield 53, 3), none, none, some (.iload_n 1, 1), some (.iaload, 1)],
  [some (.iastore, 1), some (.aload_n 0, 1), some (.getfield 56, 3), none, none, some (.iload_n 2, 1), some (.iconst 5, 1), some (.iadd, 1), some (.iconst 0, 1), some (.iastore, 1), some (.aload_n 0, 1), some (.getfield 56, 3), none, none, some (.iload_n 2, 1), some (.bipush 6, 2)],
  [none, some (.iadd, 1), some (.iconst 0, 1), some (.iastore, 1), some (.aload_n 0, 1), some (.getfield 56, 3), none, none, some (.iload_n 2, 1), some (.bipush 7, 2), none, some (.iadd, 1), some (.iconst 0, 1), some (.iastore, 1), some (.aload_n 0, 1), some (.dup, 1)],
  [some (.getfield 172, 3), none, none, some (.iconst 1, 1), some (.iadd, 1), some (.putfield 172, 3), none, none, some (.aload_n 0, 1), some (.getfield 172, 3), none, none, some (.ireturn, 1)]]
def mt_Mo_hops : List (List (Option (Instr × Nat))) := [
  [some (.aload_n 0, 1), some (.getfield 56, 3), none, none, some (.iload_n 1, 1), some (.iaload, 1), some (.istore_n 2, 1), some (.aload_n 0, 1), some (.getfield 56, 3), none, none, some (.iload_n 1, 1), some (.iconst 1, 1), some (.iadd, 1), some (.iaload, 1), some (.istore_n 3, 1)],
  [some (.aload_n 0, 1), some (.getfield 56, 3), none, none, some (.iload_n 1, 1), some (.iconst 3, 1), some (.iadd, 1), some (.iaload, 1), some (.iconst 1, 1), some (.if_icmp .eq 16, 3), none, none, some (.aload_n 0, 1), some (.getfield 41, 3), none, none],
  [some (.iload_n 2, 1), some (.iaload, 1), some (.iload_n 3, 1), some (.invokestatic 187, 3), none, none, some (.ifCond .eq 7, 3), none, none, some (.iconst 1, 1), some (.goto 4, 3), none, none, some (.iconst 0, 1), some (.istore 4, 2), none],
  [some (.iload 4, 2), none, some (.ifCond .eq 17, 3), none, none, some (.aload_n 0, 1), some (.getfield 32, 3), none, none, some (.bipush 8, 2), none, some (.iload_n 2, 1), some (.imul, 1), some (.iload_n 3, 1), some (.iadd, 1), some (.iaload, 1)],
  [some (.goto 14, 3), none, none, some (.aload_n 0, 1), some (.getfield 29, 3), none, none, some (.bipush 8, 2), none, some (.iload_n 2, 1), some (.imul, 1), some (.iload_n 3, 1), some (.iadd, 1), some (.iaload, 1), some (.istore 5, 2), none],
  [some (.iload 5, 2), none, some (.iconst (-1), 1), some (.if_icmp .eq 18, 3), none, none, some (.aload_n 0, 1), some (.getfield 13, 3), none, none, some (.bipush 8, 2), none, some (.iload_n 3, 1), some (.imul, 1), some (.iload 5, 2), none],
  [some (.iadd, 1), some (.iaload, 1), some (.ifCond .ne 15, 3), none, none, some (.aload_n 0, 1), some (.dup, 1), some (.getfield 184, 3), none, none, some (.iconst 1, 1), some (.iadd, 1), some (.putfield 184, 3), none, none, some (.iconst 0, 1)],
  [some (.ireturn, 1), some (.aload_n 0, 1), some (.iload_n 2, 1), some (.invokevirtual 221, 3), none, none, some (.iload_n 3, 1), some (.invokestatic 187, 3), none, none, some (.ifCond .eq 24, 3), none, none, some (.aload_n 0, 1), some (.getfield 56, 3), none],
  [none, some (.iload 4, 2), none, some (.ifCond .eq 10, 3), none, none, some (.iload_n 1, 1), some (.bipush 6, 2), none, some (.iadd, 1), some (.goto 6, 3), none, none, some (.iload_n 1, 1), some (.iconst 5, 1), some (.iadd, 1)],
  [some (.iconst 1, 1), some (.iastore, 1), some (.aload_n 0, 1), some (.getfield 56, 3), none, none, some (.iload_n 1, 1), some (.iconst 1, 1), some (.iadd, 1), some (.iload 5, 2), none, some (.iastore, 1), some (.aload_n 0, 1), some (.getfield 56, 3), none, none],
  [some (.iload_n 1, 1), some (.iconst 2, 1), some (.iadd, 1), some (.dup2, 1), some (.iaload, 1), some (.iconst 1, 1), some (.iadd, 1), some (.iastore, 1), some (.aload_n 0, 1), some (.getfield 56, 3), none, none, some (.iload_n 1, 1), some (.bipush 7, 2), none, some (.iadd, 1)],
  [some (.dup2, 1), some (.iaload, 1), some (.iload 5, 2), none, some (.aload_n 0, 1), some (.getfield 26, 3), none, none, some (.iload_n 2, 1), some (.iaload, 1), some (.if_icmp .ne 7, 3), none, none, some (.iconst 1, 1), some (.goto 4, 3), none],
  [none, some (.iconst 0, 1), some (.ior, 1), some (.iastore, 1), some (.iload 5, 2), none, some (.aload_n 0, 1), some (.getfield 20, 3), none, none, some (.iload_n 2, 1), some (.iaload, 1), some (.if_icmp .ne 87, 3), none, none, some (.aload_n 0, 1)],
  [some (.dup, 1), some (.getfield 175, 3), none, none, some (.iconst 1, 1), some (.iadd, 1), some (.putfield 175, 3), none, none, some (.aload_n 0, 1), some (.dup, 1), some (.getfield 178, 3), none, none, some (.aload_n 0, 1), some (.getfield 26, 3)],
  [none, none, some (.iload_n 2, 1), some (.iaload, 1), some (.iconst (-1), 1), some (.if_icmp .eq 19, 3), none, none, some (.aload_n 0, 1), some (.getfield 56, 3), none, none, some (.iload_n 1, 1), some (.bipush 7, 2), none, some (.iadd, 1)],
  [some (.iaload, 1), some (.ifCond .ne 7, 3), none, none, some (.iconst 1, 1), some (.goto 4, 3), none, none, some (.iconst 0, 1), some (.iadd, 1), some (.putfield 178, 3), none, none, some (.aload_n 0, 1), some (.dup, 1), some (.getfield 181, 3)],
  [none, none, some (.aload_n 0, 1), some (.getfield 56, 3), none, none, some (.iload_n 1, 1), some (.iconst 5, 1), some (.iadd, 1), some (.iaload, 1), some (.aload_n 0, 1), some (.getfield 56, 3), none, none, some (.iload_n 1, 1), some (.bipush 6, 2)],
  [none, some (.iadd, 1), some (.iaload, 1), some (.iadd, 1), some (.iconst 2, 1), some (.if_icmp .ne 7, 3), none, none, some (.iconst 1, 1), some (.goto 4, 3), none, none, some (.iconst 0, 1), some (.iadd, 1), some (.putfield 181, 3), none],
  [none, some (.iconst 0, 1), some (.ireturn, 1), some (.aload_n 0, 1), some (.dup, 1), some (.getfield 184, 3), none, none, some (.aload_n 0, 1), some (.getfield 56, 3), none, none, some (.iload_n 1, 1), some (.iconst 2, 1), some (.iadd, 1), some (.iaload, 1)],
  [some (.bipush 20, 2), none, some (.if_icmp .ne 7, 3), none, none, some (.iconst 1, 1), some (.goto 4, 3), none, none, some (.iconst 0, 1), some (.iadd, 1), some (.putfield 184, 3), none, none, some (.aload_n 0, 1), some (.getfield 56, 3)],
  [none, none, some (.iload_n 1, 1), some (.iconst 2, 1), some (.iadd, 1), some (.iaload, 1), some (.bipush 20, 2), none, some (.if_icmp .ge 7, 3), none, none, some (.iconst 1, 1), some (.goto 4, 3), none, none, some (.iconst 0, 1)],
  [some (.ireturn, 1)]]
def mt_Mo_tick : List (List (Option (Instr × Nat))) := [
  [some (.aload_n 0, 1), some (.getfield 175, 3), none, none, some (.istore_n 1, 1), some (.iconst 0, 1), some (.istore_n 2, 1), some (.iconst 0, 1), some (.istore_n 3, 1), some (.iload_n 3, 1), some (.aload_n 0, 1), some (.getfield 172, 3), none, none, some (.if_icmp .ge 63, 3), none],
  [none, some (.aload_n 0, 1), some (.bipush 8, 2), none, some (.iload_n 3, 1), some (.imul, 1), some (.invokevirtual 276, 3), none, none, some (.ifCond .eq 46, 3), none, none, some (.iconst 0, 1), some (.istore 4, 2), none, some (.iload 4, 2)],
  [none, some (.bipush 8, 2), none, some (.if_icmp .ge 33, 3), none, none, some (.aload_n 0, 1), some (.getfield 56, 3), none, none, some (.bipush 8, 2), none, some (.iload_n 2, 1), some (.imul, 1), some (.iload 4, 2), none],
  [some (.iadd, 1), some (.aload_n 0, 1), some (.getfield 56, 3), none, none, some (.bipush 8, 2), none, some (.iload_n 3, 1), some (.imul, 1), some (.iload 4, 2), none, some (.iadd, 1), some (.iaload, 1), some (.iastore, 1), some (.iinc 4 1, 3), none],
  [none, some (.goto (-34), 3), none, none, some (.iinc 2 1, 3), none, none, some (.iinc 3 1, 3), none, none, some (.goto (-65), 3), none, none, some (.aload_n 0, 1), some (.iload_n 2, 1), some (.putfield 172, 3)],
  [none, none, some (.aload_n 0, 1), some (.getfield 175, 3), none, none, some (.iload_n 1, 1), some (.isub, 1), some (.ireturn, 1)]]
def mt_Mo_isOfMovers : List (List (Option (Instr × Nat))) := [
  [some (.iload_n 2, 1), some (.aload_n 0, 1), some (.iload_n 1, 1), some (.invokevirtual 221, 3), none, none, some (.iconst (-1), 1), some (.ixor, 1), some (.iand, 1), some (.ifCond .ne 7, 3), none, none, some (.iconst 1, 1), some (.goto 4, 3), none, none],
  [some (.iconst 0, 1), some (.ireturn, 1)]]
def mt_Mo_sound : List (List (Option (Instr × Nat))) := [
  [some (.iload_n 1, 1), some (.invokestatic 243, 3), none, none, some (.ifCond .ne 6, 3), none, none, some (.bipush (-2), 2), none, some (.ireturn, 1), some (.aload_n 0, 1), some (.iload_n 1, 1), some (.iload_n 2, 1), some (.invokevirtual 279, 3), none, none],
  [some (.ifCond .ne 6, 3), none, none, some (.bipush (-3), 2), none, some (.ireturn, 1), some (.aload_n 0, 1), some (.invokevirtual 231, 3), none, none, some (.aload_n 0, 1), some (.iload_n 1, 1), some (.iload_n 1, 1), some (.invokevirtual 234, 3), none, none],
  [some (.aload_n 0, 1), some (.iload_n 1, 1), some (.iload_n 2, 1), some (.invokevirtual 214, 3), none, none, some (.ireturn, 1)]]
def mt_Mo_walk : List (List (Option (Instr × Nat))) := [
  [some (.iload_n 1, 1), some (.invokestatic 243, 3), none, none, some (.ifCond .ne 6, 3), none, none, some (.bipush (-2), 2), none, some (.ireturn, 1), some (.aload_n 0, 1), some (.iload_n 1, 1), some (.iload_n 2, 1), some (.invokevirtual 279, 3), none, none],
  [some (.ifCond .eq 15, 3), none, none, some (.iload_n 3, 1), some (.i2l, 1), some (.lconst 0, 1), some (.ldc2_w 101, 3), none, none, some (.invokestatic 97, 3), none, none, some (.ifCond .ne 6, 3), none, none, some (.bipush (-3), 2)],
  [none, some (.ireturn, 1), some (.aload_n 0, 1), some (.iload_n 1, 1), some (.iload_n 2, 1), some (.invokevirtual 204, 3), none, none, some (.iload_n 3, 1), some (.ifCond .ne 10, 3), none, none, some (.aload_n 0, 1), some (.getfield 194, 3), none, none],
  [some (.goto 26, 3), none, none, some (.iload_n 3, 1), some (.iconst 1, 1), some (.if_icmp .ne 10, 3), none, none, some (.aload_n 0, 1), some (.getfield 191, 3), none, none, some (.goto 14, 3), none, none, some (.aload_n 0, 1)],
  [some (.getfield 74, 3), none, none, some (.aload_n 0, 1), some (.getfield 191, 3), none, none, some (.iconst 1, 1), some (.isub, 1), some (.iaload, 1), some (.ireturn, 1)]]
def mt_Mo_leastUnsound : List (List (Option (Instr × Nat))) := [
  [some (.aload_n 0, 1), some (.invokevirtual 231, 3), none, none, some (.aload_n 0, 1), some (.iload_n 1, 1), some (.iload_n 1, 1), some (.invokevirtual 234, 3), none, none, some (.iconst 0, 1), some (.istore_n 3, 1), some (.iload_n 3, 1), some (.sipush 256, 3), none, none],
  [some (.if_icmp .ge 34, 3), none, none, some (.iload_n 3, 1), some (.iload_n 2, 1), some (.iconst (-1), 1), some (.ixor, 1), some (.iand, 1), some (.aload_n 0, 1), some (.getfield 41, 3), none, none, some (.iload_n 1, 1), some (.iaload, 1), some (.if_icmp .ne 14, 3), none],
  [none, some (.aload_n 0, 1), some (.iload_n 1, 1), some (.iload_n 3, 1), some (.invokevirtual 225, 3), none, none, some (.ifCond .ne 5, 3), none, none, some (.iload_n 3, 1), some (.ireturn, 1), some (.iinc 3 1, 3), none, none, some (.goto (-35), 3)],
  [none, none, some (.iconst (-1), 1), some (.ireturn, 1)]]
def mt_Mo_safe : List (List (Option (Instr × Nat))) := [
  [some (.iload_n 1, 1), some (.invokestatic 243, 3), none, none, some (.ifCond .ne 6, 3), none, none, some (.bipush (-2), 2), none, some (.ireturn, 1), some (.aload_n 0, 1), some (.iload_n 1, 1), some (.iload_n 2, 1), some (.invokevirtual 255, 3), none, none],
  [some (.ifCond .eq 15, 3), none, none, some (.iload_n 3, 1), some (.i2l, 1), some (.lconst 0, 1), some (.ldc2_w 101, 3), none, none, some (.invokestatic 97, 3), none, none, some (.ifCond .ne 6, 3), none, none, some (.bipush (-3), 2)],
  [none, some (.ireturn, 1), some (.aload_n 0, 1), some (.iload_n 1, 1), some (.iload_n 2, 1), some (.invokevirtual 261, 3), none, none, some (.istore 4, 2), none, some (.iload_n 3, 1), some (.ifCond .ne 15, 3), none, none, some (.iload 4, 2), none],
  [some (.iconst (-1), 1), some (.if_icmp .ne 7, 3), none, none, some (.iconst 1, 1), some (.goto 4, 3), none, none, some (.iconst 0, 1), some (.ireturn, 1), some (.iload_n 3, 1), some (.iconst 1, 1), some (.if_icmp .eq 9, 3), none, none, some (.iload 4, 2)],
  [none, some (.iconst (-1), 1), some (.if_icmp .ne 6, 3), none, none, some (.iload 4, 2), none, some (.ireturn, 1), some (.aload_n 0, 1), some (.getfield 35, 3), none, none, some (.aload_n 0, 1), some (.iload_n 1, 1), some (.iload 4, 2), none],
  [some (.invokevirtual 214, 3), none, none, some (.iconst (-1), 1), some (.ixor, 1), some (.iand, 1), some (.istore 5, 2), none, some (.iconst 0, 1), some (.istore 6, 2), none, some (.iload 5, 2), none, some (.iload 6, 2), none, some (.invokestatic 187, 3)],
  [none, none, some (.ifCond .ne 9, 3), none, none, some (.iinc 6 1, 3), none, none, some (.goto (-13), 3), none, none, some (.iload 6, 2), none, some (.ireturn, 1)]]
def mt_Mo_plan : List (List (Option (Instr × Nat))) := [
  [some (.iload_n 1, 1), some (.invokestatic 243, 3), none, none, some (.ifCond .ne 6, 3), none, none, some (.bipush (-2), 2), none, some (.ireturn, 1), some (.aload_n 0, 1), some (.iload_n 1, 1), some (.invokevirtual 267, 3), none, none, some (.aload_n 0, 1)],
  [some (.getfield 41, 3), none, none, some (.iload_n 1, 1), some (.iaload, 1), some (.istore_n 3, 1), some (.aload_n 0, 1), some (.getfield 87, 3), none, none, some (.iload_n 3, 1), some (.iaload, 1), some (.iconst (-1), 1), some (.if_icmp .ne 6, 3), none, none],
  [some (.bipush (-4), 2), none, some (.ireturn, 1), some (.iload_n 2, 1), some (.i2l, 1), some (.lconst 0, 1), some (.aload_n 0, 1), some (.getfield 87, 3), none, none, some (.iload_n 3, 1), some (.iaload, 1), some (.iconst 1, 1), some (.isub, 1), some (.i2l, 1), some (.invokestatic 97, 3)],
  [none, none, some (.ifCond .ne 6, 3), none, none, some (.bipush (-3), 2), none, some (.ireturn, 1), some (.iconst 0, 1), some (.istore 4, 2), none, some (.iload 4, 2), none, some (.iload_n 2, 1), some (.if_icmp .ge 18, 3), none],
  [none, some (.iload_n 3, 1), some (.aload_n 0, 1), some (.getfield 90, 3), none, none, some (.iload_n 3, 1), some (.iaload, 1), some (.ior, 1), some (.istore_n 3, 1), some (.iinc 4 1, 3), none, none, some (.goto (-18), 3), none, none],
  [some (.aload_n 0, 1), some (.getfield 90, 3), none, none, some (.iload_n 3, 1), some (.iaload, 1), some (.ireturn, 1)]]
def mt_Mo_rounds : List (List (Option (Instr × Nat))) := [
  [some (.iload_n 1, 1), some (.invokestatic 243, 3), none, none, some (.ifCond .ne 6, 3), none, none, some (.bipush (-2), 2), none, some (.ireturn, 1), some (.aload_n 0, 1), some (.iload_n 1, 1), some (.invokevirtual 267, 3), none, none, some (.aload_n 0, 1)],
  [some (.getfield 87, 3), none, none, some (.aload_n 0, 1), some (.getfield 41, 3), none, none, some (.iload_n 1, 1), some (.iaload, 1), some (.iaload, 1), some (.ireturn, 1)]]
def mt_Mo_canGo : List (List (Option (Instr × Nat))) := [
  [some (.iconst 0, 1), some (.istore_n 3, 1), some (.iload_n 3, 1), some (.iconst 3, 1), some (.if_icmp .ge 37, 3), none, none, some (.aload_n 0, 1), some (.getfield 77, 3), none, none, some (.iload_n 3, 1), some (.iload_n 2, 1), some (.iload_n 3, 1), some (.invokestatic 187, 3), none],
  [none, some (.ifCond .eq 11, 3), none, none, some (.aload_n 0, 1), some (.iload_n 3, 1), some (.invokevirtual 221, 3), none, none, some (.goto 9, 3), none, none, some (.aload_n 0, 1), some (.getfield 41, 3), none, none],
  [some (.iload_n 3, 1), some (.iaload, 1), some (.iastore, 1), some (.iinc 3 1, 3), none, none, some (.goto (-36), 3), none, none, some (.aload_n 0, 1), some (.iload_n 1, 1), some (.iload_n 1, 1), some (.invokevirtual 234, 3), none, none, some (.aload_n 0, 1)],
  [some (.iload_n 1, 1), some (.invokevirtual 237, 3), none, none, some (.aload_n 0, 1), some (.getfield 87, 3), none, none, some (.aload_n 0, 1), some (.getfield 41, 3), none, none, some (.iload_n 1, 1), some (.iaload, 1), some (.iaload, 1), some (.iconst (-1), 1)],
  [some (.if_icmp .eq 7, 3), none, none, some (.iconst 1, 1), some (.goto 4, 3), none, none, some (.iconst 0, 1), some (.ireturn, 1)]]
def mt_Mo_order : List (List (Option (Instr × Nat))) := [
  [some (.iload_n 1, 1), some (.i2l, 1), some (.lconst 0, 1), some (.ldc2_w 101, 3), none, none, some (.invokestatic 97, 3), none, none, some (.ifCond .ne 6, 3), none, none, some (.bipush (-3), 2), none, some (.ireturn, 1), some (.iconst 0, 1)],
  [some (.istore_n 2, 1), some (.iload_n 2, 1), some (.iconst 3, 1), some (.if_icmp .ge 90, 3), none, none, some (.iconst 0, 1), some (.istore_n 3, 1), some (.iload_n 3, 1), some (.iconst 3, 1), some (.if_icmp .ge 77, 3), none, none, some (.iconst 3, 1), some (.iload_n 2, 1), some (.isub, 1)],
  [some (.iload_n 3, 1), some (.isub, 1), some (.istore 4, 2), none, some (.iload_n 2, 1), some (.iload_n 3, 1), some (.if_icmp .eq 59, 3), none, none, some (.aload_n 0, 1), some (.iload_n 2, 1), some (.iconst 0, 1), some (.invokevirtual 282, 3), none, none, some (.ifCond .eq 50, 3)],
  [none, none, some (.aload_n 0, 1), some (.iload_n 3, 1), some (.iconst 1, 1), some (.iload_n 2, 1), some (.ishl, 1), some (.invokevirtual 282, 3), none, none, some (.ifCond .eq 39, 3), none, none, some (.aload_n 0, 1), some (.iload 4, 2), none],
  [some (.iconst 1, 1), some (.iload_n 2, 1), some (.ishl, 1), some (.iconst 1, 1), some (.iload_n 3, 1), some (.ishl, 1), some (.ior, 1), some (.invokevirtual 282, 3), none, none, some (.ifCond .eq 23, 3), none, none, some (.iload_n 1, 1), some (.ifCond .ne 7, 3), none],
  [none, some (.iload_n 2, 1), some (.goto 14, 3), none, none, some (.iload_n 1, 1), some (.iconst 1, 1), some (.if_icmp .ne 7, 3), none, none, some (.iload_n 3, 1), some (.goto 5, 3), none, none, some (.iload 4, 2), none],
  [some (.ireturn, 1), some (.iinc 3 1, 3), none, none, some (.goto (-76), 3), none, none, some (.iinc 2 1, 3), none, none, some (.goto (-89), 3), none, none, some (.iconst (-1), 1), some (.ireturn, 1)]]
def mt_Mo_waits : List (List (Option (Instr × Nat))) := [
  [some (.iload_n 1, 1), some (.invokestatic 243, 3), none, none, some (.ifCond .eq 10, 3), none, none, some (.iload_n 2, 1), some (.invokestatic 243, 3), none, none, some (.ifCond .ne 6, 3), none, none, some (.bipush (-2), 2), none],
  [some (.ireturn, 1), some (.aload_n 0, 1), some (.invokevirtual 231, 3), none, none, some (.aload_n 0, 1), some (.iload_n 1, 1), some (.iload_n 1, 1), some (.invokevirtual 234, 3), none, none, some (.aload_n 0, 1), some (.iload_n 1, 1), some (.aload_n 0, 1), some (.iload_n 1, 1), some (.invokevirtual 221, 3)],
  [none, none, some (.invokevirtual 204, 3), none, none, some (.aload_n 0, 1), some (.getfield 201, 3), none, none, some (.ifCond .eq 15, 3), none, none, some (.aload_n 0, 1), some (.iload_n 1, 1), some (.invokevirtual 211, 3), none],
  [none, some (.ifCond .ne 7, 3), none, none, some (.iconst 1, 1), some (.goto 4, 3), none, none, some (.iconst 0, 1), some (.istore_n 3, 1), some (.aload_n 0, 1), some (.iload_n 1, 1), some (.iload_n 2, 1), some (.invokevirtual 234, 3), none, none],
  [some (.aload_n 0, 1), some (.iload_n 1, 1), some (.aload_n 0, 1), some (.iload_n 1, 1), some (.invokevirtual 221, 3), none, none, some (.invokevirtual 204, 3), none, none, some (.iload_n 1, 1), some (.iload_n 2, 1), some (.if_icmp .eq 19, 3), none, none, some (.iload_n 3, 1)],
  [some (.ifCond .eq 15, 3), none, none, some (.aload_n 0, 1), some (.iload_n 1, 1), some (.invokevirtual 211, 3), none, none, some (.ifCond .eq 7, 3), none, none, some (.iconst 1, 1), some (.goto 4, 3), none, none, some (.iconst 0, 1)],
  [some (.ireturn, 1)]]
def mt_Mo_letter : List (List (Option (Instr × Nat))) := [
  [some (.iload_n 1, 1), some (.i2l, 1), some (.lconst 0, 1), some (.aload_n 0, 1), some (.getfield 172, 3), none, none, some (.iconst 1, 1), some (.isub, 1), some (.i2l, 1), some (.invokestatic 97, 3), none, none, some (.ifCond .ne 6, 3), none, none],
  [some (.bipush (-2), 2), none, some (.ireturn, 1), some (.bipush 8, 2), none, some (.iload_n 1, 1), some (.imul, 1), some (.istore_n 3, 1), some (.iload_n 2, 1), some (.tableswitch 97 0 5 #[39, 39, 39, 39, 48, 69], 39), none, none, none, none, none, none],
  [none, none, none, none, none, none, none, none, none, none, none, none, none, none, none, none],
  [none, none, none, none, none, none, none, none, none, none, none, none, none, none, none, none],
  [some (.aload_n 0, 1), some (.getfield 56, 3), none, none, some (.iload_n 3, 1), some (.iload_n 2, 1), some (.iadd, 1), some (.iaload, 1), some (.ireturn, 1), some (.aload_n 0, 1), some (.getfield 53, 3), none, none, some (.aload_n 0, 1), some (.getfield 56, 3), none],
  [none, some (.iload_n 3, 1), some (.iaload, 1), some (.iaload, 1), some (.aload_n 0, 1), some (.getfield 56, 3), none, none, some (.iload_n 3, 1), some (.iconst 4, 1), some (.iadd, 1), some (.iaload, 1), some (.isub, 1), some (.ireturn, 1), some (.aload_n 0, 1), some (.getfield 56, 3)],
  [none, none, some (.iload_n 3, 1), some (.iconst 5, 1), some (.iadd, 1), some (.iaload, 1), some (.aload_n 0, 1), some (.getfield 56, 3), none, none, some (.iload_n 3, 1), some (.bipush 6, 2), none, some (.iadd, 1), some (.iaload, 1), some (.iadd, 1)],
  [some (.iconst 2, 1), some (.if_icmp .ne 7, 3), none, none, some (.iconst 1, 1), some (.goto 4, 3), none, none, some (.iconst 0, 1), some (.ireturn, 1), some (.bipush (-3), 2), none, some (.ireturn, 1)]]
def mt_Mo_links : List (List (Option (Instr × Nat))) := [
  [some (.iconst 0, 1), some (.istore_n 1, 1), some (.iconst 0, 1), some (.istore_n 2, 1), some (.iload_n 2, 1), some (.bipush 64, 2), none, some (.if_icmp .ge 26, 3), none, none, some (.iload_n 1, 1), some (.aload_n 0, 1), some (.getfield 13, 3), none, none, some (.iload_n 2, 1)],
  [some (.iaload, 1), some (.ifCond .le 7, 3), none, none, some (.iconst 1, 1), some (.goto 4, 3), none, none, some (.iconst 0, 1), some (.iadd, 1), some (.istore_n 1, 1), some (.iinc 2 1, 3), none, none, some (.goto (-26), 3), none],
  [none, some (.iload_n 1, 1), some (.ireturn, 1)]]
def mt_Mo_count : List (List (Option (Instr × Nat))) := [
  [some (.iload_n 1, 1), some (.tableswitch 115 0 10 #[59, 64, 69, 74, 79, 84, 89, 94, 99, 104, 109], 59), none, none, none, none, none, none, none, none, none, none, none, none, none, none],
  [none, none, none, none, none, none, none, none, none, none, none, none, none, none, none, none],
  [none, none, none, none, none, none, none, none, none, none, none, none, none, none, none, none],
  [none, none, none, none, none, none, none, none, none, none, none, none, some (.aload_n 0, 1), some (.getfield 7, 3), none, none],
  [some (.ireturn, 1), some (.aload_n 0, 1), some (.invokevirtual 285, 3), none, none, some (.ireturn, 1), some (.aload_n 0, 1), some (.getfield 35, 3), none, none, some (.ireturn, 1), some (.aload_n 0, 1), some (.getfield 38, 3), none, none, some (.ireturn, 1)],
  [some (.aload_n 0, 1), some (.getfield 172, 3), none, none, some (.ireturn, 1), some (.aload_n 0, 1), some (.getfield 175, 3), none, none, some (.ireturn, 1), some (.aload_n 0, 1), some (.getfield 178, 3), none, none, some (.ireturn, 1), some (.aload_n 0, 1)],
  [some (.getfield 181, 3), none, none, some (.ireturn, 1), some (.aload_n 0, 1), some (.getfield 184, 3), none, none, some (.ireturn, 1), some (.aload_n 0, 1), some (.getfield 109, 3), none, none, some (.ireturn, 1), some (.aload_n 0, 1), some (.iconst (-1), 1)],
  [some (.invokevirtual 270, 3), none, none, some (.ireturn, 1), some (.bipush (-3), 2), none, some (.ireturn, 1)]]
def mt_Jint_bitCount : List (List (Option (Instr × Nat))) := [
  [some (.iload_n 0, 1), some (.iload_n 0, 1), some (.iconst 1, 1), some (.iushr, 1), some (.ldc_w 265, 3), none, none, some (.iand, 1), some (.isub, 1), some (.istore_n 0, 1), some (.iload_n 0, 1), some (.ldc_w 266, 3), none, none, some (.iand, 1), some (.iload_n 0, 1)],
  [some (.iconst 2, 1), some (.iushr, 1), some (.ldc_w 266, 3), none, none, some (.iand, 1), some (.iadd, 1), some (.istore_n 0, 1), some (.iload_n 0, 1), some (.iload_n 0, 1), some (.iconst 4, 1), some (.iushr, 1), some (.iadd, 1), some (.ldc_w 267, 3), none, none],
  [some (.iand, 1), some (.istore_n 0, 1), some (.iload_n 0, 1), some (.iload_n 0, 1), some (.bipush 8, 2), none, some (.iushr, 1), some (.iadd, 1), some (.istore_n 0, 1), some (.iload_n 0, 1), some (.iload_n 0, 1), some (.bipush 16, 2), none, some (.iushr, 1), some (.iadd, 1), some (.istore_n 0, 1)],
  [some (.iload_n 0, 1), some (.bipush 63, 2), none, some (.iand, 1), some (.ireturn, 1)]]
def mt_Jmath_max : List (List (Option (Instr × Nat))) := [
  [some (.iload_n 0, 1), some (.iload_n 1, 1), some (.if_icmp .lt 7, 3), none, none, some (.iload_n 0, 1), some (.goto 4, 3), none, none, some (.iload_n 1, 1), some (.ireturn, 1)]]
def mt_Jstr_length : List (List (Option (Instr × Nat))) := [
  [some (.aload_n 0, 1), some (.getfield 9, 3), none, none, some (.arraylength, 1), some (.aload_n 0, 1), some (.invokevirtual 335, 3), none, none, some (.ishr, 1), some (.ireturn, 1)]]
def mt_Jstr_charAt : List (List (Option (Instr × Nat))) := [
  [some (.aload_n 0, 1), some (.invokevirtual 492, 3), none, none, some (.ifCond .eq 12, 3), none, none, some (.aload_n 0, 1), some (.getfield 9, 3), none, none, some (.iload_n 1, 1), some (.invokestatic 495, 3), none, none, some (.ireturn, 1)],
  [some (.aload_n 0, 1), some (.getfield 9, 3), none, none, some (.iload_n 1, 1), some (.invokestatic 498, 3), none, none, some (.ireturn, 1)]]
def mt_Jstr_coder : List (List (Option (Instr × Nat))) := [
  [some (.getstatic 38, 3), none, none, some (.ifCond .eq 10, 3), none, none, some (.aload_n 0, 1), some (.getfield 15, 3), none, none, some (.goto 4, 3), none, none, some (.iconst 1, 1), some (.ireturn, 1)]]
def mt_Jstr_isLatin1 : List (List (Option (Instr × Nat))) := [
  [some (.getstatic 38, 3), none, none, some (.ifCond .eq 14, 3), none, none, some (.aload_n 0, 1), some (.getfield 15, 3), none, none, some (.ifCond .ne 7, 3), none, none, some (.iconst 1, 1), some (.goto 4, 3), none],
  [none, some (.iconst 0, 1), some (.ireturn, 1)]]
def mt_Jstr_checkIndex : List (List (Option (Instr × Nat))) := [
  [some (.iload_n 0, 1), some (.iload_n 1, 1), some (.getstatic 1053, 3), none, none, some (.invokestatic 1059, 3), none, none, some (.pop, 1), some (.return_, 1)]]
def mt_Jlat_charAt : List (List (Option (Instr × Nat))) := [
  [some (.iload_n 1, 1), some (.aload_n 0, 1), some (.arraylength, 1), some (.invokestatic 9, 3), none, none, some (.aload_n 0, 1), some (.iload_n 1, 1), some (.baload, 1), some (.sipush 255, 3), none, none, some (.iand, 1), some (.i2c, 1), some (.ireturn, 1)]]
def mt_Jpre_checkIndex : List (List (Option (Instr × Nat))) := [
  [some (.iload_n 0, 1), some (.ifCond .lt 8, 3), none, none, some (.iload_n 0, 1), some (.iload_n 1, 1), some (.if_icmp .lt 10, 3), none, none, some (.aload_n 2, 1), some (.iload_n 0, 1), some (.iload_n 1, 1), some (.invokestatic 95, 3), none, none, some (.athrow, 1)],
  [some (.iload_n 0, 1), some (.ireturn, 1)]]
def mt_Law_law : List (List (Option (Instr × Nat))) := [
  [some (.new 7, 3), none, none, some (.dup, 1), some (.invokespecial 9, 3), none, none, some (.astore_n 1, 1), some (.new 10, 3), none, none, some (.dup, 1), some (.invokespecial 12, 3), none, none, some (.astore_n 2, 1)],
  [some (.iconst 0, 1), some (.istore_n 3, 1), some (.iload_n 3, 1), some (.aload_n 0, 1), some (.arraylength, 1), some (.iconst 4, 1), some (.isub, 1), some (.if_icmp .gt 998, 3), none, none, some (.aload_n 0, 1), some (.iload_n 3, 1), some (.iaload, 1), some (.bipush 31, 2), none, some (.iand, 1)],
  [some (.tableswitch 983 0 30 #[140, 163, 176, 189, 202, 235, 268, 301, 344, 367, 410, 433, 456, 489, 522, 545, 568, 591, 614, 637, 660, 683, 696, 729, 772, 815, 848, 871, 894, 927, 960], 140), none, none, none, none, none, none, none, none, none, none, none, none, none, none, none],
  [none, none, none, none, none, none, none, none, none, none, none, none, none, none, none, none],
  [none, none, none, none, none, none, none, none, none, none, none, none, none, none, none, none],
  [none, none, none, none, none, none, none, none, none, none, none, none, none, none, none, none],
  [none, none, none, none, none, none, none, none, none, none, none, none, none, none, none, none],
  [none, none, none, none, none, none, none, none, none, none, none, none, none, none, none, none],
  [none, none, none, none, none, none, none, none, none, none, none, none, none, none, none, none],
  [none, none, none, none, none, none, none, none, none, none, none, none, none, none, none, none],
  [none, none, none, none, none, none, none, none, none, none, none, none, some (.aload_n 1, 1), some (.aload_n 0, 1), some (.iload_n 3, 1), some (.iconst 1, 1)],
  [some (.iadd, 1), some (.iaload, 1), some (.invokevirtual 13, 3), none, none, some (.aload_n 2, 1), some (.aload_n 0, 1), some (.iload_n 3, 1), some (.iconst 1, 1), some (.iadd, 1), some (.iaload, 1), some (.invokevirtual 17, 3), none, none, some (.if_icmp .eq 825, 3), none],
  [none, some (.iconst 0, 1), some (.ireturn, 1), some (.aload_n 1, 1), some (.invokevirtual 18, 3), none, none, some (.aload_n 2, 1), some (.invokevirtual 22, 3), none, none, some (.if_icmp .eq 812, 3), none, none, some (.iconst 0, 1), some (.ireturn, 1)],
  [some (.aload_n 1, 1), some (.invokevirtual 23, 3), none, none, some (.aload_n 2, 1), some (.invokevirtual 26, 3), none, none, some (.if_icmp .eq 799, 3), none, none, some (.iconst 0, 1), some (.ireturn, 1), some (.aload_n 1, 1), some (.invokevirtual 27, 3), none],
  [none, some (.aload_n 2, 1), some (.invokevirtual 30, 3), none, none, some (.if_icmp .eq 786, 3), none, none, some (.iconst 0, 1), some (.ireturn, 1), some (.aload_n 1, 1), some (.aload_n 0, 1), some (.iload_n 3, 1), some (.iconst 1, 1), some (.iadd, 1), some (.iaload, 1)],
  [some (.aload_n 0, 1), some (.iload_n 3, 1), some (.iconst 2, 1), some (.iadd, 1), some (.iaload, 1), some (.invokevirtual 31, 3), none, none, some (.aload_n 2, 1), some (.aload_n 0, 1), some (.iload_n 3, 1), some (.iconst 1, 1), some (.iadd, 1), some (.iaload, 1), some (.aload_n 0, 1), some (.iload_n 3, 1)],
  [some (.iconst 2, 1), some (.iadd, 1), some (.iaload, 1), some (.invokevirtual 35, 3), none, none, some (.if_icmp .eq 753, 3), none, none, some (.iconst 0, 1), some (.ireturn, 1), some (.aload_n 1, 1), some (.aload_n 0, 1), some (.iload_n 3, 1), some (.iconst 1, 1), some (.iadd, 1)],
  [some (.iaload, 1), some (.aload_n 0, 1), some (.iload_n 3, 1), some (.iconst 2, 1), some (.iadd, 1), some (.iaload, 1), some (.invokevirtual 36, 3), none, none, some (.aload_n 2, 1), some (.aload_n 0, 1), some (.iload_n 3, 1), some (.iconst 1, 1), some (.iadd, 1), some (.iaload, 1), some (.aload_n 0, 1)],
  [some (.iload_n 3, 1), some (.iconst 2, 1), some (.iadd, 1), some (.iaload, 1), some (.invokevirtual 39, 3), none, none, some (.if_icmp .eq 720, 3), none, none, some (.iconst 0, 1), some (.ireturn, 1), some (.aload_n 1, 1), some (.aload_n 0, 1), some (.iload_n 3, 1), some (.iconst 1, 1)],
  [some (.iadd, 1), some (.iaload, 1), some (.aload_n 0, 1), some (.iload_n 3, 1), some (.iconst 2, 1), some (.iadd, 1), some (.iaload, 1), some (.invokevirtual 40, 3), none, none, some (.aload_n 2, 1), some (.aload_n 0, 1), some (.iload_n 3, 1), some (.iconst 1, 1), some (.iadd, 1), some (.iaload, 1)],
  [some (.aload_n 0, 1), some (.iload_n 3, 1), some (.iconst 2, 1), some (.iadd, 1), some (.iaload, 1), some (.invokevirtual 43, 3), none, none, some (.if_icmp .eq 687, 3), none, none, some (.iconst 0, 1), some (.ireturn, 1), some (.aload_n 1, 1), some (.aload_n 0, 1), some (.iload_n 3, 1)],
  [some (.iconst 1, 1), some (.iadd, 1), some (.iaload, 1), some (.aload_n 0, 1), some (.iload_n 3, 1), some (.iconst 2, 1), some (.iadd, 1), some (.iaload, 1), some (.aload_n 0, 1), some (.iload_n 3, 1), some (.iconst 3, 1), some (.iadd, 1), some (.iaload, 1), some (.invokevirtual 44, 3), none, none],
  [some (.aload_n 2, 1), some (.aload_n 0, 1), some (.iload_n 3, 1), some (.iconst 1, 1), some (.iadd, 1), some (.iaload, 1), some (.aload_n 0, 1), some (.iload_n 3, 1), some (.iconst 2, 1), some (.iadd, 1), some (.iaload, 1), some (.aload_n 0, 1), some (.iload_n 3, 1), some (.iconst 3, 1), some (.iadd, 1), some (.iaload, 1)],
  [some (.invokevirtual 48, 3), none, none, some (.if_icmp .eq 644, 3), none, none, some (.iconst 0, 1), some (.ireturn, 1), some (.aload_n 1, 1), some (.aload_n 0, 1), some (.iload_n 3, 1), some (.iconst 1, 1), some (.iadd, 1), some (.iaload, 1), some (.invokevirtual 49, 3), none],
  [none, some (.aload_n 2, 1), some (.aload_n 0, 1), some (.iload_n 3, 1), some (.iconst 1, 1), some (.iadd, 1), some (.iaload, 1), some (.invokevirtual 52, 3), none, none, some (.if_icmp .eq 621, 3), none, none, some (.iconst 0, 1), some (.ireturn, 1), some (.aload_n 1, 1)],
  [some (.aload_n 0, 1), some (.iload_n 3, 1), some (.iconst 1, 1), some (.iadd, 1), some (.iaload, 1), some (.aload_n 0, 1), some (.iload_n 3, 1), some (.iconst 2, 1), some (.iadd, 1), some (.iaload, 1), some (.aload_n 0, 1), some (.iload_n 3, 1), some (.iconst 3, 1), some (.iadd, 1), some (.iaload, 1), some (.invokevirtual 53, 3)],
  [none, none, some (.aload_n 2, 1), some (.aload_n 0, 1), some (.iload_n 3, 1), some (.iconst 1, 1), some (.iadd, 1), some (.iaload, 1), some (.aload_n 0, 1), some (.iload_n 3, 1), some (.iconst 2, 1), some (.iadd, 1), some (.iaload, 1), some (.aload_n 0, 1), some (.iload_n 3, 1), some (.iconst 3, 1)],
  [some (.iadd, 1), some (.iaload, 1), some (.invokevirtual 56, 3), none, none, some (.if_icmp .eq 578, 3), none, none, some (.iconst 0, 1), some (.ireturn, 1), some (.aload_n 1, 1), some (.aload_n 0, 1), some (.iload_n 3, 1), some (.iconst 1, 1), some (.iadd, 1), some (.iaload, 1)],
  [some (.invokevirtual 57, 3), none, none, some (.aload_n 2, 1), some (.aload_n 0, 1), some (.iload_n 3, 1), some (.iconst 1, 1), some (.iadd, 1), some (.iaload, 1), some (.invokevirtual 60, 3), none, none, some (.if_icmp .eq 555, 3), none, none, some (.iconst 0, 1)],
  [some (.ireturn, 1), some (.aload_n 1, 1), some (.aload_n 0, 1), some (.iload_n 3, 1), some (.iconst 1, 1), some (.iadd, 1), some (.iaload, 1), some (.invokevirtual 61, 3), none, none, some (.aload_n 2, 1), some (.aload_n 0, 1), some (.iload_n 3, 1), some (.iconst 1, 1), some (.iadd, 1), some (.iaload, 1)],
  [some (.invokevirtual 64, 3), none, none, some (.if_icmp .eq 532, 3), none, none, some (.iconst 0, 1), some (.ireturn, 1), some (.aload_n 1, 1), some (.aload_n 0, 1), some (.iload_n 3, 1), some (.iconst 1, 1), some (.iadd, 1), some (.iaload, 1), some (.aload_n 0, 1), some (.iload_n 3, 1)],
  [some (.iconst 2, 1), some (.iadd, 1), some (.iaload, 1), some (.invokevirtual 65, 3), none, none, some (.aload_n 2, 1), some (.aload_n 0, 1), some (.iload_n 3, 1), some (.iconst 1, 1), some (.iadd, 1), some (.iaload, 1), some (.aload_n 0, 1), some (.iload_n 3, 1), some (.iconst 2, 1), some (.iadd, 1)],
  [some (.iaload, 1), some (.invokevirtual 68, 3), none, none, some (.if_icmp .eq 499, 3), none, none, some (.iconst 0, 1), some (.ireturn, 1), some (.aload_n 1, 1), some (.aload_n 0, 1), some (.iload_n 3, 1), some (.iconst 1, 1), some (.iadd, 1), some (.iaload, 1), some (.aload_n 0, 1)],
  [some (.iload_n 3, 1), some (.iconst 2, 1), some (.iadd, 1), some (.iaload, 1), some (.invokevirtual 69, 3), none, none, some (.aload_n 2, 1), some (.aload_n 0, 1), some (.iload_n 3, 1), some (.iconst 1, 1), some (.iadd, 1), some (.iaload, 1), some (.aload_n 0, 1), some (.iload_n 3, 1), some (.iconst 2, 1)],
  [some (.iadd, 1), some (.iaload, 1), some (.invokevirtual 72, 3), none, none, some (.if_icmp .eq 466, 3), none, none, some (.iconst 0, 1), some (.ireturn, 1), some (.aload_n 1, 1), some (.aload_n 0, 1), some (.iload_n 3, 1), some (.iconst 1, 1), some (.iadd, 1), some (.iaload, 1)],
  [some (.invokevirtual 73, 3), none, none, some (.aload_n 2, 1), some (.aload_n 0, 1), some (.iload_n 3, 1), some (.iconst 1, 1), some (.iadd, 1), some (.iaload, 1), some (.invokevirtual 76, 3), none, none, some (.if_icmp .eq 443, 3), none, none, some (.iconst 0, 1)],
  [some (.ireturn, 1), some (.aload_n 1, 1), some (.aload_n 0, 1), some (.iload_n 3, 1), some (.iconst 1, 1), some (.iadd, 1), some (.iaload, 1), some (.invokevirtual 77, 3), none, none, some (.aload_n 2, 1), some (.aload_n 0, 1), some (.iload_n 3, 1), some (.iconst 1, 1), some (.iadd, 1), some (.iaload, 1)],
  [some (.invokevirtual 80, 3), none, none, some (.if_icmp .eq 420, 3), none, none, some (.iconst 0, 1), some (.ireturn, 1), some (.aload_n 1, 1), some (.aload_n 0, 1), some (.iload_n 3, 1), some (.iconst 1, 1), some (.iadd, 1), some (.iaload, 1), some (.invokevirtual 81, 3), none],
  [none, some (.aload_n 2, 1), some (.aload_n 0, 1), some (.iload_n 3, 1), some (.iconst 1, 1), some (.iadd, 1), some (.iaload, 1), some (.invokevirtual 84, 3), none, none, some (.if_icmp .eq 397, 3), none, none, some (.iconst 0, 1), some (.ireturn, 1), some (.aload_n 1, 1)],
  [some (.aload_n 0, 1), some (.iload_n 3, 1), some (.iconst 1, 1), some (.iadd, 1), some (.iaload, 1), some (.invokevirtual 85, 3), none, none, some (.aload_n 2, 1), some (.aload_n 0, 1), some (.iload_n 3, 1), some (.iconst 1, 1), some (.iadd, 1), some (.iaload, 1), some (.invokevirtual 88, 3), none],
  [none, some (.if_icmp .eq 374, 3), none, none, some (.iconst 0, 1), some (.ireturn, 1), some (.aload_n 1, 1), some (.aload_n 0, 1), some (.iload_n 3, 1), some (.iconst 1, 1), some (.iadd, 1), some (.iaload, 1), some (.invokevirtual 89, 3), none, none, some (.aload_n 2, 1)],
  [some (.aload_n 0, 1), some (.iload_n 3, 1), some (.iconst 1, 1), some (.iadd, 1), some (.iaload, 1), some (.invokevirtual 92, 3), none, none, some (.if_icmp .eq 351, 3), none, none, some (.iconst 0, 1), some (.ireturn, 1), some (.aload_n 1, 1), some (.aload_n 0, 1), some (.iload_n 3, 1)],
  [some (.iconst 1, 1), some (.iadd, 1), some (.iaload, 1), some (.invokevirtual 93, 3), none, none, some (.aload_n 2, 1), some (.aload_n 0, 1), some (.iload_n 3, 1), some (.iconst 1, 1), some (.iadd, 1), some (.iaload, 1), some (.invokevirtual 96, 3), none, none, some (.if_icmp .eq 328, 3)],
  [none, none, some (.iconst 0, 1), some (.ireturn, 1), some (.aload_n 1, 1), some (.aload_n 0, 1), some (.iload_n 3, 1), some (.iconst 1, 1), some (.iadd, 1), some (.iaload, 1), some (.invokevirtual 97, 3), none, none, some (.aload_n 2, 1), some (.aload_n 0, 1), some (.iload_n 3, 1)],
  [some (.iconst 1, 1), some (.iadd, 1), some (.iaload, 1), some (.invokevirtual 100, 3), none, none, some (.if_icmp .eq 305, 3), none, none, some (.iconst 0, 1), some (.ireturn, 1), some (.aload_n 1, 1), some (.invokevirtual 101, 3), none, none, some (.aload_n 2, 1)],
  [some (.invokevirtual 104, 3), none, none, some (.if_icmp .eq 292, 3), none, none, some (.iconst 0, 1), some (.ireturn, 1), some (.aload_n 1, 1), some (.aload_n 0, 1), some (.iload_n 3, 1), some (.iconst 1, 1), some (.iadd, 1), some (.iaload, 1), some (.aload_n 0, 1), some (.iload_n 3, 1)],
  [some (.iconst 2, 1), some (.iadd, 1), some (.iaload, 1), some (.invokevirtual 105, 3), none, none, some (.aload_n 2, 1), some (.aload_n 0, 1), some (.iload_n 3, 1), some (.iconst 1, 1), some (.iadd, 1), some (.iaload, 1), some (.aload_n 0, 1), some (.iload_n 3, 1), some (.iconst 2, 1), some (.iadd, 1)],
  [some (.iaload, 1), some (.invokevirtual 108, 3), none, none, some (.if_icmp .eq 259, 3), none, none, some (.iconst 0, 1), some (.ireturn, 1), some (.aload_n 1, 1), some (.aload_n 0, 1), some (.iload_n 3, 1), some (.iconst 1, 1), some (.iadd, 1), some (.iaload, 1), some (.aload_n 0, 1)],
  [some (.iload_n 3, 1), some (.iconst 2, 1), some (.iadd, 1), some (.iaload, 1), some (.aload_n 0, 1), some (.iload_n 3, 1), some (.iconst 3, 1), some (.iadd, 1), some (.iaload, 1), some (.invokevirtual 109, 3), none, none, some (.aload_n 2, 1), some (.aload_n 0, 1), some (.iload_n 3, 1), some (.iconst 1, 1)],
  [some (.iadd, 1), some (.iaload, 1), some (.aload_n 0, 1), some (.iload_n 3, 1), some (.iconst 2, 1), some (.iadd, 1), some (.iaload, 1), some (.aload_n 0, 1), some (.iload_n 3, 1), some (.iconst 3, 1), some (.iadd, 1), some (.iaload, 1), some (.invokevirtual 112, 3), none, none, some (.if_icmp .eq 216, 3)],
  [none, none, some (.iconst 0, 1), some (.ireturn, 1), some (.aload_n 1, 1), some (.aload_n 0, 1), some (.iload_n 3, 1), some (.iconst 1, 1), some (.iadd, 1), some (.iaload, 1), some (.aload_n 0, 1), some (.iload_n 3, 1), some (.iconst 2, 1), some (.iadd, 1), some (.iaload, 1), some (.aload_n 0, 1)],
  [some (.iload_n 3, 1), some (.iconst 3, 1), some (.iadd, 1), some (.iaload, 1), some (.invokevirtual 113, 3), none, none, some (.aload_n 2, 1), some (.aload_n 0, 1), some (.iload_n 3, 1), some (.iconst 1, 1), some (.iadd, 1), some (.iaload, 1), some (.aload_n 0, 1), some (.iload_n 3, 1), some (.iconst 2, 1)],
  [some (.iadd, 1), some (.iaload, 1), some (.aload_n 0, 1), some (.iload_n 3, 1), some (.iconst 3, 1), some (.iadd, 1), some (.iaload, 1), some (.invokevirtual 116, 3), none, none, some (.if_icmp .eq 173, 3), none, none, some (.iconst 0, 1), some (.ireturn, 1), some (.aload_n 1, 1)],
  [some (.aload_n 0, 1), some (.iload_n 3, 1), some (.iconst 1, 1), some (.iadd, 1), some (.iaload, 1), some (.aload_n 0, 1), some (.iload_n 3, 1), some (.iconst 2, 1), some (.iadd, 1), some (.iaload, 1), some (.invokevirtual 117, 3), none, none, some (.aload_n 2, 1), some (.aload_n 0, 1), some (.iload_n 3, 1)],
  [some (.iconst 1, 1), some (.iadd, 1), some (.iaload, 1), some (.aload_n 0, 1), some (.iload_n 3, 1), some (.iconst 2, 1), some (.iadd, 1), some (.iaload, 1), some (.invokevirtual 120, 3), none, none, some (.if_icmp .eq 140, 3), none, none, some (.iconst 0, 1), some (.ireturn, 1)],
  [some (.aload_n 1, 1), some (.aload_n 0, 1), some (.iload_n 3, 1), some (.iconst 1, 1), some (.iadd, 1), some (.iaload, 1), some (.invokevirtual 121, 3), none, none, some (.aload_n 2, 1), some (.aload_n 0, 1), some (.iload_n 3, 1), some (.iconst 1, 1), some (.iadd, 1), some (.iaload, 1), some (.invokevirtual 124, 3)],
  [none, none, some (.if_icmp .eq 117, 3), none, none, some (.iconst 0, 1), some (.ireturn, 1), some (.aload_n 1, 1), some (.aload_n 0, 1), some (.iload_n 3, 1), some (.iconst 1, 1), some (.iadd, 1), some (.iaload, 1), some (.invokevirtual 125, 3), none, none],
  [some (.aload_n 2, 1), some (.aload_n 0, 1), some (.iload_n 3, 1), some (.iconst 1, 1), some (.iadd, 1), some (.iaload, 1), some (.invokevirtual 128, 3), none, none, some (.if_icmp .eq 94, 3), none, none, some (.iconst 0, 1), some (.ireturn, 1), some (.aload_n 1, 1), some (.aload_n 0, 1)],
  [some (.iload_n 3, 1), some (.iconst 1, 1), some (.iadd, 1), some (.iaload, 1), some (.aload_n 0, 1), some (.iload_n 3, 1), some (.iconst 2, 1), some (.iadd, 1), some (.iaload, 1), some (.invokevirtual 129, 3), none, none, some (.aload_n 2, 1), some (.aload_n 0, 1), some (.iload_n 3, 1), some (.iconst 1, 1)],
  [some (.iadd, 1), some (.iaload, 1), some (.aload_n 0, 1), some (.iload_n 3, 1), some (.iconst 2, 1), some (.iadd, 1), some (.iaload, 1), some (.invokevirtual 132, 3), none, none, some (.if_icmp .eq 61, 3), none, none, some (.iconst 0, 1), some (.ireturn, 1), some (.aload_n 1, 1)],
  [some (.aload_n 0, 1), some (.iload_n 3, 1), some (.iconst 1, 1), some (.iadd, 1), some (.iaload, 1), some (.aload_n 0, 1), some (.iload_n 3, 1), some (.iconst 2, 1), some (.iadd, 1), some (.iaload, 1), some (.invokevirtual 133, 3), none, none, some (.aload_n 2, 1), some (.aload_n 0, 1), some (.iload_n 3, 1)],
  [some (.iconst 1, 1), some (.iadd, 1), some (.iaload, 1), some (.aload_n 0, 1), some (.iload_n 3, 1), some (.iconst 2, 1), some (.iadd, 1), some (.iaload, 1), some (.invokevirtual 136, 3), none, none, some (.if_icmp .eq 28, 3), none, none, some (.iconst 0, 1), some (.ireturn, 1)],
  [some (.aload_n 1, 1), some (.aload_n 0, 1), some (.iload_n 3, 1), some (.iconst 1, 1), some (.iadd, 1), some (.iaload, 1), some (.invokevirtual 137, 3), none, none, some (.aload_n 2, 1), some (.aload_n 0, 1), some (.iload_n 3, 1), some (.iconst 1, 1), some (.iadd, 1), some (.iaload, 1), some (.invokevirtual 140, 3)],
  [none, none, some (.if_icmp .eq 5, 3), none, none, some (.iconst 0, 1), some (.ireturn, 1), some (.iinc 3 4, 3), none, none, some (.goto (-1000), 3), none, none, some (.iconst 1, 1), some (.ireturn, 1)]]
def am_tb (k : Nat) : List (List (Option (Instr × Nat))) := match k with
  | 0 => mt_Fl_init
  | 1 => mt_Fl_lay
  | 2 => mt_Fl_calm
  | 3 => mt_Fl_setOld
  | 4 => mt_Fl_setNew
  | 5 => mt_Fl_oldAt
  | 6 => mt_Fl_newAt
  | 7 => mt_Fl_ruleAt
  | 8 => mt_Fl_isMover
  | 9 => mt_Fl_movers
  | 10 => mt_Fl_areMovers
  | 11 => mt_Fl_isRound
  | 12 => mt_Fl_turnRound
  | 13 => mt_Fl_takeBack
  | 14 => mt_Ju_init
  | 15 => mt_Ju_weigh
  | 16 => mt_Ju_addPath
  | 17 => mt_Ju_weightAt
  | 18 => mt_Ju_whatHolds
  | 19 => mt_Ju_isRingless
  | 20 => mt_Ju_pathHasRoom
  | 21 => mt_Ju_firstUnsound
  | 22 => mt_Ju_firstMissing
  | 23 => mt_Le_init
  | 24 => mt_Le_isMixed
  | 25 => mt_Ma_init
  | 26 => mt_Ma_forgetAll
  | 27 => mt_Ma_letterAt
  | 28 => mt_Ma_post
  | 29 => mt_Ma_staleness
  | 30 => mt_Ma_hasStale
  | 31 => mt_Ma_countOf
  | 32 => mt_Ma_hopAll
  | 33 => mt_Ma_hop
  | 34 => mt_Ma_noteArrival
  | 35 => mt_Ne_init
  | 36 => mt_Ne_startAnew
  | 37 => mt_Ne_calmFlows
  | 38 => mt_Ne_isNode
  | 39 => mt_Ne_flowAt
  | 40 => mt_Ne_roomAt
  | 41 => mt_Ne_setRoom
  | 42 => mt_Ne_linkCount
  | 43 => mt_Ne_tableAt
  | 44 => mt_Ne_greatestTable
  | 45 => mt_Pa_init
  | 46 => mt_Pa_follow
  | 47 => mt_Pl_init
  | 48 => mt_Pl_findPlan
  | 49 => mt_Pl_settle
  | 50 => mt_Pl_chooseFirstRound
  | 51 => mt_Pl_arePartsSafe
  | 52 => mt_Pl_fewestFrom
  | 53 => mt_Pl_roundCount
  | 54 => mt_Pl_roundAt
  | 55 => mt_Pl_firstFrom
  | 56 => mt_Re_init
  | 57 => mt_Re_append
  | 58 => mt_Re_findFault
  | 59 => mt_Re_foreseeNet
  | 60 => mt_Re_letterAt
  | 61 => mt_Re_nextToken
  | 62 => mt_Re_kindOf
  | 63 => mt_Re_isSemicolon
  | 64 => mt_Re_readClause
  | 65 => mt_Re_clauseKind
  | 66 => mt_Re_tokenIs
  | 67 => mt_Re_wordOf
  | 68 => mt_Re_numbersOf
  | 69 => mt_Re_clauseAt
  | 70 => mt_Re_sourceOf
  | 71 => mt_Re_goalOf
  | 72 => mt_Re_numberFits
  | 73 => mt_Re_foresee
  | 74 => mt_Re_doClauses
  | 75 => mt_Re_doClause
  | 76 => mt_Mx_init
  | 77 => mt_Mx_write
  | 78 => mt_Mx_erase
  | 79 => mt_Mx_fault
  | 80 => mt_Mx_rules
  | 81 => mt_Mx_room
  | 82 => mt_Mx_load
  | 83 => mt_Mx_flow
  | 84 => mt_Mx_rule
  | 85 => mt_Mx_table
  | 86 => mt_Mx_link
  | 87 => mt_Mx_want
  | 88 => mt_Mx_slots
  | 89 => mt_Mx_turn
  | 90 => mt_Mx_force
  | 91 => mt_Mx_advance
  | 92 => mt_Mx_reverse
  | 93 => mt_Mx_ready
  | 94 => mt_Mx_flip
  | 95 => mt_Mx_finish
  | 96 => mt_Mx_cancel
  | 97 => mt_Mx_send
  | 98 => mt_Mx_tick
  | 99 => mt_Mx_sound
  | 100 => mt_Mx_walk
  | 101 => mt_Mx_safe
  | 102 => mt_Mx_plan
  | 103 => mt_Mx_rounds
  | 104 => mt_Mx_order
  | 105 => mt_Mx_waits
  | 106 => mt_Mx_letter
  | 107 => mt_Mx_count
  | 108 => mt_Mx_isPlace
  | 109 => mt_Mo_init
  | 110 => mt_Mo_in
  | 111 => mt_Mo_has
  | 112 => mt_Mo_isNode
  | 113 => mt_Mo_isFlow
  | 114 => mt_Mo_flows
  | 115 => mt_Mo_begins
  | 116 => mt_Mo_write
  | 117 => mt_Mo_erase
  | 118 => mt_Mo_isSmall
  | 119 => mt_Mo_isDigit
  | 120 => mt_Mo_nextToken
  | 121 => mt_Mo_wordHere
  | 122 => mt_Mo_number
  | 123 => mt_Mo_node
  | 124 => mt_Mo_readsRest
  | 125 => mt_Mo_does
  | 126 => mt_Mo_readsClause
  | 127 => mt_Mo_reads
  | 128 => mt_Mo_fault
  | 129 => mt_Mo_rules
  | 130 => mt_Mo_movers
  | 131 => mt_Mo_ruleBy
  | 132 => mt_Mo_walks
  | 133 => mt_Mo_needsOf
  | 134 => mt_Mo_asTurned
  | 135 => mt_Mo_isRoom
  | 136 => mt_Mo_isRing
  | 137 => mt_Mo_holds
  | 138 => mt_Mo_isSound
  | 139 => mt_Mo_isSafe
  | 140 => mt_Mo_firstOf
  | 141 => mt_Mo_plans
  | 142 => mt_Mo_plansNow
  | 143 => mt_Mo_room
  | 144 => mt_Mo_load
  | 145 => mt_Mo_flow
  | 146 => mt_Mo_rule
  | 147 => mt_Mo_tableWith
  | 148 => mt_Mo_table
  | 149 => mt_Mo_greatestTable
  | 150 => mt_Mo_link
  | 151 => mt_Mo_want
  | 152 => mt_Mo_slots
  | 153 => mt_Mo_isRound
  | 154 => mt_Mo_turns
  | 155 => mt_Mo_isStale
  | 156 => mt_Mo_lettersOf
  | 157 => mt_Mo_turn
  | 158 => mt_Mo_force
  | 159 => mt_Mo_advance
  | 160 => mt_Mo_reverse
  | 161 => mt_Mo_ready
  | 162 => mt_Mo_flip
  | 163 => mt_Mo_finish
  | 164 => mt_Mo_cancel
  | 165 => mt_Mo_send
  | 166 => mt_Mo_hops
  | 167 => mt_Mo_tick
  | 168 => mt_Mo_isOfMovers
  | 169 => mt_Mo_sound
  | 170 => mt_Mo_walk
  | 171 => mt_Mo_leastUnsound
  | 172 => mt_Mo_safe
  | 173 => mt_Mo_plan
  | 174 => mt_Mo_rounds
  | 175 => mt_Mo_canGo
  | 176 => mt_Mo_order
  | 177 => mt_Mo_waits
  | 178 => mt_Mo_letter
  | 179 => mt_Mo_links
  | 180 => mt_Mo_count
  | 181 => mt_Jint_bitCount
  | 182 => mt_Jmath_max
  | 183 => mt_Jstr_length
  | 184 => mt_Jstr_charAt
  | 185 => mt_Jstr_coder
  | 186 => mt_Jstr_isLatin1
  | 187 => mt_Jstr_checkIndex
  | 188 => mt_Jlat_charAt
  | 189 => mt_Jpre_checkIndex
  | 190 => mt_Law_law
  | _ => []
def am_at (m pc : Nat) : Option (Instr × Nat) := ((am_tb m).getD (pc / 16) []).getD (pc % 16) none
def am_lk {α : Type} : List (Nat × α) → Nat → Option α
  | [], _ => none
  | (a, x) :: l, i => match Nat.beq a i with
    | true => some x
    | false => am_lk l i
def am_cmT (k : Nat) : List (Nat × (Nat × Nat × Nat)) := match k with
  | 0 => [(3, (5, 0, 0)), (21, (0, 1, 4)), (50, (3, 108, 2)), (54, (0, 5, 2)), (58, (0, 6, 2)), (61, (0, 9, 1)), (65, (0, 10, 2))]
  | 1 => [(3, (5, 0, 0)), (17, (2, 45, 1)), (26, (0, 39, 2)), (32, (0, 9, 1)), (42, (0, 46, 4)), (49, (0, 16, 2)), (56, (0, 38, 2)), (64, (0, 19, 3)), (74, (0, 20, 2)), (77, (0, 7, 3)), (81, (0, 17, 3)), (84, (0, 40, 3)), (87, (0, 15, 3)), (91, (0, 22, 3)), (98, (0, 18, 3))]
  | 2 => [(1, (5, 0, 0))]
  | 3 => [(3, (5, 0, 0)), (21, (4, 23, 1)), (38, (3, 108, 2)), (42, (0, 39, 2)), (84, (0, 29, 2)), (88, (0, 33, 2)), (91, (0, 34, 2)), (98, (0, 6, 2)), (102, (0, 5, 2)), (105, (0, 40, 3)), (109, (0, 8, 2)), (119, (0, 24, 1))]
  | 4 => [(3, (5, 0, 0)), (31, (2, 0, 1)), (32, (0, 1, 4)), (36, (0, 2, 1)), (39, (3, 108, 2)), (43, (0, 38, 2)), (50, (0, 7, 3)), (57, (0, 6, 2)), (61, (0, 43, 2)), (64, (1, 182, 2))]
  | 5 => [(3, (5, 0, 0)), (24, (0, 38, 2)), (30, (0, 7, 3)), (34, (0, 40, 3))]
  | 6 => [(3, (5, 0, 0)), (33, (0, 39, 2)), (46, (0, 9, 1)), (52, (0, 15, 3)), (58, (0, 49, 3)), (62, (0, 52, 2)), (66, (3, 108, 2)), (73, (0, 18, 3)), (77, (0, 50, 2)), (81, (0, 51, 2)), (85, (0, 55, 2))]
  | 7 => [(3, (5, 0, 0)), (32, (3, 108, 2)), (36, (0, 59, 1)), (45, (0, 61, 1)), (48, (0, 64, 1)), (58, (0, 63, 1)), (67, (0, 39, 2)), (79, (0, 60, 2)), (83, (1, 62, 1)), (86, (0, 65, 1)), (90, (1, 68, 1)), (93, (0, 72, 3)), (96, (0, 73, 2)), (100, (1, 67, 1)), (104, (0, 66, 2)), (108, (0, 183, 1)), (112, (0, 184, 2)), (127, (0, 69, 2)), (130, (0, 71, 2)), (133, (0, 70, 2)), (136, (0, 75, 2)), (139, (0, 36, 2)), (142, (0, 41, 4)), (146, (0, 1, 4)), (151, (0, 3, 3)), (155, (0, 4, 3))]
  | 8 => [(3, (5, 0, 0)), (11, (2, 35, 1)), (18, (2, 14, 2)), (27, (2, 47, 3)), (36, (2, 25, 2)), (43, (2, 56, 2)), (48, (0, 57, 2)), (56, (0, 58, 1)), (60, (0, 74, 1)), (63, (0, 37, 1)), (66, (0, 26, 1)), (72, (0, 38, 2)), (75, (0, 40, 3)), (79, (0, 15, 3)), (83, (0, 17, 3)), (86, (0, 39, 2)), (104, (0, 9, 1)), (116, (0, 5, 2)), (120, (0, 6, 2)), (123, (0, 7, 3)), (126, (0, 43, 2)), (129, (0, 41, 4)), (139, (0, 11, 2)), (142, (0, 30, 2)), (145, (0, 21, 3)), (148, (0, 12, 2)), (152, (0, 48, 3)), (156, (0, 54, 2)), (159, (0, 13, 1)), (162, (0, 44, 1)), (165, (0, 31, 3)), (169, (0, 28, 2)), (174, (0, 32, 1)), (177, (0, 10, 2)), (180, (0, 18, 3)), (188, (0, 46, 4)), (197, (1, 181, 1)), (205, (0, 22, 3)), (208, (0, 53, 1)), (214, (0, 27, 2)), (233, (0, 29, 2)), (237, (0, 24, 1)), (244, (0, 42, 1))]
  | 9 => [(1, (5, 0, 0)), (93, (0, 115, 2)), (97, (1, 110, 3)), (103, (0, 114, 5)), (126, (1, 118, 1)), (130, (1, 119, 1)), (133, (0, 120, 1)), (139, (0, 122, 6)), (143, (0, 123, 4)), (147, (0, 121, 1)), (151, (0, 124, 2)), (158, (0, 125, 2)), (164, (0, 126, 1)), (168, (0, 127, 2)), (187, (1, 111, 2)), (197, (0, 131, 4)), (204, (0, 132, 3)), (208, (0, 136, 3)), (211, (0, 135, 2)), (214, (0, 137, 3)), (218, (0, 139, 3)), (221, (0, 130, 2)), (225, (0, 138, 3)), (228, (0, 140, 4)), (231, (0, 134, 1)), (234, (0, 133, 3)), (237, (0, 141, 2)), (240, (0, 112, 2)), (243, (1, 113, 1)), (246, (0, 147, 3)), (255, (0, 153, 3)), (258, (0, 155, 2)), (261, (0, 171, 3)), (264, (0, 154, 3)), (267, (0, 142, 2)), (270, (0, 149, 2)), (273, (0, 156, 3)), (276, (0, 166, 2)), (279, (0, 168, 3)), (282, (0, 175, 3)), (285, (0, 179, 1))]
  | 12 => [(335, (0, 185, 1)), (492, (0, 186, 1)), (495, (1, 188, 2)), (1059, (1, 189, 3))]
  | 13 => [(9, (1, 187, 2))]
  | 14 => [(9, (2, 76, 1)), (12, (2, 109, 1)), (13, (0, 77, 2)), (17, (0, 116, 2)), (18, (0, 78, 1)), (22, (0, 117, 1)), (23, (0, 79, 1)), (26, (0, 128, 1)), (27, (0, 80, 1)), (30, (0, 129, 1)), (31, (0, 81, 3)), (35, (0, 143, 3)), (36, (0, 82, 3)), (39, (0, 144, 3)), (40, (0, 83, 3)), (43, (0, 145, 3)), (44, (0, 84, 4)), (48, (0, 146, 4)), (49, (0, 85, 2)), (52, (0, 148, 2)), (53, (0, 86, 4)), (56, (0, 150, 4)), (57, (0, 87, 2)), (60, (0, 151, 2)), (61, (0, 88, 2)), (64, (0, 152, 2)), (65, (0, 89, 3)), (68, (0, 157, 3)), (69, (0, 90, 3)), (72, (0, 158, 3)), (73, (0, 91, 2)), (76, (0, 159, 2)), (77, (0, 92, 2)), (80, (0, 160, 2)), (81, (0, 93, 2)), (84, (0, 161, 2)), (85, (0, 94, 2)), (88, (0, 162, 2)), (89, (0, 95, 2)), (92, (0, 163, 2)), (93, (0, 96, 2)), (96, (0, 164, 2)), (97, (0, 97, 2)), (100, (0, 165, 2)), (101, (0, 98, 1)), (104, (0, 167, 1)), (105, (0, 99, 3)), (108, (0, 169, 3)), (109, (0, 100, 4)), (112, (0, 170, 4)), (113, (0, 101, 4)), (116, (0, 172, 4)), (117, (0, 102, 3)), (120, (0, 173, 3)), (121, (0, 103, 2)), (124, (0, 174, 2)), (125, (0, 104, 2)), (128, (0, 176, 2)), (129, (0, 105, 3)), (132, (0, 177, 3)), (133, (0, 106, 3)), (136, (0, 178, 3)), (137, (0, 107, 2)), (140, (0, 180, 2))]
  | _ => []
def am_cm (o i : Nat) : Option (Nat × Nat × Nat) := am_lk (am_cmT o) i
def am_cfT (k : Nat) : List (Nat × (Nat × Nat)) := match k with
  | 0 => [(9, (0, 4)), (15, (0, 5)), (18, (0, 8)), (25, (0, 0)), (29, (0, 1)), (32, (0, 2)), (35, (0, 3)), (38, (0, 6)), (41, (0, 7)), (44, (0, 9)), (47, (0, 10))]
  | 1 => [(9, (1, 0)), (18, (1, 1)), (22, (1, 2)), (38, (0, 6)), (46, (0, 2)), (53, (5, 3)), (60, (5, 2)), (68, (0, 3)), (71, (5, 0)), (95, (4, 1))]
  | 2 => [(7, (2, 6)), (13, (2, 7))]
  | 3 => [(9, (3, 0)), (17, (3, 1)), (22, (3, 2)), (26, (3, 3)), (29, (3, 4)), (32, (3, 5)), (35, (3, 6)), (48, (2, 0)), (51, (0, 0)), (56, (2, 1)), (59, (2, 2)), (62, (2, 3)), (65, (0, 10)), (68, (2, 4)), (71, (0, 7)), (74, (2, 5)), (78, (2, 6)), (81, (2, 7)), (95, (0, 6)), (113, (0, 1)), (116, (0, 3))]
  | 4 => [(9, (4, 1)), (15, (4, 2)), (18, (4, 0)), (21, (4, 3)), (27, (4, 4)), (47, (0, 6)), (54, (0, 7))]
  | 5 => [(9, (5, 3)), (15, (0, 0)), (21, (5, 0)), (37, (5, 1)), (40, (0, 1)), (43, (5, 2))]
  | 6 => [(9, (6, 0)), (15, (6, 1)), (19, (6, 4)), (23, (6, 7)), (26, (6, 5)), (30, (6, 6)), (39, (0, 6)), (45, (6, 2)), (50, (6, 3)), (70, (4, 1))]
  | 7 => [(9, (7, 0)), (15, (7, 1)), (19, (7, 6)), (22, (7, 9)), (25, (7, 10)), (28, (7, 2)), (39, (7, 7)), (42, (7, 5)), (52, (7, 4)), (55, (7, 3)), (61, (4, 0)), (66, (7, 8)), (71, (0, 0)), (76, (0, 1)), (149, (0, 3))]
  | 8 => [(12, (8, 0)), (21, (8, 1)), (30, (8, 2)), (37, (8, 3)), (44, (8, 4)), (52, (7, 2)), (69, (7, 7)), (90, (0, 0)), (95, (0, 1)), (98, (0, 2)), (101, (0, 3)), (107, (0, 6)), (110, (0, 7)), (113, (0, 9)), (133, (4, 1)), (136, (4, 2)), (171, (3, 2)), (184, (1, 1)), (194, (5, 0)), (202, (5, 1)), (218, (2, 0)), (223, (2, 1)), (226, (2, 2)), (229, (2, 5)), (241, (4, 0)), (247, (3, 3)), (250, (3, 4)), (253, (3, 5)), (256, (3, 6))]
  | 9 => [(7, (9, 0)), (13, (9, 1)), (17, (9, 2)), (20, (9, 3)), (23, (9, 4)), (26, (9, 5)), (29, (9, 6)), (32, (9, 7)), (35, (9, 8)), (38, (9, 9)), (41, (9, 10)), (44, (9, 11)), (47, (9, 12)), (50, (9, 13)), (53, (9, 14)), (56, (9, 15)), (59, (9, 21)), (62, (9, 26)), (65, (9, 27)), (68, (9, 30)), (71, (9, 31)), (74, (9, 32)), (77, (9, 36)), (80, (9, 37)), (83, (9, 38)), (87, (9, 39)), (90, (9, 40)), (109, (9, 22)), (120, (9, 24)), (123, (9, 23)), (136, (9, 25)), (154, (9, 29)), (161, (9, 28)), (172, (9, 16)), (175, (9, 17)), (178, (9, 18)), (181, (9, 19)), (184, (9, 20)), (191, (9, 33)), (194, (9, 34)), (201, (9, 35))]
  | 12 => [(9, (12, 0)), (15, (12, 1))]
  | _ => []
def am_cf (o i : Nat) : Option (Nat × Nat) := am_lk (am_cfT o) i
def am_ccT (k : Nat) : List (Nat × (Nat)) := match k with
  | 1 => [(15, 5)]
  | 3 => [(15, 2)]
  | 4 => [(25, 0)]
  | 8 => [(9, 4), (16, 1), (25, 6), (34, 3), (41, 7)]
  | 14 => [(7, 8), (10, 9)]
  | _ => []
def am_cc (o i : Nat) : Option (Nat) := am_lk (am_ccT o) i
def am_ckT (k : Nat) : List (Nat × (Int32 ⊕ Nat)) := match k with
  | 7 => [(116, .inr 0), (117, .inr 1), (119, .inr 2), (121, .inr 3), (123, .inr 4), (125, .inr 5)]
  | 10 => [(265, .inl 1431655765), (266, .inl 858993459), (267, .inl 252645135)]
  | _ => []
def am_ck (o i : Nat) : Option (Int32 ⊕ Nat) := am_lk (am_ckT o) i
def am_clT (k : Nat) : List (Nat × (Int64)) := match k with
  | 9 => [(101, 2), (107, 255), (112, 97), (114, 122), (116, 48), (118, 57), (249, 9), (251, 15), (253, 6)]
  | _ => []
def am_cl (o i : Nat) : Option (Int64) := am_lk (am_clT o) i
def am_gsT (k : Nat) : List (Nat × (Int32 ⊕ Nat)) := match k with
  | 8 => [(210, .inr 98)]
  | 12 => [(38, .inl 1), (1053, .inr 95)]
  | _ => []
def am_gs (o i : Nat) : Option (Int32 ⊕ Nat) := am_lk (am_gsT o) i
end
section
/-! the rows of 02 hold of the Statement's class files: decided by the kernel; written by wip/whole/gen3.py -/
def am_okm (m : Nat) : Bool := (List.range (16 * (am_tb m).length)).all fun pc => match am_at m pc with
  | some x => decide (decode (am_by m) pc = .ok x)
  | none => true
set_option maxRecDepth 100000 in
theorem am_ok0 : (List.range' 0 18).all am_okm = true := by decide +kernel
set_option maxRecDepth 100000 in
theorem am_ok1 : (List.range' 18 13).all am_okm = true := by decide +kernel
set_option maxRecDepth 100000 in
theorem am_ok2 : (List.range' 31 12).all am_okm = true := by decide +kernel
set_option maxRecDepth 100000 in
theorem am_ok3 : (List.range' 43 8).all am_okm = true := by decide +kernel
set_option maxRecDepth 100000 in
theorem am_ok4 : (List.range' 51 13).all am_okm = true := by decide +kernel
set_option maxRecDepth 100000 in
theorem am_ok5 : (List.range' 64 9).all am_okm = true := by decide +kernel
set_option maxRecDepth 100000 in
theorem am_ok6 : (List.range' 73 13).all am_okm = true := by decide +kernel
set_option maxRecDepth 100000 in
theorem am_ok7 : (List.range' 86 14).all am_okm = true := by decide +kernel
set_option maxRecDepth 100000 in
theorem am_ok8 : (List.range' 100 9).all am_okm = true := by decide +kernel
set_option maxRecDepth 100000 in
theorem am_ok9 : (List.range' 109 11).all am_okm = true := by decide +kernel
set_option maxRecDepth 100000 in
theorem am_ok10 : (List.range' 120 5).all am_okm = true := by decide +kernel
set_option maxRecDepth 100000 in
theorem am_ok11 : (List.range' 125 7).all am_okm = true := by decide +kernel
set_option maxRecDepth 100000 in
theorem am_ok12 : (List.range' 132 8).all am_okm = true := by decide +kernel
set_option maxRecDepth 100000 in
theorem am_ok13 : (List.range' 140 11).all am_okm = true := by decide +kernel
set_option maxRecDepth 100000 in
theorem am_ok14 : (List.range' 151 11).all am_okm = true := by decide +kernel
set_option maxRecDepth 100000 in
theorem am_ok15 : (List.range' 162 4).all am_okm = true := by decide +kernel
set_option maxRecDepth 100000 in
theorem am_ok16 : (List.range' 166 6).all am_okm = true := by decide +kernel
set_option maxRecDepth 100000 in
theorem am_ok17 : (List.range' 172 8).all am_okm = true := by decide +kernel
set_option maxRecDepth 100000 in
theorem am_ok18 : (List.range' 180 10).all am_okm = true := by decide +kernel
def am_okp (m pc : Nat) : Bool := match am_at m pc with
  | some x => decide (decode (am_by m) pc = .ok x)
  | none => true
set_option maxRecDepth 100000 in
theorem am_okl0 : (List.range' 0 64).all (am_okp 190) = true := by decide +kernel
set_option maxRecDepth 100000 in
theorem am_okl1 : (List.range' 64 64).all (am_okp 190) = true := by decide +kernel
set_option maxRecDepth 100000 in
theorem am_okl2 : (List.range' 128 64).all (am_okp 190) = true := by decide +kernel
set_option maxRecDepth 100000 in
theorem am_okl3 : (List.range' 192 64).all (am_okp 190) = true := by decide +kernel
set_option maxRecDepth 100000 in
theorem am_okl4 : (List.range' 256 64).all (am_okp 190) = true := by decide +kernel
set_option maxRecDepth 100000 in
theorem am_okl5 : (List.range' 320 64).all (am_okp 190) = true := by decide +kernel
set_option maxRecDepth 100000 in
theorem am_okl6 : (List.range' 384 64).all (am_okp 190) = true := by decide +kernel
set_option maxRecDepth 100000 in
theorem am_okl7 : (List.range' 448 64).all (am_okp 190) = true := by decide +kernel
set_option maxRecDepth 100000 in
theorem am_okl8 : (List.range' 512 64).all (am_okp 190) = true := by decide +kernel
set_option maxRecDepth 100000 in
theorem am_okl9 : (List.range' 576 64).all (am_okp 190) = true := by decide +kernel
set_option maxRecDepth 100000 in
theorem am_okl10 : (List.range' 640 64).all (am_okp 190) = true := by decide +kernel
set_option maxRecDepth 100000 in
theorem am_okl11 : (List.range' 704 64).all (am_okp 190) = true := by decide +kernel
set_option maxRecDepth 100000 in
theorem am_okl12 : (List.range' 768 64).all (am_okp 190) = true := by decide +kernel
set_option maxRecDepth 100000 in
theorem am_okl13 : (List.range' 832 64).all (am_okp 190) = true := by decide +kernel
set_option maxRecDepth 100000 in
theorem am_okl14 : (List.range' 896 64).all (am_okp 190) = true := by decide +kernel
set_option maxRecDepth 100000 in
theorem am_okl15 : (List.range' 960 64).all (am_okp 190) = true := by decide +kernel
theorem am_okL : am_okm 190 = true := by
  refine List.all_eq_true.mpr (fun pc hp => ?_)
  have hp : pc < 1024 := List.mem_range.mp hp
  by_cases h0 : pc < 64
  · exact List.all_eq_true.mp am_okl0 pc (List.mem_range'_1.mpr (by omega))
  by_cases h1 : pc < 128
  · exact List.all_eq_true.mp am_okl1 pc (List.mem_range'_1.mpr (by omega))
  by_cases h2 : pc < 192
  · exact List.all_eq_true.mp am_okl2 pc (List.mem_range'_1.mpr (by omega))
  by_cases h3 : pc < 256
  · exact List.all_eq_true.mp am_okl3 pc (List.mem_range'_1.mpr (by omega))
  by_cases h4 : pc < 320
  · exact List.all_eq_true.mp am_okl4 pc (List.mem_range'_1.mpr (by omega))
  by_cases h5 : pc < 384
  · exact List.all_eq_true.mp am_okl5 pc (List.mem_range'_1.mpr (by omega))
  by_cases h6 : pc < 448
  · exact List.all_eq_true.mp am_okl6 pc (List.mem_range'_1.mpr (by omega))
  by_cases h7 : pc < 512
  · exact List.all_eq_true.mp am_okl7 pc (List.mem_range'_1.mpr (by omega))
  by_cases h8 : pc < 576
  · exact List.all_eq_true.mp am_okl8 pc (List.mem_range'_1.mpr (by omega))
  by_cases h9 : pc < 640
  · exact List.all_eq_true.mp am_okl9 pc (List.mem_range'_1.mpr (by omega))
  by_cases h10 : pc < 704
  · exact List.all_eq_true.mp am_okl10 pc (List.mem_range'_1.mpr (by omega))
  by_cases h11 : pc < 768
  · exact List.all_eq_true.mp am_okl11 pc (List.mem_range'_1.mpr (by omega))
  by_cases h12 : pc < 832
  · exact List.all_eq_true.mp am_okl12 pc (List.mem_range'_1.mpr (by omega))
  by_cases h13 : pc < 896
  · exact List.all_eq_true.mp am_okl13 pc (List.mem_range'_1.mpr (by omega))
  by_cases h14 : pc < 960
  · exact List.all_eq_true.mp am_okl14 pc (List.mem_range'_1.mpr (by omega))
  by_cases h15 : pc < 1024
  · exact List.all_eq_true.mp am_okl15 pc (List.mem_range'_1.mpr (by omega))
  omega
theorem am_oks : ∀ m, m < 191 → am_okm m = true := by
  intro m h
  by_cases h0 : m < 18
  · exact List.all_eq_true.mp am_ok0 m (List.mem_range'_1.mpr (by omega))
  by_cases h1 : m < 31
  · exact List.all_eq_true.mp am_ok1 m (List.mem_range'_1.mpr (by omega))
  by_cases h2 : m < 43
  · exact List.all_eq_true.mp am_ok2 m (List.mem_range'_1.mpr (by omega))
  by_cases h3 : m < 51
  · exact List.all_eq_true.mp am_ok3 m (List.mem_range'_1.mpr (by omega))
  by_cases h4 : m < 64
  · exact List.all_eq_true.mp am_ok4 m (List.mem_range'_1.mpr (by omega))
  by_cases h5 : m < 73
  · exact List.all_eq_true.mp am_ok5 m (List.mem_range'_1.mpr (by omega))
  by_cases h6 : m < 86
  · exact List.all_eq_true.mp am_ok6 m (List.mem_range'_1.mpr (by omega))
  by_cases h7 : m < 100
  · exact List.all_eq_true.mp am_ok7 m (List.mem_range'_1.mpr (by omega))
  by_cases h8 : m < 109
  · exact List.all_eq_true.mp am_ok8 m (List.mem_range'_1.mpr (by omega))
  by_cases h9 : m < 120
  · exact List.all_eq_true.mp am_ok9 m (List.mem_range'_1.mpr (by omega))
  by_cases h10 : m < 125
  · exact List.all_eq_true.mp am_ok10 m (List.mem_range'_1.mpr (by omega))
  by_cases h11 : m < 132
  · exact List.all_eq_true.mp am_ok11 m (List.mem_range'_1.mpr (by omega))
  by_cases h12 : m < 140
  · exact List.all_eq_true.mp am_ok12 m (List.mem_range'_1.mpr (by omega))
  by_cases h13 : m < 151
  · exact List.all_eq_true.mp am_ok13 m (List.mem_range'_1.mpr (by omega))
  by_cases h14 : m < 162
  · exact List.all_eq_true.mp am_ok14 m (List.mem_range'_1.mpr (by omega))
  by_cases h15 : m < 166
  · exact List.all_eq_true.mp am_ok15 m (List.mem_range'_1.mpr (by omega))
  by_cases h16 : m < 172
  · exact List.all_eq_true.mp am_ok16 m (List.mem_range'_1.mpr (by omega))
  by_cases h17 : m < 180
  · exact List.all_eq_true.mp am_ok17 m (List.mem_range'_1.mpr (by omega))
  by_cases h18 : m < 190
  · exact List.all_eq_true.mp am_ok18 m (List.mem_range'_1.mpr (by omega))
  rw [show m = 190 by omega]
  exact am_okL
theorem am_dec {m pc : Nat} {x : Instr × Nat} (hm : m < 191) (h : am_at m pc = some x) : decode (am_by m) pc = .ok x := by
  by_cases hp : pc < 16 * (am_tb m).length
  · have h1 := List.all_eq_true.mp (am_oks m hm) pc (List.mem_range.mpr hp)
    simp only [h] at h1
    exact of_decide_eq_true h1
  · exfalso
    have h2 : (am_tb m).length ≤ pc / 16 := by omega
    unfold am_at at h
    rw [List.getD_eq_getElem?_getD, List.getD_eq_getElem?_getD, List.getElem?_eq_none h2] at h
    simp at h
end
section
/-! words, by their places -/
def am_pmT (k : Nat) : List (Nat × (Nat × Nat × Nat)) := match k with
  | 0 => [(3, (72, 58, 59)), (21, (73, 74, 75)), (50, (530, 369, 0)), (54, (785, 599, 600)), (58, (786, 603, 604)), (61, (642, 566, 567)), (65, (638, 639, 640))]
  | 1 => [(3, (163, 58, 59)), (17, (166, 167, 0)), (26, (564, 388, 389)), (32, (565, 566, 567)), (42, (569, 570, 571)), (49, (579, 580, 581)), (56, (583, 522, 523)), (64, (665, 666, 667)), (74, (670, 671, 672)), (77, (669, 575, 576)), (81, (674, 585, 586)), (84, (675, 553, 554)), (87, (656, 561, 562)), (91, (657, 658, 659)), (98, (661, 662, 663))]
  | 2 => [(1, (243, 58, 59))]
  | 3 => [(3, (236, 58, 59)), (21, (240, 241, 0)), (38, (765, 369, 0)), (42, (651, 388, 389)), (84, (647, 648, 649)), (88, (774, 775, 776)), (91, (787, 788, 789)), (98, (778, 603, 604)), (102, (779, 599, 600)), (105, (780, 553, 554)), (109, (781, 782, 783)), (119, (791, 792, 793))]
  | 4 => [(3, (65, 58, 59)), (31, (69, 70, 0)), (32, (516, 74, 75)), (36, (539, 540, 541)), (39, (391, 369, 0)), (43, (521, 522, 523)), (50, (615, 575, 576)), (57, (616, 603, 604)), (61, (737, 612, 613)), (64, (738, 739, 0))]
  | 5 => [(3, (169, 58, 59)), (24, (573, 522, 523)), (30, (574, 575, 576)), (34, (578, 553, 554))]
  | 6 => [(3, (204, 58, 59)), (33, (692, 388, 389)), (46, (693, 566, 567)), (52, (694, 561, 562)), (58, (695, 696, 697)), (62, (709, 710, 711)), (66, (699, 369, 0)), (73, (700, 662, 663)), (77, (701, 702, 703)), (81, (705, 706, 707)), (85, (717, 718, 719))]
  | 7 => [(3, (307, 58, 59)), (32, (368, 369, 0)), (36, (383, 384, 385)), (45, (392, 393, 394)), (48, (403, 404, 405)), (58, (495, 496, 497)), (67, (387, 388, 389)), (79, (396, 397, 398)), (83, (400, 401, 0)), (86, (407, 408, 409)), (90, (472, 473, 0)), (93, (475, 476, 477)), (96, (491, 492, 493)), (100, (411, 412, 0)), (104, (420, 421, 422)), (108, (424, 425, 426)), (112, (434, 435, 436)), (127, (479, 480, 481)), (130, (483, 484, 485)), (133, (487, 488, 489)), (136, (508, 509, 510)), (139, (512, 513, 514)), (142, (517, 518, 519)), (146, (525, 74, 75)), (151, (526, 527, 528)), (155, (531, 532, 533))]
  | 8 => [(3, (57, 58, 59)), (11, (62, 63, 0)), (18, (160, 161, 0)), (27, (201, 202, 0)), (36, (233, 234, 0)), (43, (304, 305, 0)), (48, (364, 365, 366)), (56, (379, 380, 381)), (60, (504, 505, 506)), (63, (535, 536, 537)), (66, (543, 544, 545)), (72, (551, 522, 523)), (75, (552, 553, 554)), (79, (560, 561, 562)), (83, (584, 585, 586)), (86, (592, 388, 389)), (104, (593, 566, 567)), (116, (598, 599, 600)), (120, (602, 603, 604)), (123, (606, 575, 576)), (126, (611, 612, 613)), (129, (621, 518, 519)), (139, (634, 635, 636)), (142, (643, 644, 645)), (145, (652, 653, 654)), (148, (676, 677, 678)), (152, (688, 689, 690)), (156, (713, 714, 715)), (159, (725, 726, 727)), (162, (733, 734, 735)), (165, (745, 746, 747)), (169, (761, 762, 763)), (174, (770, 771, 772)), (177, (799, 639, 640)), (180, (800, 662, 663)), (188, (805, 570, 571)), (197, (806, 807, 0)), (205, (816, 658, 659)), (208, (821, 822, 823)), (214, (843, 844, 845)), (233, (847, 648, 649)), (237, (848, 792, 793)), (244, (853, 854, 855))]
  | 9 => [(1, (862, 58, 59)), (93, (863, 865, 0)), (97, (1000, 1001, 0)), (103, (867, 869, 1)), (126, (1019, 1020, 0)), (130, (1024, 1025, 0)), (133, (1015, 1017, 3)), (139, (1041, 1043, 7)), (143, (1045, 1047, 8)), (147, (1033, 1035, 5)), (151, (1037, 1039, 6)), (158, (1049, 1051, 9)), (164, (1029, 1031, 4)), (168, (1011, 1013, 2)), (187, (1085, 1086, 0)), (197, (1081, 1083, 14)), (204, (1077, 1079, 13)), (208, (1151, 1153, 22)), (211, (1155, 1157, 23)), (214, (1147, 1149, 21)), (218, (1183, 1185, 28)), (221, (1096, 1098, 15)), (225, (1143, 1145, 20)), (228, (1179, 1181, 27)), (231, (1069, 1071, 11)), (234, (1073, 1075, 12)), (237, (1175, 1177, 26)), (240, (1061, 1063, 10)), (243, (1092, 1093, 0)), (246, (1108, 1110, 16)), (255, (1131, 1133, 17)), (258, (1135, 1137, 18)), (261, (1139, 1141, 19)), (264, (1159, 1161, 24)), (267, (1171, 1173, 25)), (270, (1195, 1197, 29)), (273, (1203, 1205, 30)), (276, (1223, 1225, 31)), (279, (1231, 1233, 32)), (282, (1255, 1257, 33)), (285, (1271, 1273, 34))]
  | 12 => [(335, (428, 429, 430)), (492, (438, 439, 440)), (495, (442, 443, 0)), (1059, (450, 451, 0))]
  | 13 => [(9, (445, 446, 0))]
  | 14 => [(9, (54, 55, 0)), (12, (859, 860, 0)), (13, (360, 361, 362)), (17, (995, 996, 997)), (18, (371, 372, 373)), (22, (1003, 1004, 1005)), (23, (375, 376, 377)), (26, (1007, 1008, 1009)), (27, (500, 501, 502)), (30, (1053, 1054, 1055)), (31, (547, 548, 549)), (35, (1057, 1058, 1059)), (36, (556, 557, 558)), (39, (1065, 1066, 1067)), (40, (588, 589, 590)), (43, (1088, 1089, 1090)), (44, (594, 595, 596)), (48, (1100, 1101, 1102)), (49, (607, 608, 609)), (52, (1104, 1105, 1106)), (53, (617, 618, 619)), (56, (1112, 1113, 1114)), (57, (622, 623, 624)), (60, (1117, 1118, 1119)), (61, (626, 627, 628)), (64, (1122, 1123, 1124)), (65, (630, 631, 632)), (68, (1127, 1128, 1129)), (69, (680, 681, 682)), (72, (1163, 1164, 1165)), (73, (684, 685, 686)), (76, (1167, 1168, 1169)), (77, (721, 722, 723)), (80, (1187, 1188, 1189)), (81, (729, 730, 731)), (84, (1191, 1192, 1193)), (85, (741, 742, 743)), (88, (1199, 1200, 1201)), (89, (749, 750, 751)), (92, (1207, 1208, 1209)), (93, (753, 754, 755)), (96, (1211, 1212, 1213)), (97, (757, 758, 759)), (100, (1215, 1216, 1217)), (101, (766, 767, 768)), (104, (1219, 1220, 1221)), (105, (795, 796, 797)), (108, (1227, 1228, 1229)), (109, (801, 802, 803)), (112, (1235, 1236, 1237)), (113, (812, 813, 814)), (116, (1239, 1240, 1241)), (117, (817, 818, 819)), (120, (1243, 1244, 1245)), (121, (825, 826, 827)), (124, (1247, 1248, 1249)), (125, (829, 830, 831)), (128, (1251, 1252, 1253)), (129, (835, 836, 837)), (132, (1259, 1260, 1261)), (133, (839, 840, 841)), (136, (1263, 1264, 1265)), (137, (849, 850, 851)), (140, (1267, 1268, 1269))]
  | _ => []
def am_pfT (k : Nat) : List (Nat × Nat) := match k with
  | 0 => [(9, 95), (15, 96), (18, 107), (25, 77), (29, 82), (32, 87), (35, 90), (38, 99), (41, 103), (44, 108), (47, 110)]
  | 1 => [(9, 188), (18, 189), (22, 191), (38, 98), (46, 88), (53, 178), (60, 176), (68, 91), (71, 171), (95, 141)]
  | 2 => [(7, 254), (13, 256)]
  | 3 => [(9, 275), (17, 276), (22, 277), (26, 279), (29, 281), (32, 283), (35, 285), (48, 244), (51, 80), (56, 246), (59, 248), (62, 250), (65, 111), (68, 251), (71, 104), (74, 252), (78, 255), (81, 257), (95, 102), (113, 86), (116, 93)]
  | 4 => [(9, 139), (15, 143), (18, 136), (21, 145), (27, 146), (47, 101), (54, 106)]
  | 5 => [(9, 177), (15, 78), (21, 170), (37, 173), (40, 83), (43, 175)]
  | 6 => [(9, 205), (15, 206), (19, 209), (23, 212), (26, 210), (30, 211), (39, 97), (45, 207), (50, 208), (70, 140)]
  | 7 => [(9, 308), (15, 309), (19, 315), (22, 319), (25, 320), (28, 310), (39, 316), (42, 314), (52, 313), (55, 312), (61, 137), (66, 318), (71, 79), (76, 84), (149, 94)]
  | 8 => [(12, 344), (21, 345), (30, 346), (37, 347), (44, 348), (52, 311), (69, 317), (90, 81), (95, 85), (98, 89), (101, 92), (107, 100), (110, 105), (113, 109), (133, 142), (136, 144), (171, 278), (184, 190), (194, 172), (202, 174), (218, 245), (223, 247), (226, 249), (229, 253), (241, 138), (247, 280), (250, 282), (253, 284), (256, 286)]
  | 9 => [(7, 871), (13, 872), (17, 873), (20, 874), (23, 875), (26, 876), (29, 877), (32, 878), (35, 879), (38, 880), (41, 881), (44, 882), (47, 883), (50, 884), (53, 885), (56, 886), (59, 892), (62, 897), (65, 898), (68, 901), (71, 902), (74, 903), (77, 907), (80, 908), (83, 909), (87, 910), (90, 911), (109, 893), (120, 895), (123, 894), (136, 896), (154, 900), (161, 899), (172, 887), (175, 888), (178, 889), (181, 890), (184, 891), (191, 904), (194, 905), (201, 906)]
  | 12 => [(9, 1275), (15, 1276)]
  | _ => []
def am_pcT (k : Nat) : List (Nat × Nat) := match k with
  | 1 => [(15, 164)]
  | 3 => [(15, 237)]
  | 4 => [(25, 66)]
  | 8 => [(9, 60), (16, 158), (25, 199), (34, 231), (41, 302)]
  | 14 => [(7, 52), (10, 857)]
  | _ => []
def am_pkT (k : Nat) : List (Nat × Nat) := match k with
  | 7 => [(116, 414), (117, 415), (119, 416), (121, 417), (123, 418), (125, 419)]
  | 10 => [(265, 809), (266, 810), (267, 811)]
  | _ => []
def am_plT (k : Nat) : List (Nat × Nat) := match k with
  | 9 => [(101, 1095), (107, 999), (112, 1022), (114, 1023), (116, 1027), (118, 1028), (249, 1116), (251, 1121), (253, 1126)]
  | _ => []
def am_psT (k : Nat) : List (Nat × Nat) := match k with
  | 8 => [(210, 833)]
  | 12 => [(38, 432), (1053, 448)]
  | _ => []
def am_wi (p : Nat) (c : Cond) : Bool := decide (lw_tbl[p]? = some c)
theorem am_wi_in {p : Nat} {c : Cond} (h : am_wi p c = true) : c ∈ lw_tbl := List.mem_of_getElem? (of_decide_eq_true h)
def am_pw (k : Nat) : Nat := match k with
  | 0 => 71
  | 1 => 76
  | 2 => 542
  | 3 => 529
  | 4 => 534
  | 5 => 601
  | 6 => 605
  | 7 => 577
  | 8 => 784
  | 9 => 568
  | 10 => 641
  | 11 => 637
  | 12 => 679
  | 13 => 728
  | 14 => 162
  | 15 => 563
  | 16 => 582
  | 17 => 587
  | 18 => 664
  | 19 => 668
  | 20 => 673
  | 21 => 655
  | 22 => 660
  | 23 => 242
  | 24 => 794
  | 25 => 235
  | 26 => 546
  | 27 => 846
  | 28 => 764
  | 29 => 650
  | 30 => 646
  | 31 => 748
  | 32 => 773
  | 33 => 777
  | 34 => 790
  | 35 => 64
  | 36 => 515
  | 37 => 538
  | 38 => 524
  | 39 => 390
  | 40 => 555
  | 41 => 520
  | 42 => 856
  | 43 => 614
  | 44 => 736
  | 45 => 168
  | 46 => 572
  | 47 => 203
  | 48 => 691
  | 49 => 698
  | 50 => 704
  | 51 => 708
  | 52 => 712
  | 53 => 824
  | 54 => 716
  | 55 => 720
  | 56 => 306
  | 57 => 367
  | 58 => 382
  | 59 => 386
  | 60 => 399
  | 61 => 395
  | 62 => 402
  | 63 => 498
  | 64 => 406
  | 65 => 410
  | 66 => 423
  | 67 => 413
  | 68 => 474
  | 69 => 482
  | 70 => 490
  | 71 => 486
  | 72 => 478
  | 73 => 494
  | 74 => 507
  | 75 => 511
  | 76 => 56
  | 77 => 363
  | 78 => 374
  | 79 => 378
  | 80 => 503
  | 81 => 550
  | 82 => 559
  | 83 => 591
  | 84 => 597
  | 85 => 610
  | 86 => 620
  | 87 => 625
  | 88 => 629
  | 89 => 633
  | 90 => 683
  | 91 => 687
  | 92 => 724
  | 93 => 732
  | 94 => 744
  | 95 => 752
  | 96 => 756
  | 97 => 760
  | 98 => 769
  | 99 => 798
  | 100 => 804
  | 101 => 815
  | 102 => 820
  | 103 => 828
  | 104 => 832
  | 105 => 838
  | 106 => 842
  | 107 => 852
  | 108 => 370
  | 109 => 861
  | 110 => 1002
  | 111 => 1087
  | 112 => 1064
  | 113 => 1094
  | 114 => 870
  | 115 => 866
  | 116 => 998
  | 117 => 1006
  | 118 => 1021
  | 119 => 1026
  | 120 => 1018
  | 121 => 1036
  | 122 => 1044
  | 123 => 1048
  | 124 => 1040
  | 125 => 1052
  | 126 => 1032
  | 127 => 1014
  | 128 => 1010
  | 129 => 1056
  | 130 => 1099
  | 131 => 1084
  | 132 => 1080
  | 133 => 1076
  | 134 => 1072
  | 135 => 1158
  | 136 => 1154
  | 137 => 1150
  | 138 => 1146
  | 139 => 1186
  | 140 => 1182
  | 141 => 1178
  | 142 => 1174
  | 143 => 1060
  | 144 => 1068
  | 145 => 1091
  | 146 => 1103
  | 147 => 1111
  | 148 => 1107
  | 149 => 1198
  | 150 => 1115
  | 151 => 1120
  | 152 => 1125
  | 153 => 1134
  | 154 => 1162
  | 155 => 1138
  | 156 => 1206
  | 157 => 1130
  | 158 => 1166
  | 159 => 1170
  | 160 => 1190
  | 161 => 1194
  | 162 => 1202
  | 163 => 1210
  | 164 => 1214
  | 165 => 1218
  | 166 => 1226
  | 167 => 1222
  | 168 => 1234
  | 169 => 1230
  | 170 => 1238
  | 171 => 1142
  | 172 => 1242
  | 173 => 1246
  | 174 => 1250
  | 175 => 1258
  | 176 => 1254
  | 177 => 1262
  | 178 => 1266
  | 179 => 1274
  | 180 => 1270
  | 181 => 808
  | 182 => 740
  | 183 => 427
  | 184 => 437
  | 185 => 431
  | 186 => 441
  | 187 => 447
  | 188 => 444
  | 189 => 452
  | _ => 0
def am_pi (k : Nat) : Nat := match k with
  | 0 => 38
  | 1 => 39
  | 2 => 43
  | 3 => 42
  | 4 => 37
  | 5 => 40
  | 6 => 41
  | 7 => 44
  | 8 => 36
  | 9 => 45
  | 10 => 51
  | 11 => 50
  | 12 => 46
  | 13 => 47
  | 14 => 35
  | 15 => 48
  | _ => 0
def am_cwm (m : Nat) : Bool := am_wi (am_pw m) (.code (am_y m) (am_by m) (am_ml m) (am_rt m)) && goodWord (.code (am_y m) (am_by m) (am_ml m) (am_rt m))
-- the law is method 190
set_option maxRecDepth 100000 in
theorem am_cw0 : lw_tbl[71]? = some (.code (am_y 0) prog_2_method_1_code 1 (Option.none : Option Jvm.ClassFile.FieldType)) := rfl
set_option maxRecDepth 100000 in
theorem am_cw1 : lw_tbl[76]? = some (.code (am_y 1) prog_2_method_2_code 5 (Option.none : Option Jvm.ClassFile.FieldType)) := rfl
set_option maxRecDepth 100000 in
theorem am_cw2 : lw_tbl[542]? = some (.code (am_y 2) prog_2_method_3_code 1 (Option.none : Option Jvm.ClassFile.FieldType)) := rfl
set_option maxRecDepth 100000 in
theorem am_cw3 : lw_tbl[529]? = some (.code (am_y 3) prog_2_method_4_code 3 (Option.none : Option Jvm.ClassFile.FieldType)) := rfl
set_option maxRecDepth 100000 in
theorem am_cw4 : lw_tbl[534]? = some (.code (am_y 4) prog_2_method_5_code 3 (Option.none : Option Jvm.ClassFile.FieldType)) := rfl
set_option maxRecDepth 100000 in
theorem am_cw5 : lw_tbl[601]? = some (.code (am_y 5) prog_2_method_6_code 2 (Option.some Jvm.ClassFile.FieldType.int)) := rfl
set_option maxRecDepth 100000 in
theorem am_cw6 : lw_tbl[605]? = some (.code (am_y 6) prog_2_method_7_code 2 (Option.some Jvm.ClassFile.FieldType.int)) := rfl
set_option maxRecDepth 100000 in
theorem am_cw7 : lw_tbl[577]? = some (.code (am_y 7) prog_2_method_8_code 3 (Option.some Jvm.ClassFile.FieldType.int)) := rfl
set_option maxRecDepth 100000 in
theorem am_cw8 : lw_tbl[784]? = some (.code (am_y 8) prog_2_method_9_code 2 (Option.some Jvm.ClassFile.FieldType.boolean)) := rfl
set_option maxRecDepth 100000 in
theorem am_cw9 : lw_tbl[568]? = some (.code (am_y 9) prog_2_method_10_code 3 (Option.some Jvm.ClassFile.FieldType.int)) := rfl
set_option maxRecDepth 100000 in
theorem am_cw10 : lw_tbl[641]? = some (.code (am_y 10) prog_2_method_11_code 2 (Option.some Jvm.ClassFile.FieldType.boolean)) := rfl
set_option maxRecDepth 100000 in
theorem am_cw11 : lw_tbl[637]? = some (.code (am_y 11) prog_2_method_12_code 2 (Option.some Jvm.ClassFile.FieldType.boolean)) := rfl
set_option maxRecDepth 100000 in
theorem am_cw12 : lw_tbl[679]? = some (.code (am_y 12) prog_2_method_13_code 2 (Option.none : Option Jvm.ClassFile.FieldType)) := rfl
set_option maxRecDepth 100000 in
theorem am_cw13 : lw_tbl[728]? = some (.code (am_y 13) prog_2_method_14_code 2 (Option.none : Option Jvm.ClassFile.FieldType)) := rfl
set_option maxRecDepth 100000 in
theorem am_cw14 : lw_tbl[162]? = some (.code (am_y 14) prog_3_method_1_code 2 (Option.none : Option Jvm.ClassFile.FieldType)) := rfl
set_option maxRecDepth 100000 in
theorem am_cw15 : lw_tbl[563]? = some (.code (am_y 15) prog_3_method_2_code 5 (Option.none : Option Jvm.ClassFile.FieldType)) := rfl
set_option maxRecDepth 100000 in
theorem am_cw16 : lw_tbl[582]? = some (.code (am_y 16) prog_3_method_3_code 4 (Option.none : Option Jvm.ClassFile.FieldType)) := rfl
set_option maxRecDepth 100000 in
theorem am_cw17 : lw_tbl[587]? = some (.code (am_y 17) prog_3_method_4_code 3 (Option.some Jvm.ClassFile.FieldType.int)) := rfl
set_option maxRecDepth 100000 in
theorem am_cw18 : lw_tbl[664]? = some (.code (am_y 18) prog_3_method_5_code 4 (Option.some Jvm.ClassFile.FieldType.int)) := rfl
set_option maxRecDepth 100000 in
theorem am_cw19 : lw_tbl[668]? = some (.code (am_y 19) prog_3_method_6_code 8 (Option.some Jvm.ClassFile.FieldType.boolean)) := rfl
set_option maxRecDepth 100000 in
theorem am_cw20 : lw_tbl[673]? = some (.code (am_y 20) prog_3_method_7_code 4 (Option.some Jvm.ClassFile.FieldType.boolean)) := rfl
set_option maxRecDepth 100000 in
theorem am_cw21 : lw_tbl[655]? = some (.code (am_y 21) prog_3_method_8_code 6 (Option.some Jvm.ClassFile.FieldType.int)) := rfl
set_option maxRecDepth 100000 in
theorem am_cw22 : lw_tbl[660]? = some (.code (am_y 22) prog_3_method_9_code 5 (Option.some Jvm.ClassFile.FieldType.int)) := rfl
set_option maxRecDepth 100000 in
theorem am_cw23 : lw_tbl[242]? = some (.code (am_y 23) prog_4_method_1_code 1 (Option.none : Option Jvm.ClassFile.FieldType)) := rfl
set_option maxRecDepth 100000 in
theorem am_cw24 : lw_tbl[794]? = some (.code (am_y 24) prog_4_method_2_code 1 (Option.some Jvm.ClassFile.FieldType.boolean)) := rfl
set_option maxRecDepth 100000 in
theorem am_cw25 : lw_tbl[235]? = some (.code (am_y 25) prog_5_method_1_code 3 (Option.none : Option Jvm.ClassFile.FieldType)) := rfl
set_option maxRecDepth 100000 in
theorem am_cw26 : lw_tbl[546]? = some (.code (am_y 26) prog_5_method_2_code 1 (Option.none : Option Jvm.ClassFile.FieldType)) := rfl
set_option maxRecDepth 100000 in
theorem am_cw27 : lw_tbl[846]? = some (.code (am_y 27) prog_5_method_3_code 2 (Option.some (Jvm.ClassFile.FieldType.object "MixedRules$Letter"))) := rfl
set_option maxRecDepth 100000 in
theorem am_cw28 : lw_tbl[764]? = some (.code (am_y 28) prog_5_method_4_code 4 (Option.some Jvm.ClassFile.FieldType.boolean)) := rfl
set_option maxRecDepth 100000 in
theorem am_cw29 : lw_tbl[650]? = some (.code (am_y 29) prog_5_method_5_code 3 (Option.some Jvm.ClassFile.FieldType.int)) := rfl
set_option maxRecDepth 100000 in
theorem am_cw30 : lw_tbl[646]? = some (.code (am_y 30) prog_5_method_6_code 3 (Option.some Jvm.ClassFile.FieldType.boolean)) := rfl
set_option maxRecDepth 100000 in
theorem am_cw31 : lw_tbl[748]? = some (.code (am_y 31) prog_5_method_7_code 5 (Option.some Jvm.ClassFile.FieldType.int)) := rfl
set_option maxRecDepth 100000 in
theorem am_cw32 : lw_tbl[773]? = some (.code (am_y 32) prog_5_method_8_code 6 (Option.some Jvm.ClassFile.FieldType.int)) := rfl
set_option maxRecDepth 100000 in
theorem am_cw33 : lw_tbl[777]? = some (.code (am_y 33) prog_5_method_9_code 5 (Option.some Jvm.ClassFile.FieldType.int)) := rfl
set_option maxRecDepth 100000 in
theorem am_cw34 : lw_tbl[790]? = some (.code (am_y 34) prog_5_method_10_code 3 (Option.none : Option Jvm.ClassFile.FieldType)) := rfl
set_option maxRecDepth 100000 in
theorem am_cw35 : lw_tbl[64]? = some (.code (am_y 35) prog_6_method_1_code 2 (Option.none : Option Jvm.ClassFile.FieldType)) := rfl
set_option maxRecDepth 100000 in
theorem am_cw36 : lw_tbl[515]? = some (.code (am_y 36) prog_6_method_2_code 3 (Option.none : Option Jvm.ClassFile.FieldType)) := rfl
set_option maxRecDepth 100000 in
theorem am_cw37 : lw_tbl[538]? = some (.code (am_y 37) prog_6_method_3_code 2 (Option.none : Option Jvm.ClassFile.FieldType)) := rfl
set_option maxRecDepth 100000 in
theorem am_cw38 : lw_tbl[524]? = some (.code (am_y 38) prog_6_method_4_code 2 (Option.some Jvm.ClassFile.FieldType.boolean)) := rfl
set_option maxRecDepth 100000 in
theorem am_cw39 : lw_tbl[390]? = some (.code (am_y 39) prog_6_method_5_code 2 (Option.some (Jvm.ClassFile.FieldType.object "MixedRules$Flow"))) := rfl
set_option maxRecDepth 100000 in
theorem am_cw40 : lw_tbl[555]? = some (.code (am_y 40) prog_6_method_6_code 3 (Option.some Jvm.ClassFile.FieldType.int)) := rfl
set_option maxRecDepth 100000 in
theorem am_cw41 : lw_tbl[520]? = some (.code (am_y 41) prog_6_method_7_code 4 (Option.none : Option Jvm.ClassFile.FieldType)) := rfl
set_option maxRecDepth 100000 in
theorem am_cw42 : lw_tbl[856]? = some (.code (am_y 42) prog_6_method_8_code 3 (Option.some Jvm.ClassFile.FieldType.int)) := rfl
set_option maxRecDepth 100000 in
theorem am_cw43 : lw_tbl[614]? = some (.code (am_y 43) prog_6_method_9_code 5 (Option.some Jvm.ClassFile.FieldType.int)) := rfl
set_option maxRecDepth 100000 in
theorem am_cw44 : lw_tbl[736]? = some (.code (am_y 44) prog_6_method_10_code 3 (Option.some Jvm.ClassFile.FieldType.int)) := rfl
set_option maxRecDepth 100000 in
theorem am_cw45 : lw_tbl[168]? = some (.code (am_y 45) prog_7_method_1_code 1 (Option.none : Option Jvm.ClassFile.FieldType)) := rfl
set_option maxRecDepth 100000 in
theorem am_cw46 : lw_tbl[572]? = some (.code (am_y 46) prog_7_method_2_code 7 (Option.none : Option Jvm.ClassFile.FieldType)) := rfl
set_option maxRecDepth 100000 in
theorem am_cw47 : lw_tbl[203]? = some (.code (am_y 47) prog_8_method_1_code 3 (Option.none : Option Jvm.ClassFile.FieldType)) := rfl
set_option maxRecDepth 100000 in
theorem am_cw48 : lw_tbl[691]? = some (.code (am_y 48) prog_8_method_2_code 7 (Option.some Jvm.ClassFile.FieldType.boolean)) := rfl
set_option maxRecDepth 100000 in
theorem am_cw49 : lw_tbl[698]? = some (.code (am_y 49) prog_8_method_3_code 3 (Option.none : Option Jvm.ClassFile.FieldType)) := rfl
set_option maxRecDepth 100000 in
theorem am_cw50 : lw_tbl[704]? = some (.code (am_y 50) prog_8_method_4_code 7 (Option.none : Option Jvm.ClassFile.FieldType)) := rfl
set_option maxRecDepth 100000 in
theorem am_cw51 : lw_tbl[708]? = some (.code (am_y 51) prog_8_method_5_code 3 (Option.some Jvm.ClassFile.FieldType.boolean)) := rfl
set_option maxRecDepth 100000 in
theorem am_cw52 : lw_tbl[712]? = some (.code (am_y 52) prog_8_method_6_code 2 (Option.some Jvm.ClassFile.FieldType.int)) := rfl
set_option maxRecDepth 100000 in
theorem am_cw53 : lw_tbl[824]? = some (.code (am_y 53) prog_8_method_7_code 1 (Option.some Jvm.ClassFile.FieldType.int)) := rfl
set_option maxRecDepth 100000 in
theorem am_cw54 : lw_tbl[716]? = some (.code (am_y 54) prog_8_method_8_code 4 (Option.some Jvm.ClassFile.FieldType.int)) := rfl
set_option maxRecDepth 100000 in
theorem am_cw55 : lw_tbl[720]? = some (.code (am_y 55) prog_8_method_9_code 2 (Option.some Jvm.ClassFile.FieldType.int)) := rfl
set_option maxRecDepth 100000 in
theorem am_cw56 : lw_tbl[306]? = some (.code (am_y 56) prog_9_method_1_code 2 (Option.none : Option Jvm.ClassFile.FieldType)) := rfl
set_option maxRecDepth 100000 in
theorem am_cw57 : lw_tbl[367]? = some (.code (am_y 57) prog_9_method_2_code 2 (Option.some Jvm.ClassFile.FieldType.boolean)) := rfl
set_option maxRecDepth 100000 in
theorem am_cw58 : lw_tbl[382]? = some (.code (am_y 58) prog_9_method_3_code 2 (Option.some Jvm.ClassFile.FieldType.int)) := rfl
set_option maxRecDepth 100000 in
theorem am_cw59 : lw_tbl[386]? = some (.code (am_y 59) prog_9_method_4_code 3 (Option.none : Option Jvm.ClassFile.FieldType)) := rfl
set_option maxRecDepth 100000 in
theorem am_cw60 : lw_tbl[399]? = some (.code (am_y 60) prog_9_method_5_code 2 (Option.some Jvm.ClassFile.FieldType.int)) := rfl
set_option maxRecDepth 100000 in
theorem am_cw61 : lw_tbl[395]? = some (.code (am_y 61) prog_9_method_6_code 1 (Option.none : Option Jvm.ClassFile.FieldType)) := rfl
set_option maxRecDepth 100000 in
theorem am_cw62 : lw_tbl[402]? = some (.code (am_y 62) prog_9_method_7_code 1 (Option.some Jvm.ClassFile.FieldType.int)) := rfl
set_option maxRecDepth 100000 in
theorem am_cw63 : lw_tbl[498]? = some (.code (am_y 63) prog_9_method_8_code 1 (Option.some Jvm.ClassFile.FieldType.boolean)) := rfl
set_option maxRecDepth 100000 in
theorem am_cw64 : lw_tbl[406]? = some (.code (am_y 64) prog_9_method_9_code 5 (Option.some Jvm.ClassFile.FieldType.boolean)) := rfl
set_option maxRecDepth 100000 in
theorem am_cw65 : lw_tbl[410]? = some (.code (am_y 65) prog_9_method_10_code 2 (Option.some Jvm.ClassFile.FieldType.int)) := rfl
set_option maxRecDepth 100000 in
theorem am_cw66 : lw_tbl[423]? = some (.code (am_y 66) prog_9_method_11_code 3 (Option.some Jvm.ClassFile.FieldType.boolean)) := rfl
set_option maxRecDepth 100000 in
theorem am_cw67 : lw_tbl[413]? = some (.code (am_y 67) prog_9_method_12_code 1 (Option.some (Jvm.ClassFile.FieldType.object "java/lang/String"))) := rfl
set_option maxRecDepth 100000 in
theorem am_cw68 : lw_tbl[474]? = some (.code (am_y 68) prog_9_method_13_code 1 (Option.some Jvm.ClassFile.FieldType.int)) := rfl
set_option maxRecDepth 100000 in
theorem am_cw69 : lw_tbl[482]? = some (.code (am_y 69) prog_9_method_14_code 2 (Option.some Jvm.ClassFile.FieldType.int)) := rfl
set_option maxRecDepth 100000 in
theorem am_cw70 : lw_tbl[490]? = some (.code (am_y 70) prog_9_method_15_code 2 (Option.some Jvm.ClassFile.FieldType.int)) := rfl
set_option maxRecDepth 100000 in
theorem am_cw71 : lw_tbl[486]? = some (.code (am_y 71) prog_9_method_16_code 2 (Option.some Jvm.ClassFile.FieldType.int)) := rfl
set_option maxRecDepth 100000 in
theorem am_cw72 : lw_tbl[478]? = some (.code (am_y 72) prog_9_method_17_code 10 (Option.some Jvm.ClassFile.FieldType.boolean)) := rfl
set_option maxRecDepth 100000 in
theorem am_cw73 : lw_tbl[494]? = some (.code (am_y 73) prog_9_method_18_code 5 (Option.none : Option Jvm.ClassFile.FieldType)) := rfl
set_option maxRecDepth 100000 in
theorem am_cw74 : lw_tbl[507]? = some (.code (am_y 74) prog_9_method_19_code 2 (Option.none : Option Jvm.ClassFile.FieldType)) := rfl
set_option maxRecDepth 100000 in
theorem am_cw75 : lw_tbl[511]? = some (.code (am_y 75) prog_9_method_20_code 7 (Option.none : Option Jvm.ClassFile.FieldType)) := rfl
set_option maxRecDepth 100000 in
theorem am_cw76 : lw_tbl[56]? = some (.code (am_y 76) prog_1_method_1_code 1 (Option.none : Option Jvm.ClassFile.FieldType)) := rfl
set_option maxRecDepth 100000 in
theorem am_cw77 : lw_tbl[363]? = some (.code (am_y 77) prog_1_method_2_code 2 (Option.some Jvm.ClassFile.FieldType.int)) := rfl
set_option maxRecDepth 100000 in
theorem am_cw78 : lw_tbl[374]? = some (.code (am_y 78) prog_1_method_3_code 2 (Option.some Jvm.ClassFile.FieldType.int)) := rfl
set_option maxRecDepth 100000 in
theorem am_cw79 : lw_tbl[378]? = some (.code (am_y 79) prog_1_method_4_code 1 (Option.some Jvm.ClassFile.FieldType.int)) := rfl
set_option maxRecDepth 100000 in
theorem am_cw80 : lw_tbl[503]? = some (.code (am_y 80) prog_1_method_5_code 1 (Option.some Jvm.ClassFile.FieldType.int)) := rfl
set_option maxRecDepth 100000 in
theorem am_cw81 : lw_tbl[550]? = some (.code (am_y 81) prog_1_method_6_code 3 (Option.some Jvm.ClassFile.FieldType.int)) := rfl
set_option maxRecDepth 100000 in
theorem am_cw82 : lw_tbl[559]? = some (.code (am_y 82) prog_1_method_7_code 3 (Option.some Jvm.ClassFile.FieldType.int)) := rfl
set_option maxRecDepth 100000 in
theorem am_cw83 : lw_tbl[591]? = some (.code (am_y 83) prog_1_method_8_code 4 (Option.some Jvm.ClassFile.FieldType.int)) := rfl
set_option maxRecDepth 100000 in
theorem am_cw84 : lw_tbl[597]? = some (.code (am_y 84) prog_1_method_9_code 5 (Option.some Jvm.ClassFile.FieldType.int)) := rfl
set_option maxRecDepth 100000 in
theorem am_cw85 : lw_tbl[610]? = some (.code (am_y 85) prog_1_method_10_code 2 (Option.some Jvm.ClassFile.FieldType.int)) := rfl
set_option maxRecDepth 100000 in
theorem am_cw86 : lw_tbl[620]? = some (.code (am_y 86) prog_1_method_11_code 5 (Option.some Jvm.ClassFile.FieldType.int)) := rfl
set_option maxRecDepth 100000 in
theorem am_cw87 : lw_tbl[625]? = some (.code (am_y 87) prog_1_method_12_code 3 (Option.some Jvm.ClassFile.FieldType.int)) := rfl
set_option maxRecDepth 100000 in
theorem am_cw88 : lw_tbl[629]? = some (.code (am_y 88) prog_1_method_13_code 3 (Option.some Jvm.ClassFile.FieldType.int)) := rfl
set_option maxRecDepth 100000 in
theorem am_cw89 : lw_tbl[633]? = some (.code (am_y 89) prog_1_method_14_code 4 (Option.some Jvm.ClassFile.FieldType.int)) := rfl
set_option maxRecDepth 100000 in
theorem am_cw90 : lw_tbl[683]? = some (.code (am_y 90) prog_1_method_15_code 4 (Option.some Jvm.ClassFile.FieldType.int)) := rfl
set_option maxRecDepth 100000 in
theorem am_cw91 : lw_tbl[687]? = some (.code (am_y 91) prog_1_method_16_code 4 (Option.some Jvm.ClassFile.FieldType.int)) := rfl
set_option maxRecDepth 100000 in
theorem am_cw92 : lw_tbl[724]? = some (.code (am_y 92) prog_1_method_17_code 3 (Option.some Jvm.ClassFile.FieldType.int)) := rfl
set_option maxRecDepth 100000 in
theorem am_cw93 : lw_tbl[732]? = some (.code (am_y 93) prog_1_method_18_code 4 (Option.some Jvm.ClassFile.FieldType.int)) := rfl
set_option maxRecDepth 100000 in
theorem am_cw94 : lw_tbl[744]? = some (.code (am_y 94) prog_1_method_19_code 3 (Option.some Jvm.ClassFile.FieldType.int)) := rfl
set_option maxRecDepth 100000 in
theorem am_cw95 : lw_tbl[752]? = some (.code (am_y 95) prog_1_method_20_code 3 (Option.some Jvm.ClassFile.FieldType.int)) := rfl
set_option maxRecDepth 100000 in
theorem am_cw96 : lw_tbl[756]? = some (.code (am_y 96) prog_1_method_21_code 4 (Option.some Jvm.ClassFile.FieldType.int)) := rfl
set_option maxRecDepth 100000 in
theorem am_cw97 : lw_tbl[760]? = some (.code (am_y 97) prog_1_method_22_code 2 (Option.some Jvm.ClassFile.FieldType.int)) := rfl
set_option maxRecDepth 100000 in
theorem am_cw98 : lw_tbl[769]? = some (.code (am_y 98) prog_1_method_23_code 1 (Option.some Jvm.ClassFile.FieldType.int)) := rfl
set_option maxRecDepth 100000 in
theorem am_cw99 : lw_tbl[798]? = some (.code (am_y 99) prog_1_method_24_code 4 (Option.some Jvm.ClassFile.FieldType.int)) := rfl
set_option maxRecDepth 100000 in
theorem am_cw100 : lw_tbl[804]? = some (.code (am_y 100) prog_1_method_25_code 6 (Option.some Jvm.ClassFile.FieldType.int)) := rfl
set_option maxRecDepth 100000 in
theorem am_cw101 : lw_tbl[815]? = some (.code (am_y 101) prog_1_method_26_code 6 (Option.some Jvm.ClassFile.FieldType.int)) := rfl
set_option maxRecDepth 100000 in
theorem am_cw102 : lw_tbl[820]? = some (.code (am_y 102) prog_1_method_27_code 3 (Option.some Jvm.ClassFile.FieldType.int)) := rfl
set_option maxRecDepth 100000 in
theorem am_cw103 : lw_tbl[828]? = some (.code (am_y 103) prog_1_method_28_code 2 (Option.some Jvm.ClassFile.FieldType.int)) := rfl
set_option maxRecDepth 100000 in
theorem am_cw104 : lw_tbl[832]? = some (.code (am_y 104) prog_1_method_29_code 5 (Option.some Jvm.ClassFile.FieldType.int)) := rfl
set_option maxRecDepth 100000 in
theorem am_cw105 : lw_tbl[838]? = some (.code (am_y 105) prog_1_method_30_code 8 (Option.some Jvm.ClassFile.FieldType.int)) := rfl
set_option maxRecDepth 100000 in
theorem am_cw106 : lw_tbl[842]? = some (.code (am_y 106) prog_1_method_31_code 4 (Option.some Jvm.ClassFile.FieldType.int)) := rfl
set_option maxRecDepth 100000 in
theorem am_cw107 : lw_tbl[852]? = some (.code (am_y 107) prog_1_method_32_code 2 (Option.some Jvm.ClassFile.FieldType.int)) := rfl
set_option maxRecDepth 100000 in
theorem am_cw108 : lw_tbl[370]? = some (.code (am_y 108) prog_1_method_33_code 2 (Option.some Jvm.ClassFile.FieldType.boolean)) := rfl
set_option maxRecDepth 100000 in
theorem am_cw109 : lw_tbl[861]? = some (.code (am_y 109) prog_11_method_1_code 1 (Option.none : Option Jvm.ClassFile.FieldType)) := rfl
set_option maxRecDepth 100000 in
theorem am_cw110 : lw_tbl[1002]? = some (.code (am_y 110) prog_11_method_2_code 6 (Option.some Jvm.ClassFile.FieldType.boolean)) := rfl
set_option maxRecDepth 100000 in
theorem am_cw111 : lw_tbl[1087]? = some (.code (am_y 111) prog_11_method_3_code 2 (Option.some Jvm.ClassFile.FieldType.boolean)) := rfl
set_option maxRecDepth 100000 in
theorem am_cw112 : lw_tbl[1064]? = some (.code (am_y 112) prog_11_method_5_code 2 (Option.some Jvm.ClassFile.FieldType.boolean)) := rfl
set_option maxRecDepth 100000 in
theorem am_cw113 : lw_tbl[1094]? = some (.code (am_y 113) prog_11_method_6_code 1 (Option.some Jvm.ClassFile.FieldType.boolean)) := rfl
set_option maxRecDepth 100000 in
theorem am_cw114 : lw_tbl[870]? = some (.code (am_y 114) prog_11_method_7_code 6 (Option.none : Option Jvm.ClassFile.FieldType)) := rfl
set_option maxRecDepth 100000 in
theorem am_cw115 : lw_tbl[866]? = some (.code (am_y 115) prog_11_method_8_code 3 (Option.none : Option Jvm.ClassFile.FieldType)) := rfl
set_option maxRecDepth 100000 in
theorem am_cw116 : lw_tbl[998]? = some (.code (am_y 116) prog_11_method_9_code 2 (Option.some Jvm.ClassFile.FieldType.int)) := rfl
set_option maxRecDepth 100000 in
theorem am_cw117 : lw_tbl[1006]? = some (.code (am_y 117) prog_11_method_10_code 2 (Option.some Jvm.ClassFile.FieldType.int)) := rfl
set_option maxRecDepth 100000 in
theorem am_cw118 : lw_tbl[1021]? = some (.code (am_y 118) prog_11_method_11_code 1 (Option.some Jvm.ClassFile.FieldType.boolean)) := rfl
set_option maxRecDepth 100000 in
theorem am_cw119 : lw_tbl[1026]? = some (.code (am_y 119) prog_11_method_12_code 1 (Option.some Jvm.ClassFile.FieldType.boolean)) := rfl
set_option maxRecDepth 100000 in
theorem am_cw120 : lw_tbl[1018]? = some (.code (am_y 120) prog_11_method_13_code 1 (Option.none : Option Jvm.ClassFile.FieldType)) := rfl
set_option maxRecDepth 100000 in
theorem am_cw121 : lw_tbl[1036]? = some (.code (am_y 121) prog_11_method_14_code 4 (Option.some Jvm.ClassFile.FieldType.int)) := rfl
set_option maxRecDepth 100000 in
theorem am_cw122 : lw_tbl[1044]? = some (.code (am_y 122) prog_11_method_15_code 8 (Option.some Jvm.ClassFile.FieldType.boolean)) := rfl
set_option maxRecDepth 100000 in
theorem am_cw123 : lw_tbl[1048]? = some (.code (am_y 123) prog_11_method_16_code 4 (Option.some Jvm.ClassFile.FieldType.boolean)) := rfl
set_option maxRecDepth 100000 in
theorem am_cw124 : lw_tbl[1040]? = some (.code (am_y 124) prog_11_method_17_code 2 (Option.some Jvm.ClassFile.FieldType.boolean)) := rfl
set_option maxRecDepth 100000 in
theorem am_cw125 : lw_tbl[1052]? = some (.code (am_y 125) prog_11_method_18_code 3 (Option.none : Option Jvm.ClassFile.FieldType)) := rfl
set_option maxRecDepth 100000 in
theorem am_cw126 : lw_tbl[1032]? = some (.code (am_y 126) prog_11_method_19_code 3 (Option.some Jvm.ClassFile.FieldType.boolean)) := rfl
set_option maxRecDepth 100000 in
theorem am_cw127 : lw_tbl[1014]? = some (.code (am_y 127) prog_11_method_20_code 3 (Option.some Jvm.ClassFile.FieldType.boolean)) := rfl
set_option maxRecDepth 100000 in
theorem am_cw128 : lw_tbl[1010]? = some (.code (am_y 128) prog_11_method_21_code 1 (Option.some Jvm.ClassFile.FieldType.int)) := rfl
set_option maxRecDepth 100000 in
theorem am_cw129 : lw_tbl[1056]? = some (.code (am_y 129) prog_11_method_22_code 2 (Option.some Jvm.ClassFile.FieldType.int)) := rfl
set_option maxRecDepth 100000 in
theorem am_cw130 : lw_tbl[1099]? = some (.code (am_y 130) prog_11_method_23_code 4 (Option.some Jvm.ClassFile.FieldType.int)) := rfl
set_option maxRecDepth 100000 in
theorem am_cw131 : lw_tbl[1084]? = some (.code (am_y 131) prog_11_method_24_code 4 (Option.some Jvm.ClassFile.FieldType.int)) := rfl
set_option maxRecDepth 100000 in
theorem am_cw132 : lw_tbl[1080]? = some (.code (am_y 132) prog_11_method_25_code 6 (Option.none : Option Jvm.ClassFile.FieldType)) := rfl
set_option maxRecDepth 100000 in
theorem am_cw133 : lw_tbl[1076]? = some (.code (am_y 133) prog_11_method_26_code 5 (Option.none : Option Jvm.ClassFile.FieldType)) := rfl
set_option maxRecDepth 100000 in
theorem am_cw134 : lw_tbl[1072]? = some (.code (am_y 134) prog_11_method_27_code 2 (Option.none : Option Jvm.ClassFile.FieldType)) := rfl
set_option maxRecDepth 100000 in
theorem am_cw135 : lw_tbl[1158]? = some (.code (am_y 135) prog_11_method_28_code 5 (Option.some Jvm.ClassFile.FieldType.boolean)) := rfl
set_option maxRecDepth 100000 in
theorem am_cw136 : lw_tbl[1154]? = some (.code (am_y 136) prog_11_method_29_code 7 (Option.some Jvm.ClassFile.FieldType.boolean)) := rfl
set_option maxRecDepth 100000 in
theorem am_cw137 : lw_tbl[1150]? = some (.code (am_y 137) prog_11_method_30_code 4 (Option.some Jvm.ClassFile.FieldType.int)) := rfl
set_option maxRecDepth 100000 in
theorem am_cw138 : lw_tbl[1146]? = some (.code (am_y 138) prog_11_method_31_code 3 (Option.some Jvm.ClassFile.FieldType.boolean)) := rfl
set_option maxRecDepth 100000 in
theorem am_cw139 : lw_tbl[1186]? = some (.code (am_y 139) prog_11_method_32_code 5 (Option.some Jvm.ClassFile.FieldType.boolean)) := rfl
set_option maxRecDepth 100000 in
theorem am_cw140 : lw_tbl[1182]? = some (.code (am_y 140) prog_11_method_33_code 5 (Option.some Jvm.ClassFile.FieldType.int)) := rfl
set_option maxRecDepth 100000 in
theorem am_cw141 : lw_tbl[1178]? = some (.code (am_y 141) prog_11_method_34_code 5 (Option.none : Option Jvm.ClassFile.FieldType)) := rfl
set_option maxRecDepth 100000 in
theorem am_cw142 : lw_tbl[1174]? = some (.code (am_y 142) prog_11_method_35_code 2 (Option.none : Option Jvm.ClassFile.FieldType)) := rfl
set_option maxRecDepth 100000 in
theorem am_cw143 : lw_tbl[1060]? = some (.code (am_y 143) prog_11_method_36_code 3 (Option.some Jvm.ClassFile.FieldType.int)) := rfl
set_option maxRecDepth 100000 in
theorem am_cw144 : lw_tbl[1068]? = some (.code (am_y 144) prog_11_method_37_code 3 (Option.some Jvm.ClassFile.FieldType.int)) := rfl
set_option maxRecDepth 100000 in
theorem am_cw145 : lw_tbl[1091]? = some (.code (am_y 145) prog_11_method_38_code 3 (Option.some Jvm.ClassFile.FieldType.int)) := rfl
set_option maxRecDepth 100000 in
theorem am_cw146 : lw_tbl[1103]? = some (.code (am_y 146) prog_11_method_39_code 4 (Option.some Jvm.ClassFile.FieldType.int)) := rfl
set_option maxRecDepth 100000 in
theorem am_cw147 : lw_tbl[1111]? = some (.code (am_y 147) prog_11_method_40_code 5 (Option.some Jvm.ClassFile.FieldType.int)) := rfl
set_option maxRecDepth 100000 in
theorem am_cw148 : lw_tbl[1107]? = some (.code (am_y 148) prog_11_method_41_code 2 (Option.some Jvm.ClassFile.FieldType.int)) := rfl
set_option maxRecDepth 100000 in
theorem am_cw149 : lw_tbl[1198]? = some (.code (am_y 149) prog_11_method_42_code 5 (Option.some Jvm.ClassFile.FieldType.int)) := rfl
set_option maxRecDepth 100000 in
theorem am_cw150 : lw_tbl[1115]? = some (.code (am_y 150) prog_11_method_43_code 5 (Option.some Jvm.ClassFile.FieldType.int)) := rfl
set_option maxRecDepth 100000 in
theorem am_cw151 : lw_tbl[1120]? = some (.code (am_y 151) prog_11_method_44_code 3 (Option.some Jvm.ClassFile.FieldType.int)) := rfl
set_option maxRecDepth 100000 in
theorem am_cw152 : lw_tbl[1125]? = some (.code (am_y 152) prog_11_method_45_code 3 (Option.some Jvm.ClassFile.FieldType.int)) := rfl
set_option maxRecDepth 100000 in
theorem am_cw153 : lw_tbl[1134]? = some (.code (am_y 153) prog_11_method_46_code 3 (Option.some Jvm.ClassFile.FieldType.boolean)) := rfl
set_option maxRecDepth 100000 in
theorem am_cw154 : lw_tbl[1162]? = some (.code (am_y 154) prog_11_method_47_code 3 (Option.none : Option Jvm.ClassFile.FieldType)) := rfl
set_option maxRecDepth 100000 in
theorem am_cw155 : lw_tbl[1138]? = some (.code (am_y 155) prog_11_method_48_code 4 (Option.some Jvm.ClassFile.FieldType.boolean)) := rfl
set_option maxRecDepth 100000 in
theorem am_cw156 : lw_tbl[1206]? = some (.code (am_y 156) prog_11_method_49_code 5 (Option.some Jvm.ClassFile.FieldType.int)) := rfl
set_option maxRecDepth 100000 in
theorem am_cw157 : lw_tbl[1130]? = some (.code (am_y 157) prog_11_method_50_code 3 (Option.some Jvm.ClassFile.FieldType.int)) := rfl
set_option maxRecDepth 100000 in
theorem am_cw158 : lw_tbl[1166]? = some (.code (am_y 158) prog_11_method_51_code 3 (Option.some Jvm.ClassFile.FieldType.int)) := rfl
set_option maxRecDepth 100000 in
theorem am_cw159 : lw_tbl[1170]? = some (.code (am_y 159) prog_11_method_52_code 3 (Option.some Jvm.ClassFile.FieldType.int)) := rfl
set_option maxRecDepth 100000 in
theorem am_cw160 : lw_tbl[1190]? = some (.code (am_y 160) prog_11_method_53_code 2 (Option.some Jvm.ClassFile.FieldType.int)) := rfl
set_option maxRecDepth 100000 in
theorem am_cw161 : lw_tbl[1194]? = some (.code (am_y 161) prog_11_method_54_code 2 (Option.some Jvm.ClassFile.FieldType.int)) := rfl
set_option maxRecDepth 100000 in
theorem am_cw162 : lw_tbl[1202]? = some (.code (am_y 162) prog_11_method_55_code 2 (Option.some Jvm.ClassFile.FieldType.int)) := rfl
set_option maxRecDepth 100000 in
theorem am_cw163 : lw_tbl[1210]? = some (.code (am_y 163) prog_11_method_56_code 2 (Option.some Jvm.ClassFile.FieldType.int)) := rfl
set_option maxRecDepth 100000 in
theorem am_cw164 : lw_tbl[1214]? = some (.code (am_y 164) prog_11_method_57_code 3 (Option.some Jvm.ClassFile.FieldType.int)) := rfl
set_option maxRecDepth 100000 in
theorem am_cw165 : lw_tbl[1218]? = some (.code (am_y 165) prog_11_method_58_code 3 (Option.some Jvm.ClassFile.FieldType.int)) := rfl
set_option maxRecDepth 100000 in
theorem am_cw166 : lw_tbl[1226]? = some (.code (am_y 166) prog_11_method_59_code 6 (Option.some Jvm.ClassFile.FieldType.boolean)) := rfl
set_option maxRecDepth 100000 in
theorem am_cw167 : lw_tbl[1222]? = some (.code (am_y 167) prog_11_method_60_code 5 (Option.some Jvm.ClassFile.FieldType.int)) := rfl
set_option maxRecDepth 100000 in
theorem am_cw168 : lw_tbl[1234]? = some (.code (am_y 168) prog_11_method_61_code 3 (Option.some Jvm.ClassFile.FieldType.boolean)) := rfl
set_option maxRecDepth 100000 in
theorem am_cw169 : lw_tbl[1230]? = some (.code (am_y 169) prog_11_method_62_code 3 (Option.some Jvm.ClassFile.FieldType.int)) := rfl
set_option maxRecDepth 100000 in
theorem am_cw170 : lw_tbl[1238]? = some (.code (am_y 170) prog_11_method_63_code 4 (Option.some Jvm.ClassFile.FieldType.int)) := rfl
set_option maxRecDepth 100000 in
theorem am_cw171 : lw_tbl[1142]? = some (.code (am_y 171) prog_11_method_64_code 4 (Option.some Jvm.ClassFile.FieldType.int)) := rfl
set_option maxRecDepth 100000 in
theorem am_cw172 : lw_tbl[1242]? = some (.code (am_y 172) prog_11_method_65_code 7 (Option.some Jvm.ClassFile.FieldType.int)) := rfl
set_option maxRecDepth 100000 in
theorem am_cw173 : lw_tbl[1246]? = some (.code (am_y 173) prog_11_method_66_code 5 (Option.some Jvm.ClassFile.FieldType.int)) := rfl
set_option maxRecDepth 100000 in
theorem am_cw174 : lw_tbl[1250]? = some (.code (am_y 174) prog_11_method_67_code 2 (Option.some Jvm.ClassFile.FieldType.int)) := rfl
set_option maxRecDepth 100000 in
theorem am_cw175 : lw_tbl[1258]? = some (.code (am_y 175) prog_11_method_68_code 4 (Option.some Jvm.ClassFile.FieldType.boolean)) := rfl
set_option maxRecDepth 100000 in
theorem am_cw176 : lw_tbl[1254]? = some (.code (am_y 176) prog_11_method_69_code 5 (Option.some Jvm.ClassFile.FieldType.int)) := rfl
set_option maxRecDepth 100000 in
theorem am_cw177 : lw_tbl[1262]? = some (.code (am_y 177) prog_11_method_70_code 4 (Option.some Jvm.ClassFile.FieldType.int)) := rfl
set_option maxRecDepth 100000 in
theorem am_cw178 : lw_tbl[1266]? = some (.code (am_y 178) prog_11_method_71_code 4 (Option.some Jvm.ClassFile.FieldType.int)) := rfl
set_option maxRecDepth 100000 in
theorem am_cw179 : lw_tbl[1274]? = some (.code (am_y 179) prog_11_method_72_code 3 (Option.some Jvm.ClassFile.FieldType.int)) := rfl
set_option maxRecDepth 100000 in
theorem am_cw180 : lw_tbl[1270]? = some (.code (am_y 180) prog_11_method_73_code 2 (Option.some Jvm.ClassFile.FieldType.int)) := rfl
set_option maxRecDepth 100000 in
theorem am_cw181 : lw_tbl[808]? = some (.code (am_y 181) prog_12_method_49_code 1 (Option.some Jvm.ClassFile.FieldType.int)) := rfl
set_option maxRecDepth 100000 in
theorem am_cw182 : lw_tbl[740]? = some (.code (am_y 182) prog_13_method_65_code 2 (Option.some Jvm.ClassFile.FieldType.int)) := rfl
set_option maxRecDepth 100000 in
theorem am_cw183 : lw_tbl[427]? = some (.code (am_y 183) prog_14_method_54_code 1 (Option.some Jvm.ClassFile.FieldType.int)) := rfl
set_option maxRecDepth 100000 in
theorem am_cw184 : lw_tbl[437]? = some (.code (am_y 184) prog_14_method_56_code 2 (Option.some Jvm.ClassFile.FieldType.char)) := rfl
set_option maxRecDepth 100000 in
theorem am_cw185 : lw_tbl[431]? = some (.code (am_y 185) prog_14_method_152_code 1 (Option.some Jvm.ClassFile.FieldType.byte)) := rfl
set_option maxRecDepth 100000 in
theorem am_cw186 : lw_tbl[441]? = some (.code (am_y 186) prog_14_method_154_code 1 (Option.some Jvm.ClassFile.FieldType.boolean)) := rfl
set_option maxRecDepth 100000 in
theorem am_cw187 : lw_tbl[447]? = some (.code (am_y 187) prog_14_method_155_code 2 (Option.none : Option Jvm.ClassFile.FieldType)) := rfl
set_option maxRecDepth 100000 in
theorem am_cw188 : lw_tbl[444]? = some (.code (am_y 188) prog_15_method_2_code 2 (Option.some Jvm.ClassFile.FieldType.char)) := rfl
set_option maxRecDepth 100000 in
theorem am_cw189 : lw_tbl[452]? = some (.code (am_y 189) prog_17_method_11_code 3 (Option.some Jvm.ClassFile.FieldType.int)) := rfl
set_option maxRecDepth 100000 in
theorem am_inis : (List.range 16).all (fun i => am_wi (am_pi i) (.initialized (am_cn i))) = true := by decide +kernel
def am_cmP (o : Nat) (e : Nat × (Nat × Nat × Nat)) : Bool := match am_lk (am_pmT o) e.1 with
  | none => false
  | some (p1, p2, p3) => match e.2.1 with
    | 0 => am_wi p1 (.methodLink (am_cn o) e.1 (am_y e.2.2.1)) && am_wi p2 (.instanceMethod (am_y e.2.2.1)) && am_wi p3 (.selects (am_y e.2.2.1).cls (am_y e.2.2.1) (am_y e.2.2.1))
    | 1 => am_wi p1 (.methodLink (am_cn o) e.1 (am_y e.2.2.1)) && am_wi p2 (.static (am_y e.2.2.1))
    | 2 => am_wi p1 (.methodLink (am_cn o) e.1 (am_y e.2.2.1)) && am_wi p2 (.instanceMethod (am_y e.2.2.1)) && decide ((am_y e.2.2.1).name = "<init>") && decide (am_rt e.2.2.1 = none)
    | 3 => am_wi p1 (.methodLinkNest (am_cn o) e.1 (am_y e.2.2.1) "MixedRules") && am_wi p2 (.static (am_y e.2.2.1))
    | 4 => am_wi p1 (.methodLinkNest (am_cn o) e.1 (am_y e.2.2.1) "MixedRules") && am_wi p2 (.instanceMethod (am_y e.2.2.1)) && decide ((am_y e.2.2.1).name = "<init>") && decide (am_rt e.2.2.1 = none)
    | 5 => am_wi p1 (.methodLink (am_cn o) e.1 Lib.objectInit) && am_wi p2 (.instanceMethod Lib.objectInit) && am_wi p3 (.code Lib.objectInit ⟨#[0xb1]⟩ 1 none)
    | _ => false
def am_cmQ (e : Nat × (Nat × Nat × Nat)) : Bool := match e.2.1 with
  | 5 => true
  | kd => Nat.blt e.2.2.1 191 && decide ((parseMethodDescriptor (am_y e.2.2.1).desc).map (fun d => d.parameters.length) = some (match kd with | 1 => e.2.2.2 | 3 => e.2.2.2 | _ => e.2.2.2 - 1)) && (match kd with | 1 => true | 3 => true | _ => Nat.ble 1 e.2.2.2)
set_option maxRecDepth 100000 in
theorem am_cm_ok0 : (am_cmT 0).all (fun e => am_cmP 0 e && am_cmQ e) = true := by decide +kernel
set_option maxRecDepth 100000 in
theorem am_cm_ok1 : (am_cmT 1).all (fun e => am_cmP 1 e && am_cmQ e) = true := by decide +kernel
set_option maxRecDepth 100000 in
theorem am_cm_ok2 : (am_cmT 2).all (fun e => am_cmP 2 e && am_cmQ e) = true := by decide +kernel
set_option maxRecDepth 100000 in
theorem am_cm_ok3 : (am_cmT 3).all (fun e => am_cmP 3 e && am_cmQ e) = true := by decide +kernel
set_option maxRecDepth 100000 in
theorem am_cm_ok4 : (am_cmT 4).all (fun e => am_cmP 4 e && am_cmQ e) = true := by decide +kernel
set_option maxRecDepth 100000 in
theorem am_cm_ok5 : (am_cmT 5).all (fun e => am_cmP 5 e && am_cmQ e) = true := by decide +kernel
set_option maxRecDepth 100000 in
theorem am_cm_ok6 : (am_cmT 6).all (fun e => am_cmP 6 e && am_cmQ e) = true := by decide +kernel
set_option maxRecDepth 100000 in
theorem am_cm_ok7 : (am_cmT 7).all (fun e => am_cmP 7 e && am_cmQ e) = true := by decide +kernel
set_option maxRecDepth 100000 in
theorem am_cm_ok8 : (am_cmT 8).all (fun e => am_cmP 8 e && am_cmQ e) = true := by decide +kernel
set_option maxRecDepth 100000 in
theorem am_cm_ok9 : (am_cmT 9).all (fun e => am_cmP 9 e && am_cmQ e) = true := by decide +kernel
set_option maxRecDepth 100000 in
theorem am_cm_ok12 : (am_cmT 12).all (fun e => am_cmP 12 e && am_cmQ e) = true := by decide +kernel
set_option maxRecDepth 100000 in
theorem am_cm_ok13 : (am_cmT 13).all (fun e => am_cmP 13 e && am_cmQ e) = true := by decide +kernel
set_option maxRecDepth 100000 in
theorem am_cm_ok14 : (am_cmT 14).all (fun e => am_cmP 14 e && am_cmQ e) = true := by decide +kernel
def am_cfP (o : Nat) (e : Nat × (Nat × Nat)) (n : String × String) : Bool := match am_lk (am_pfT o) e.1 with
  | none => false
  | some p => am_wi p (.fieldLink (am_cn o) e.1 (am_cn e.2.1) n.1 n.2)
def am_cl0 : List vw_C := [(RX0, TX0, 11), (RX1, TX1, 3), (RX2, TX2, 8), (RX3, TX3, 7), (RX4, TX4, 5), (RX5, TX5, 4), (RX6, TX6, 8), (RX7, TX7, 11), (RX8, TX8, 5), (RX9, TX9, 41)]
def am_fn (ci f : Nat) : String × String := match ci with
  | 0 => ((TX0 f).2.1, (TX0 f).2.2.1)
  | 1 => ((TX1 f).2.1, (TX1 f).2.2.1)
  | 2 => ((TX2 f).2.1, (TX2 f).2.2.1)
  | 3 => ((TX3 f).2.1, (TX3 f).2.2.1)
  | 4 => ((TX4 f).2.1, (TX4 f).2.2.1)
  | 5 => ((TX5 f).2.1, (TX5 f).2.2.1)
  | 6 => ((TX6 f).2.1, (TX6 f).2.2.1)
  | 7 => ((TX7 f).2.1, (TX7 f).2.2.1)
  | 8 => ((TX8 f).2.1, (TX8 f).2.2.1)
  | 9 => ((TX9 f).2.1, (TX9 f).2.2.1)
  | _ => match f with
    | 0 => ("value", "[B")
    | _ => ("coder", "B")
def am_nf (k : Nat) : Nat := match k with
  | 0 => 11
  | 1 => 3
  | 2 => 8
  | 3 => 7
  | 4 => 5
  | 5 => 4
  | 6 => 8
  | 7 => 11
  | 8 => 5
  | 9 => 41
  | 12 => 2
  | _ => 0
set_option maxRecDepth 100000 in
theorem am_cf_ok0 : (am_cfT 0).all (fun e => am_cfP 0 e (am_fn e.2.1 e.2.2) && Nat.blt e.2.2 (am_nf e.2.1)) = true := by decide +kernel
set_option maxRecDepth 100000 in
theorem am_cf_ok1 : (am_cfT 1).all (fun e => am_cfP 1 e (am_fn e.2.1 e.2.2) && Nat.blt e.2.2 (am_nf e.2.1)) = true := by decide +kernel
set_option maxRecDepth 100000 in
theorem am_cf_ok2 : (am_cfT 2).all (fun e => am_cfP 2 e (am_fn e.2.1 e.2.2) && Nat.blt e.2.2 (am_nf e.2.1)) = true := by decide +kernel
set_option maxRecDepth 100000 in
theorem am_cf_ok3 : (am_cfT 3).all (fun e => am_cfP 3 e (am_fn e.2.1 e.2.2) && Nat.blt e.2.2 (am_nf e.2.1)) = true := by decide +kernel
set_option maxRecDepth 100000 in
theorem am_cf_ok4 : (am_cfT 4).all (fun e => am_cfP 4 e (am_fn e.2.1 e.2.2) && Nat.blt e.2.2 (am_nf e.2.1)) = true := by decide +kernel
set_option maxRecDepth 100000 in
theorem am_cf_ok5 : (am_cfT 5).all (fun e => am_cfP 5 e (am_fn e.2.1 e.2.2) && Nat.blt e.2.2 (am_nf e.2.1)) = true := by decide +kernel
set_option maxRecDepth 100000 in
theorem am_cf_ok6 : (am_cfT 6).all (fun e => am_cfP 6 e (am_fn e.2.1 e.2.2) && Nat.blt e.2.2 (am_nf e.2.1)) = true := by decide +kernel
set_option maxRecDepth 100000 in
theorem am_cf_ok7 : (am_cfT 7).all (fun e => am_cfP 7 e (am_fn e.2.1 e.2.2) && Nat.blt e.2.2 (am_nf e.2.1)) = true := by decide +kernel
set_option maxRecDepth 100000 in
theorem am_cf_ok8 : (am_cfT 8).all (fun e => am_cfP 8 e (am_fn e.2.1 e.2.2) && Nat.blt e.2.2 (am_nf e.2.1)) = true := by decide +kernel
set_option maxRecDepth 100000 in
theorem am_cf_ok9 : (am_cfT 9).all (fun e => am_cfP 9 e (am_fn e.2.1 e.2.2) && Nat.blt e.2.2 (am_nf e.2.1)) = true := by decide +kernel
set_option maxRecDepth 100000 in
theorem am_cf_ok12 : (am_cfT 12).all (fun e => am_cfP 12 e (am_fn e.2.1 e.2.2) && Nat.blt e.2.2 (am_nf e.2.1)) = true := by decide +kernel
set_option maxRecDepth 100000 in
theorem am_cc_ok1 : (am_ccT 1).all (fun e => match am_lk (am_pcT 1) e.1 with | none => false | some p => am_wi p (.classLink (am_cn 1) e.1 (am_cn e.2))) = true := by decide +kernel
set_option maxRecDepth 100000 in
theorem am_cc_ok3 : (am_ccT 3).all (fun e => match am_lk (am_pcT 3) e.1 with | none => false | some p => am_wi p (.classLink (am_cn 3) e.1 (am_cn e.2))) = true := by decide +kernel
set_option maxRecDepth 100000 in
theorem am_cc_ok4 : (am_ccT 4).all (fun e => match am_lk (am_pcT 4) e.1 with | none => false | some p => am_wi p (.classLink (am_cn 4) e.1 (am_cn e.2))) = true := by decide +kernel
set_option maxRecDepth 100000 in
theorem am_cc_ok8 : (am_ccT 8).all (fun e => match am_lk (am_pcT 8) e.1 with | none => false | some p => am_wi p (.classLink (am_cn 8) e.1 (am_cn e.2))) = true := by decide +kernel
set_option maxRecDepth 100000 in
theorem am_cc_ok14 : (am_ccT 14).all (fun e => match am_lk (am_pcT 14) e.1 with | none => false | some p => am_wi p (.classLink (am_cn 14) e.1 (am_cn e.2))) = true := by decide +kernel
def am_pyT (k : Nat) : List Nat := match k with
  | 0 => [112, 114, 116, 118, 120, 122, 124, 126, 128, 130, 132]
  | 1 => [192, 194, 196]
  | 2 => [258, 260, 262, 264, 266, 268, 270, 272]
  | 3 => [287, 289, 291, 293, 295, 297, 299]
  | 4 => [147, 149, 151, 153, 155]
  | 5 => [179, 181, 183, 185]
  | 6 => [213, 215, 217, 219, 221, 223, 225, 227]
  | 7 => [321, 323, 325, 327, 329, 331, 333, 335, 337, 339, 341]
  | 8 => [349, 351, 353, 355, 357]
  | 9 => [912, 914, 916, 918, 920, 922, 924, 926, 928, 930, 932, 934, 936, 938, 940, 942, 944, 946, 948, 950, 952, 954, 956, 958, 960, 962, 964, 966, 968, 970, 972, 974, 976, 978, 980, 982, 984, 986, 988, 990, 992]
  | _ => []
set_option maxRecDepth 100000 in
theorem am_py0 : (List.range 11).all (fun k => am_wi ((am_pyT 0).getD k 0) (u_lay RX0 TX0 k) && goodWord (u_lay RX0 TX0 k)) = true := by decide +kernel
set_option maxRecDepth 100000 in
theorem am_fl0 : (List.range 11).all (fun k => decide (am_ff 0 k = (TX0 k).2.2.2 ∧ (TX0 k).1 = am_cn 0)) = true := by decide +kernel
set_option maxRecDepth 100000 in
theorem am_py1 : (List.range 3).all (fun k => am_wi ((am_pyT 1).getD k 0) (u_lay RX1 TX1 k) && goodWord (u_lay RX1 TX1 k)) = true := by decide +kernel
set_option maxRecDepth 100000 in
theorem am_fl1 : (List.range 3).all (fun k => decide (am_ff 1 k = (TX1 k).2.2.2 ∧ (TX1 k).1 = am_cn 1)) = true := by decide +kernel
set_option maxRecDepth 100000 in
theorem am_py2 : (List.range 8).all (fun k => am_wi ((am_pyT 2).getD k 0) (u_lay RX2 TX2 k) && goodWord (u_lay RX2 TX2 k)) = true := by decide +kernel
set_option maxRecDepth 100000 in
theorem am_fl2 : (List.range 8).all (fun k => decide (am_ff 2 k = (TX2 k).2.2.2 ∧ (TX2 k).1 = am_cn 2)) = true := by decide +kernel
set_option maxRecDepth 100000 in
theorem am_py3 : (List.range 7).all (fun k => am_wi ((am_pyT 3).getD k 0) (u_lay RX3 TX3 k) && goodWord (u_lay RX3 TX3 k)) = true := by decide +kernel
set_option maxRecDepth 100000 in
theorem am_fl3 : (List.range 7).all (fun k => decide (am_ff 3 k = (TX3 k).2.2.2 ∧ (TX3 k).1 = am_cn 3)) = true := by decide +kernel
set_option maxRecDepth 100000 in
theorem am_py4 : (List.range 5).all (fun k => am_wi ((am_pyT 4).getD k 0) (u_lay RX4 TX4 k) && goodWord (u_lay RX4 TX4 k)) = true := by decide +kernel
set_option maxRecDepth 100000 in
theorem am_fl4 : (List.range 5).all (fun k => decide (am_ff 4 k = (TX4 k).2.2.2 ∧ (TX4 k).1 = am_cn 4)) = true := by decide +kernel
set_option maxRecDepth 100000 in
theorem am_py5 : (List.range 4).all (fun k => am_wi ((am_pyT 5).getD k 0) (u_lay RX5 TX5 k) && goodWord (u_lay RX5 TX5 k)) = true := by decide +kernel
set_option maxRecDepth 100000 in
theorem am_fl5 : (List.range 4).all (fun k => decide (am_ff 5 k = (TX5 k).2.2.2 ∧ (TX5 k).1 = am_cn 5)) = true := by decide +kernel
set_option maxRecDepth 100000 in
theorem am_py6 : (List.range 8).all (fun k => am_wi ((am_pyT 6).getD k 0) (u_lay RX6 TX6 k) && goodWord (u_lay RX6 TX6 k)) = true := by decide +kernel
set_option maxRecDepth 100000 in
theorem am_fl6 : (List.range 8).all (fun k => decide (am_ff 6 k = (TX6 k).2.2.2 ∧ (TX6 k).1 = am_cn 6)) = true := by decide +kernel
set_option maxRecDepth 100000 in
theorem am_py7 : (List.range 11).all (fun k => am_wi ((am_pyT 7).getD k 0) (u_lay RX7 TX7 k) && goodWord (u_lay RX7 TX7 k)) = true := by decide +kernel
set_option maxRecDepth 100000 in
theorem am_fl7 : (List.range 11).all (fun k => decide (am_ff 7 k = (TX7 k).2.2.2 ∧ (TX7 k).1 = am_cn 7)) = true := by decide +kernel
set_option maxRecDepth 100000 in
theorem am_py8 : (List.range 5).all (fun k => am_wi ((am_pyT 8).getD k 0) (u_lay RX8 TX8 k) && goodWord (u_lay RX8 TX8 k)) = true := by decide +kernel
set_option maxRecDepth 100000 in
theorem am_fl8 : (List.range 5).all (fun k => decide (am_ff 8 k = (TX8 k).2.2.2 ∧ (TX8 k).1 = am_cn 8)) = true := by decide +kernel
set_option maxRecDepth 100000 in
theorem am_py9 : (List.range 41).all (fun k => am_wi ((am_pyT 9).getD k 0) (u_lay RX9 TX9 k) && goodWord (u_lay RX9 TX9 k)) = true := by decide +kernel
set_option maxRecDepth 100000 in
theorem am_fl9 : (List.range 41).all (fun k => decide (am_ff 9 k = (TX9 k).2.2.2 ∧ (TX9 k).1 = am_cn 9)) = true := by decide +kernel
def am_pn (k : Nat) : Nat := match k with
  | 0 => 68
  | 1 => 159
  | 2 => 239
  | 3 => 232
  | 4 => 61
  | 5 => 165
  | 6 => 200
  | 7 => 303
  | 8 => 53
  | 9 => 858
  | _ => 0
set_option maxRecDepth 100000 in
theorem am_insts : (List.range 10).all (fun i => am_wi (am_pn i) (.instantiable (am_cn i) (am_nf i))) = true := by decide +kernel
set_option maxRecDepth 100000 in
theorem am_ck_ok7 : (am_ckT 7).all (fun e => match e.2 with | .inr _ => true | .inl x => match am_lk (am_pkT 7) e.1 with | none => false | some p => am_wi p (.constant (am_cn 7) e.1 x)) = true := by decide +kernel
set_option maxRecDepth 100000 in
theorem am_ck_ok10 : (am_ckT 10).all (fun e => match e.2 with | .inr _ => true | .inl x => match am_lk (am_pkT 10) e.1 with | none => false | some p => am_wi p (.constant (am_cn 10) e.1 x)) = true := by decide +kernel
set_option maxRecDepth 100000 in
theorem am_cl_ok9 : (am_clT 9).all (fun e => match am_lk (am_plT 9) e.1 with | none => false | some p => am_wi p (.constantLong (am_cn 9) e.1 e.2)) = true := by decide +kernel
theorem am_gs8 : am_wi 833 (.fieldLink (am_cn 8) 210 "MixedRules" "ORDERS" "[I") = true := by decide +kernel
theorem am_gs12_38 : am_wi 432 (.fieldLink (am_cn 12) 38 "java/lang/String" "COMPACT_STRINGS" "Z") = true := by decide +kernel
theorem am_gs12_1053 : am_wi 448 (.fieldLink (am_cn 12) 1053 "jdk/internal/util/Preconditions" "SIOOBE_FORMATTER" "Ljava/util/function/BiFunction;") = true := by decide +kernel
def am_len (i : Instr) : Nat := match i with
  | .tableswitch _ _ _ _ => 0
  | .bipush _ => 2
  | .sipush _ => 3
  | .iload _ => 2
  | .aload _ => 2
  | .lload _ => 2
  | .istore _ => 2
  | .astore _ => 2
  | .iinc _ _ => 3
  | .ldc _ => 2
  | .ldc_w _ => 3
  | .ldc2_w _ => 3
  | .getstatic _ => 3
  | .goto _ => 3
  | .ifCond _ _ => 3
  | .if_icmp _ _ => 3
  | .ifnull _ => 3
  | .ifnonnull _ => 3
  | .getfield _ => 3
  | .putfield _ => 3
  | .new _ => 3
  | .newarray _ => 2
  | .anewarray _ => 3
  | .invokevirtual _ => 3
  | .invokestatic _ => 3
  | .invokespecial _ => 3
  | _ => 1
def am_lk1 (i : Instr) (n : Nat) : Bool := match am_len i with
  | 0 => true
  | k => Nat.beq k n
set_option maxRecDepth 100000 in
theorem am_lens0 : (List.range 191).all (fun m => (am_tb m).all (fun r => r.all (fun o => match o with
  | some x => am_lk1 x.1 x.2
  | none => true))) = true := by decide +kernel
theorem am_lens {m pc : Nat} {i : Instr} {n : Nat} (hm : m < 191) (h : am_at m pc = some (i, n)) : am_lk1 i n = true := by
  have h0 := List.all_eq_true.mp am_lens0 m (List.mem_range.mpr hm)
  unfold am_at at h
  rw [List.getD_eq_getElem?_getD, List.getD_eq_getElem?_getD] at h
  cases h1 : (am_tb m)[pc / 16]? with
  | none => rw [h1] at h; simp at h
  | some r =>
    rw [h1] at h
    simp only [Option.getD_some] at h
    cases h2 : r[pc % 16]? with
    | none => rw [h2] at h; simp at h
    | some o =>
      rw [h2] at h
      simp only [Option.getD_some] at h
      subst h
      have h3 := List.all_eq_true.mp h0 r (List.mem_of_getElem? h1)
      exact List.all_eq_true.mp h3 _ (List.mem_of_getElem? h2)
set_option maxRecDepth 100000 in
theorem am_iis : (List.range 191).all (fun m => !(am_ii m) || decide ((am_y m).name = "<init>")) = true := by decide +kernel
set_option maxRecDepth 100000 in
theorem am_nolaw : (List.range 16).all (fun o => (am_cmT o).all (fun e => Nat.blt e.2.2.1 190)) = true := by decide +kernel
def am_jk (pc : Nat) (i : Instr) : Bool := match i with
  | .ifCond _ o => decide (0 ≤ (pc : Int) + o)
  | .if_icmp _ o => decide (0 ≤ (pc : Int) + o)
  | .ifnull o => decide (0 ≤ (pc : Int) + o)
  | .ifnonnull o => decide (0 ≤ (pc : Int) + o)
  | .tableswitch d _ _ offs => decide (0 ≤ (pc : Int) + d) && offs.toList.all (fun o => decide (0 ≤ (pc : Int) + o))
  | _ => true
set_option maxRecDepth 100000 in
theorem am_jks0 : (List.range 191).all (fun m => (List.range (16 * (am_tb m).length)).all (fun pc => match am_at m pc with
  | some x => am_jk pc x.1
  | none => true)) = true := by decide +kernel
theorem am_jks {m pc : Nat} {i : Instr} {n : Nat} (hm : m < 191) (h : am_at m pc = some (i, n)) : am_jk pc i = true := by
  have h0 := List.all_eq_true.mp am_jks0 m (List.mem_range.mpr hm)
  by_cases hp : pc < 16 * (am_tb m).length
  · have h1 := List.all_eq_true.mp h0 pc (List.mem_range.mpr hp)
    simp only [h] at h1
    exact h1
  · exfalso
    have h2 : (am_tb m).length ≤ pc / 16 := by omega
    unfold am_at at h
    rw [List.getD_eq_getElem?_getD, List.getD_eq_getElem?_getD, List.getElem?_eq_none h2] at h
    simp at h
set_option maxRecDepth 100000 in
theorem am_yok0 : (List.range 191).all (fun c => decide ((am_y c).cls = am_cn (am_ow c) ∧ (am_y c).cls ≠ "java/lang/invoke/MethodHandle" ∧ (am_y c).cls ≠ "java/lang/invoke/VarHandle" ∧ am_ml c ≤ 19 ∧ plainFor (am_y c) = true ∧ am_ow c < 16)) = true := by decide +kernel
theorem am_yok {c : Nat} (h : c < 191) : (am_y c).cls = am_cn (am_ow c) ∧ (am_y c).cls ≠ "java/lang/invoke/MethodHandle" ∧ (am_y c).cls ≠ "java/lang/invoke/VarHandle" ∧ am_ml c ≤ 19 ∧ plainFor (am_y c) = true ∧ am_ow c < 16 := of_decide_eq_true (List.all_eq_true.mp am_yok0 c (List.mem_range.mpr h))
theorem am_cwF {c : Nat} (h : c < 190) : Cond.code (am_y c) (am_by c) (am_ml c) (am_rt c) ∈ lw_tbl := by
  match c, h with
  | 0, _ => exact List.mem_of_getElem? am_cw0
  | 1, _ => exact List.mem_of_getElem? am_cw1
  | 2, _ => exact List.mem_of_getElem? am_cw2
  | 3, _ => exact List.mem_of_getElem? am_cw3
  | 4, _ => exact List.mem_of_getElem? am_cw4
  | 5, _ => exact List.mem_of_getElem? am_cw5
  | 6, _ => exact List.mem_of_getElem? am_cw6
  | 7, _ => exact List.mem_of_getElem? am_cw7
  | 8, _ => exact List.mem_of_getElem? am_cw8
  | 9, _ => exact List.mem_of_getElem? am_cw9
  | 10, _ => exact List.mem_of_getElem? am_cw10
  | 11, _ => exact List.mem_of_getElem? am_cw11
  | 12, _ => exact List.mem_of_getElem? am_cw12
  | 13, _ => exact List.mem_of_getElem? am_cw13
  | 14, _ => exact List.mem_of_getElem? am_cw14
  | 15, _ => exact List.mem_of_getElem? am_cw15
  | 16, _ => exact List.mem_of_getElem? am_cw16
  | 17, _ => exact List.mem_of_getElem? am_cw17
  | 18, _ => exact List.mem_of_getElem? am_cw18
  | 19, _ => exact List.mem_of_getElem? am_cw19
  | 20, _ => exact List.mem_of_getElem? am_cw20
  | 21, _ => exact List.mem_of_getElem? am_cw21
  | 22, _ => exact List.mem_of_getElem? am_cw22
  | 23, _ => exact List.mem_of_getElem? am_cw23
  | 24, _ => exact List.mem_of_getElem? am_cw24
  | 25, _ => exact List.mem_of_getElem? am_cw25
  | 26, _ => exact List.mem_of_getElem? am_cw26
  | 27, _ => exact List.mem_of_getElem? am_cw27
  | 28, _ => exact List.mem_of_getElem? am_cw28
  | 29, _ => exact List.mem_of_getElem? am_cw29
  | 30, _ => exact List.mem_of_getElem? am_cw30
  | 31, _ => exact List.mem_of_getElem? am_cw31
  | 32, _ => exact List.mem_of_getElem? am_cw32
  | 33, _ => exact List.mem_of_getElem? am_cw33
  | 34, _ => exact List.mem_of_getElem? am_cw34
  | 35, _ => exact List.mem_of_getElem? am_cw35
  | 36, _ => exact List.mem_of_getElem? am_cw36
  | 37, _ => exact List.mem_of_getElem? am_cw37
  | 38, _ => exact List.mem_of_getElem? am_cw38
  | 39, _ => exact List.mem_of_getElem? am_cw39
  | 40, _ => exact List.mem_of_getElem? am_cw40
  | 41, _ => exact List.mem_of_getElem? am_cw41
  | 42, _ => exact List.mem_of_getElem? am_cw42
  | 43, _ => exact List.mem_of_getElem? am_cw43
  | 44, _ => exact List.mem_of_getElem? am_cw44
  | 45, _ => exact List.mem_of_getElem? am_cw45
  | 46, _ => exact List.mem_of_getElem? am_cw46
  | 47, _ => exact List.mem_of_getElem? am_cw47
  | 48, _ => exact List.mem_of_getElem? am_cw48
  | 49, _ => exact List.mem_of_getElem? am_cw49
  | 50, _ => exact List.mem_of_getElem? am_cw50
  | 51, _ => exact List.mem_of_getElem? am_cw51
  | 52, _ => exact List.mem_of_getElem? am_cw52
  | 53, _ => exact List.mem_of_getElem? am_cw53
  | 54, _ => exact List.mem_of_getElem? am_cw54
  | 55, _ => exact List.mem_of_getElem? am_cw55
  | 56, _ => exact List.mem_of_getElem? am_cw56
  | 57, _ => exact List.mem_of_getElem? am_cw57
  | 58, _ => exact List.mem_of_getElem? am_cw58
  | 59, _ => exact List.mem_of_getElem? am_cw59
  | 60, _ => exact List.mem_of_getElem? am_cw60
  | 61, _ => exact List.mem_of_getElem? am_cw61
  | 62, _ => exact List.mem_of_getElem? am_cw62
  | 63, _ => exact List.mem_of_getElem? am_cw63
  | 64, _ => exact List.mem_of_getElem? am_cw64
  | 65, _ => exact List.mem_of_getElem? am_cw65
  | 66, _ => exact List.mem_of_getElem? am_cw66
  | 67, _ => exact List.mem_of_getElem? am_cw67
  | 68, _ => exact List.mem_of_getElem? am_cw68
  | 69, _ => exact List.mem_of_getElem? am_cw69
  | 70, _ => exact List.mem_of_getElem? am_cw70
  | 71, _ => exact List.mem_of_getElem? am_cw71
  | 72, _ => exact List.mem_of_getElem? am_cw72
  | 73, _ => exact List.mem_of_getElem? am_cw73
  | 74, _ => exact List.mem_of_getElem? am_cw74
  | 75, _ => exact List.mem_of_getElem? am_cw75
  | 76, _ => exact List.mem_of_getElem? am_cw76
  | 77, _ => exact List.mem_of_getElem? am_cw77
  | 78, _ => exact List.mem_of_getElem? am_cw78
  | 79, _ => exact List.mem_of_getElem? am_cw79
  | 80, _ => exact List.mem_of_getElem? am_cw80
  | 81, _ => exact List.mem_of_getElem? am_cw81
  | 82, _ => exact List.mem_of_getElem? am_cw82
  | 83, _ => exact List.mem_of_getElem? am_cw83
  | 84, _ => exact List.mem_of_getElem? am_cw84
  | 85, _ => exact List.mem_of_getElem? am_cw85
  | 86, _ => exact List.mem_of_getElem? am_cw86
  | 87, _ => exact List.mem_of_getElem? am_cw87
  | 88, _ => exact List.mem_of_getElem? am_cw88
  | 89, _ => exact List.mem_of_getElem? am_cw89
  | 90, _ => exact List.mem_of_getElem? am_cw90
  | 91, _ => exact List.mem_of_getElem? am_cw91
  | 92, _ => exact List.mem_of_getElem? am_cw92
  | 93, _ => exact List.mem_of_getElem? am_cw93
  | 94, _ => exact List.mem_of_getElem? am_cw94
  | 95, _ => exact List.mem_of_getElem? am_cw95
  | 96, _ => exact List.mem_of_getElem? am_cw96
  | 97, _ => exact List.mem_of_getElem? am_cw97
  | 98, _ => exact List.mem_of_getElem? am_cw98
  | 99, _ => exact List.mem_of_getElem? am_cw99
  | 100, _ => exact List.mem_of_getElem? am_cw100
  | 101, _ => exact List.mem_of_getElem? am_cw101
  | 102, _ => exact List.mem_of_getElem? am_cw102
  | 103, _ => exact List.mem_of_getElem? am_cw103
  | 104, _ => exact List.mem_of_getElem? am_cw104
  | 105, _ => exact List.mem_of_getElem? am_cw105
  | 106, _ => exact List.mem_of_getElem? am_cw106
  | 107, _ => exact List.mem_of_getElem? am_cw107
  | 108, _ => exact List.mem_of_getElem? am_cw108
  | 109, _ => exact List.mem_of_getElem? am_cw109
  | 110, _ => exact List.mem_of_getElem? am_cw110
  | 111, _ => exact List.mem_of_getElem? am_cw111
  | 112, _ => exact List.mem_of_getElem? am_cw112
  | 113, _ => exact List.mem_of_getElem? am_cw113
  | 114, _ => exact List.mem_of_getElem? am_cw114
  | 115, _ => exact List.mem_of_getElem? am_cw115
  | 116, _ => exact List.mem_of_getElem? am_cw116
  | 117, _ => exact List.mem_of_getElem? am_cw117
  | 118, _ => exact List.mem_of_getElem? am_cw118
  | 119, _ => exact List.mem_of_getElem? am_cw119
  | 120, _ => exact List.mem_of_getElem? am_cw120
  | 121, _ => exact List.mem_of_getElem? am_cw121
  | 122, _ => exact List.mem_of_getElem? am_cw122
  | 123, _ => exact List.mem_of_getElem? am_cw123
  | 124, _ => exact List.mem_of_getElem? am_cw124
  | 125, _ => exact List.mem_of_getElem? am_cw125
  | 126, _ => exact List.mem_of_getElem? am_cw126
  | 127, _ => exact List.mem_of_getElem? am_cw127
  | 128, _ => exact List.mem_of_getElem? am_cw128
  | 129, _ => exact List.mem_of_getElem? am_cw129
  | 130, _ => exact List.mem_of_getElem? am_cw130
  | 131, _ => exact List.mem_of_getElem? am_cw131
  | 132, _ => exact List.mem_of_getElem? am_cw132
  | 133, _ => exact List.mem_of_getElem? am_cw133
  | 134, _ => exact List.mem_of_getElem? am_cw134
  | 135, _ => exact List.mem_of_getElem? am_cw135
  | 136, _ => exact List.mem_of_getElem? am_cw136
  | 137, _ => exact List.mem_of_getElem? am_cw137
  | 138, _ => exact List.mem_of_getElem? am_cw138
  | 139, _ => exact List.mem_of_getElem? am_cw139
  | 140, _ => exact List.mem_of_getElem? am_cw140
  | 141, _ => exact List.mem_of_getElem? am_cw141
  | 142, _ => exact List.mem_of_getElem? am_cw142
  | 143, _ => exact List.mem_of_getElem? am_cw143
  | 144, _ => exact List.mem_of_getElem? am_cw144
  | 145, _ => exact List.mem_of_getElem? am_cw145
  | 146, _ => exact List.mem_of_getElem? am_cw146
  | 147, _ => exact List.mem_of_getElem? am_cw147
  | 148, _ => exact List.mem_of_getElem? am_cw148
  | 149, _ => exact List.mem_of_getElem? am_cw149
  | 150, _ => exact List.mem_of_getElem? am_cw150
  | 151, _ => exact List.mem_of_getElem? am_cw151
  | 152, _ => exact List.mem_of_getElem? am_cw152
  | 153, _ => exact List.mem_of_getElem? am_cw153
  | 154, _ => exact List.mem_of_getElem? am_cw154
  | 155, _ => exact List.mem_of_getElem? am_cw155
  | 156, _ => exact List.mem_of_getElem? am_cw156
  | 157, _ => exact List.mem_of_getElem? am_cw157
  | 158, _ => exact List.mem_of_getElem? am_cw158
  | 159, _ => exact List.mem_of_getElem? am_cw159
  | 160, _ => exact List.mem_of_getElem? am_cw160
  | 161, _ => exact List.mem_of_getElem? am_cw161
  | 162, _ => exact List.mem_of_getElem? am_cw162
  | 163, _ => exact List.mem_of_getElem? am_cw163
  | 164, _ => exact List.mem_of_getElem? am_cw164
  | 165, _ => exact List.mem_of_getElem? am_cw165
  | 166, _ => exact List.mem_of_getElem? am_cw166
  | 167, _ => exact List.mem_of_getElem? am_cw167
  | 168, _ => exact List.mem_of_getElem? am_cw168
  | 169, _ => exact List.mem_of_getElem? am_cw169
  | 170, _ => exact List.mem_of_getElem? am_cw170
  | 171, _ => exact List.mem_of_getElem? am_cw171
  | 172, _ => exact List.mem_of_getElem? am_cw172
  | 173, _ => exact List.mem_of_getElem? am_cw173
  | 174, _ => exact List.mem_of_getElem? am_cw174
  | 175, _ => exact List.mem_of_getElem? am_cw175
  | 176, _ => exact List.mem_of_getElem? am_cw176
  | 177, _ => exact List.mem_of_getElem? am_cw177
  | 178, _ => exact List.mem_of_getElem? am_cw178
  | 179, _ => exact List.mem_of_getElem? am_cw179
  | 180, _ => exact List.mem_of_getElem? am_cw180
  | 181, _ => exact List.mem_of_getElem? am_cw181
  | 182, _ => exact List.mem_of_getElem? am_cw182
  | 183, _ => exact List.mem_of_getElem? am_cw183
  | 184, _ => exact List.mem_of_getElem? am_cw184
  | 185, _ => exact List.mem_of_getElem? am_cw185
  | 186, _ => exact List.mem_of_getElem? am_cw186
  | 187, _ => exact List.mem_of_getElem? am_cw187
  | 188, _ => exact List.mem_of_getElem? am_cw188
  | 189, _ => exact List.mem_of_getElem? am_cw189
  | n + 190, h => exact absurd h (by omega)
def am_rk0 (c : Nat) : Bool := match am_rk c, am_rt c with
  | 0, none => true
  | 1, some .int => true
  | 2, some .boolean => true
  | 3, some (.object _) => true
  | 4, some .char => true
  | 5, some .byte => true
  | _, _ => false
set_option maxRecDepth 100000 in
theorem am_rks : (List.range 191).all am_rk0 = true := by decide +kernel
end
section
/-! A SMALL MACHINE over the tables of 02: values, one step in continuation form, runs without end told by a limit.
    Hp: what a heap is; am_O: what the machine asks of it. -/
abbrev am_K : Type := Nat × Nat
abbrev am_V : Type := Int32 ⊕ (Option (Nat × Nat) ⊕ Int64)
abbrev am_L : Type := List (Option am_V)
abbrev am_R (Hp : Type) : Type := Option (Option am_V × Hp)
/-- gf: a field; pf: a field is written (may it be, the heap then); al: an element (0 int, 1 boolean or byte, 2 reference); as; ln: a length; kl: the class of an object; nw: a new object; na: a new array (0 int, 1 boolean, 2, 3 references) -/
abbrev am_O (Hp : Type) : Type :=
  (Hp → am_K → Nat → Nat → Option am_V) × (Hp → am_K → Nat → Nat → am_V → Bool × Hp) × (Hp → Nat → am_K → Int32 → Bool × am_V) × (Hp → Nat → am_K → Int32 → am_V → Bool × Hp) × (Hp → am_K → Option Int32) × (Hp → am_K → Option Nat) × (Hp → Nat → Option (am_K × Hp)) × (Hp → Nat → Int32 → Bool × (am_K × Hp))
def am_ci (n : Int) : Int32 := match n with
  | .ofNat k => Int32.ofNat k
  | .negSucc k => -(Int32.ofNat (k + 1))
def am_if {α : Type} (b : Bool) (x : Option α) : Option α := if b = true then x else none
def am_ldi (ls : am_L) (j : Nat) (st : List am_V) : Option (am_L × List am_V) := match ls.getD j none with
  | some (.inl x) => some (ls, .inl x :: st)
  | _ => none
def am_lda (ls : am_L) (j : Nat) (st : List am_V) : Option (am_L × List am_V) := match ls.getD j none with
  | some (.inr (.inl r)) => some (ls, .inr (.inl r) :: st)
  | _ => none
def am_sti (ls : am_L) (j : Nat) (st : List am_V) : Option (am_L × List am_V) := match st with
  | .inl x :: r => am_if (Nat.blt j ls.length) (some (ls.set j (some (.inl x)), r))
  | _ => none
def am_sta (ls : am_L) (j : Nat) (st : List am_V) : Option (am_L × List am_V) := match st with
  | .inr (.inl x) :: r => am_if (Nat.blt j ls.length) (some (ls.set j (some (.inr (.inl x))), r))
  | _ => none
def am_b2 (f : Int32 → Int32 → Int32) (ls : am_L) (st : List am_V) : Option (am_L × List am_V) := match st with
  | .inl y :: .inl x :: r => some (ls, .inl (f x y) :: r)
  | _ => none
/-- what touches locals and stack alone -/
def am_pu (own : Nat) (i : Instr) (ls : am_L) (st : List am_V) : Option (am_L × List am_V) := match i with
  | .iconst a => some (ls, .inl (am_ci a) :: st)
  | .bipush a => match decide (-128 ≤ a ∧ a ≤ 127) with
    | true => some (ls, .inl (am_ci a) :: st)
    | false => none
  | .sipush a => match decide (-32768 ≤ a ∧ a ≤ 32767) with
    | true => some (ls, .inl (am_ci a) :: st)
    | false => none
  | .lconst a => some (ls, .inr (.inr (Int64.ofNat a.val)) :: st)
  | .aconst_null => some (ls, .inr (.inl none) :: st)
  | .iload_n j => am_ldi ls j.val st
  | .iload j => am_ldi ls j st
  | .aload_n j => am_lda ls j.val st
  | .aload j => am_lda ls j st
  | .istore_n j => am_sti ls j.val st
  | .istore j => am_sti ls j st
  | .astore_n j => am_sta ls j.val st
  | .astore j => am_sta ls j st
  | .iinc j c => match ls.getD j none with
    | some (.inl x) => am_if (Nat.blt j ls.length) (some (ls.set j (some (.inl (x + am_ci c))), st))
    | _ => none
  | .iadd => am_b2 (fun x y => x + y) ls st
  | .isub => am_b2 (fun x y => x - y) ls st
  | .imul => am_b2 (fun x y => x * y) ls st
  | .iand => am_b2 (fun x y => x &&& y) ls st
  | .ior => am_b2 (fun x y => x ||| y) ls st
  | .ixor => am_b2 (fun x y => x ^^^ y) ls st
  | .ishl => am_b2 (fun x y => x <<< (y &&& 31)) ls st
  | .ishr => am_b2 (fun x y => x >>> (y &&& 31)) ls st
  | .iushr => am_b2 (fun x y => (x.toUInt32 >>> (y.toUInt32 &&& Int32.toUInt32 31)).toInt32) ls st
  | .i2l => match st with
    | .inl x :: r => some (ls, .inr (.inr x.toInt64) :: r)
    | _ => none
  | .i2c => match st with
    | .inl x :: r => some (ls, .inl (x.toUInt32 % 65536).toInt32 :: r)
    | _ => none
  | .dup => match st with
    | .inl x :: r => some (ls, .inl x :: .inl x :: r)
    | .inr (.inl x) :: r => some (ls, .inr (.inl x) :: .inr (.inl x) :: r)
    | _ => none
  | .dup2 => match st with
    | .inl y :: .inr (.inl x) :: r => some (ls, .inl y :: .inr (.inl x) :: .inl y :: .inr (.inl x) :: r)
    | _ => none
  | .pop => match st with
    | .inl _ :: r => some (ls, r)
    | _ => none
  | .ldc k => match am_ck own k with
    | some (.inl x) => some (ls, .inl x :: st)
    | some (.inr s) => some (ls, .inr (.inl (some (99, s))) :: st)
    | none => none
  | .ldc_w k => match am_ck own k with
    | some (.inl x) => some (ls, .inl x :: st)
    | _ => none
  | .ldc2_w k => match am_cl own k with
    | some x => some (ls, .inr (.inr x) :: st)
    | none => none
  | .getstatic k => match am_gs own k with
    | some (.inl x) => some (ls, .inl x :: st)
    | some (.inr s) => some (ls, .inr (.inl (some (s, 0))) :: st)
    | none => none
  | _ => none
def am_br {α : Type} (pc : Nat) (off : Int) (k : Nat → Option α) : Option α := match (pc : Int) + off with
  | .ofNat t => k t
  | .negSucc _ => none
def am_c1 {α : Type} (c : ClassFile.Cond) (x : Int32) (a b : α) : α := match c with
  | .eq => if x = 0 then a else b
  | .ne => if x = 0 then b else a
  | .lt => if x < 0 then a else b
  | .ge => if x < 0 then b else a
  | .gt => if x ≤ 0 then b else a
  | .le => if x ≤ 0 then a else b
def am_c2 {α : Type} (c : ClassFile.Cond) (x y : Int32) (a b : α) : α := match c with
  | .eq => if x = y then a else b
  | .ne => if x = y then b else a
  | .lt => if x < y then a else b
  | .ge => if x < y then b else a
  | .gt => if x ≤ y then b else a
  | .le => if x ≤ y then a else b
def am_ts {α : Type} (x : Int32) (pc : Nat) (d : Int) (k : Nat → Option α) : List Int → Int → Option α
  | [], _ => am_br pc d k
  | o :: os, lo => if x = am_ci lo then am_br pc o k else am_ts x pc d k os (lo + 1)
def am_z (x : Int32) : Bool := decide (x = 0) || decide (x = 1)
def am_ch (x : Int32) : Bool := decide (narrow .char (.int x) = .int x)
def am_by8 (x : Int32) : Bool := decide (narrow .byte (.int x) = .int x)
def am_rz (rk : Nat) (x : Int32) : Bool := match rk with
  | 1 => true
  | 2 => am_z x
  | 4 => am_ch x
  | 5 => am_by8 x
  | _ => false
def am_bV {α β : Type} (x : Option (Option am_V × α)) (k : α → Option β) : Option β := match x with
  | some (none, h) => k h
  | _ => none
def am_bI {α β : Type} (x : Option (Option am_V × α)) (k : Int32 → α → Option β) : Option β := match x with
  | some (some (.inl v), h) => k v h
  | _ => none
def am_bR {α β : Type} (x : Option (Option am_V × α)) (k : Option (Nat × Nat) → α → Option β) : Option β := match x with
  | some (some (.inr (.inl v)), h) => k v h
  | _ => none
def am_bd {α β : Type} (rk : Nat) (x : Option (Option am_V × α)) (k : List am_V → α → Option β) : Option β := match rk with
  | 0 => am_bV x (fun h => k [] h)
  | 3 => am_bR x (fun v h => k [.inr (.inl v)] h)
  | _ => am_bI x (fun v h => k [.inl v] h)
section
variable {Hp : Type}
def am_rcv (I : am_O Hp) (h : Hp) (kd c : Nat) (as : List am_V) : Bool := match kd with
  | 0 => match as with
    | .inr (.inl (some q)) :: _ => match I.2.2.2.2.2.1 h q with
      | some ci => Nat.beq ci (am_ow c)
      | none => false
    | _ => false
  | 2 => match as with
    | .inr (.inl (some q)) :: _ => Nat.blt q.1 95
    | _ => false
  | 4 => match as with
    | .inr (.inl (some q)) :: _ => Nat.blt q.1 95
    | _ => false
  | _ => true
/-- a call of method c: kd as am_cm has it -/
def am_do (I : am_O Hp) (call : Nat → List am_V → Hp → am_R Hp) (m : Nat) (k : List am_V → Hp → am_R Hp) (kd c na : Nat) (st : List am_V) (h : Hp) : am_R Hp :=
  match Nat.ble na st.length && (Nat.ble (st.length - na) 4 && (Nat.blt (am_ht c) (am_ht m) && am_rcv I h kd c (st.take na).reverse)) with
  | true => am_bd (am_rk c) (call c (st.take na).reverse h) (fun vs h' => k (vs ++ st.drop na) h')
  | false => none
def am_gF (I : am_O Hp) (t : Option (Nat × Nat)) (st : List am_V) (h : Hp) (k : List am_V → Hp → am_R Hp) : am_R Hp := match t with
  | some (ci, f) => match st with
    | .inr (.inl (some q)) :: r => match I.1 h q ci f with
      | some v => k (v :: r) h
      | none => none
    | _ => none
  | none => none
def am_fo (m ci f : Nat) : Bool := match am_ff ci f with
  | false => true
  | true => am_ii m && Nat.beq (am_ow m) ci
def am_pF (I : am_O Hp) (m : Nat) (t : Option (Nat × Nat)) (st : List am_V) (h : Hp) (k : List am_V → Hp → am_R Hp) : am_R Hp := match t with
  | some (ci, f) => match st with
    | v :: .inr (.inl (some q)) :: r => am_if (am_fo m ci f) (am_if (I.2.1 h q ci f v).1 (k r (I.2.1 h q ci f v).2))
    | _ => none
  | none => none
def am_aL (I : am_O Hp) (ty : Nat) (st : List am_V) (h : Hp) (k : List am_V → Hp → am_R Hp) : am_R Hp := match st with
  | .inl j :: .inr (.inl (some q)) :: r => am_if (I.2.2.1 h ty q j).1 (k ((I.2.2.1 h ty q j).2 :: r) h)
  | _ => none
def am_aS (I : am_O Hp) (ty : Nat) (st : List am_V) (h : Hp) (k : List am_V → Hp → am_R Hp) : am_R Hp := match st with
  | v :: .inl j :: .inr (.inl (some q)) :: r => am_if (I.2.2.2.1 h ty q j v).1 (k r (I.2.2.2.1 h ty q j v).2)
  | _ => none
def am_lN (I : am_O Hp) (st : List am_V) (h : Hp) (k : List am_V → Hp → am_R Hp) : am_R Hp := match st with
  | .inr (.inl (some q)) :: r => match I.2.2.2.2.1 h q with
    | some x => k (.inl x :: r) h
    | none => none
  | _ => none
def am_nW (I : am_O Hp) (t : Option Nat) (st : List am_V) (h : Hp) (k : List am_V → Hp → am_R Hp) : am_R Hp := match t with
  | some ci => match I.2.2.2.2.2.2.1 h ci with
    | some (q, h') => k (.inr (.inl (some q)) :: st) h'
    | none => none
  | none => none
def am_nA (I : am_O Hp) (ty : Option Nat) (st : List am_V) (h : Hp) (k : List am_V → Hp → am_R Hp) : am_R Hp := match ty with
  | some t => match st with
    | .inl x :: r => am_if (I.2.2.2.2.2.2.2 h t x).1 (k (.inr (.inl (some (I.2.2.2.2.2.2.2 h t x).2.1)) :: r) (I.2.2.2.2.2.2.2 h t x).2.2)
    | _ => none
  | none => none
def am_oI (st : List am_V) (h : Hp) (k : List am_V → Hp → am_R Hp) : am_R Hp := match st with
  | .inr (.inl (some q)) :: r => am_if (Nat.blt q.1 95 && Nat.ble r.length 4) (k r h)
  | _ => none
def am_iv (I : am_O Hp) (call : Nat → List am_V → Hp → am_R Hp) (m : Nat) (t : Option (Nat × Nat × Nat)) (st : List am_V) (h : Hp) (k : List am_V → Hp → am_R Hp) : am_R Hp := match t with
  | some (0, c, na) => am_do I call m k 0 c na st h
  | _ => none
def am_is (I : am_O Hp) (call : Nat → List am_V → Hp → am_R Hp) (m : Nat) (t : Option (Nat × Nat × Nat)) (st : List am_V) (h : Hp) (k : List am_V → Hp → am_R Hp) : am_R Hp := match t with
  | some (1, c, na) => am_do I call m k 1 c na st h
  | some (3, c, na) => am_do I call m k 3 c na st h
  | _ => none
def am_ip (I : am_O Hp) (call : Nat → List am_V → Hp → am_R Hp) (m : Nat) (t : Option (Nat × Nat × Nat)) (st : List am_V) (h : Hp) (k : List am_V → Hp → am_R Hp) : am_R Hp := match t with
  | some (2, c, na) => am_do I call m k 2 c na st h
  | some (4, c, na) => am_do I call m k 4 c na st h
  | some (5, _, _) => am_oI st h k
  | _ => none
def am_ac (t : Option Nat) : Option Nat := match t with
  | some 0 => some 2
  | some 2 => some 3
  | _ => none
def am_aT (t : ArrayType) : Option Nat := match t with
  | .int => some 0
  | .boolean => some 1
  | _ => none
/-- heap, calls: goes on behind the instruction with the same locals -/
def am_h1 (I : am_O Hp) (call : Nat → List am_V → Hp → am_R Hp) (m : Nat) (i : Instr) (st : List am_V) (h : Hp) (k : List am_V → Hp → am_R Hp) : am_R Hp := match i with
  | .getfield x => am_gF I (am_cf (am_ow m) x) st h k
  | .putfield x => am_pF I m (am_cf (am_ow m) x) st h k
  | .iaload => am_aL I 0 st h k
  | .baload => am_aL I 1 st h k
  | .aaload => am_aL I 2 st h k
  | .iastore => am_aS I 0 st h k
  | .bastore => am_aS I 1 st h k
  | .aastore => am_aS I 2 st h k
  | .arraylength => am_lN I st h k
  | .new x => am_nW I (am_cc (am_ow m) x) st h k
  | .newarray ty => am_nA I (am_aT ty) st h k
  | .anewarray c => am_nA I (am_ac (am_cc (am_ow m) c)) st h k
  | .invokevirtual x => am_iv I call m (am_cm (am_ow m) x) st h k
  | .invokestatic x => am_is I call m (am_cm (am_ow m) x) st h k
  | .invokespecial x => am_ip I call m (am_cm (am_ow m) x) st h k
  | _ => none
def am_j1 (c : ClassFile.Cond) (off : Int) (pc n : Nat) (st : List am_V) (k : Nat → List am_V → am_R Hp) : am_R Hp := match st with
  | .inl x :: r => am_c1 c x (am_br pc off (fun t => k t r)) (k (pc + n) r)
  | _ => none
def am_j2 (c : ClassFile.Cond) (off : Int) (pc n : Nat) (st : List am_V) (k : Nat → List am_V → am_R Hp) : am_R Hp := match st with
  | .inl y :: .inl x :: r => am_c2 c x y (am_br pc off (fun t => k t r)) (k (pc + n) r)
  | _ => none
def am_jn (off : Int) (pc n : Nat) (st : List am_V) (k : Nat → List am_V → am_R Hp) : am_R Hp := match st with
  | .inr (.inl none) :: r => am_br pc off (fun t => k t r)
  | .inr (.inl (some q)) :: r => am_if (Nat.blt q.1 95) (k (pc + n) r)
  | _ => none
def am_jN (off : Int) (pc n : Nat) (st : List am_V) (k : Nat → List am_V → am_R Hp) : am_R Hp := match st with
  | .inr (.inl none) :: r => k (pc + n) r
  | .inr (.inl (some q)) :: r => am_if (Nat.blt q.1 95) (am_br pc off (fun t => k t r))
  | _ => none
def am_jt (d lo hi : Int) (offs : Array Int) (pc : Nat) (st : List am_V) (k : Nat → List am_V → am_R Hp) : am_R Hp := match st with
  | .inl x :: r => am_if (decide (-1000 ≤ lo ∧ lo ≤ 0 ∧ hi ≤ 1000 ∧ (offs.toList.length : Int) = hi - lo + 1)) (am_ts x pc d (fun t => k t r) offs.toList lo)
  | _ => none
/-- jumps -/
def am_h2 (i : Instr) (pc n : Nat) (st : List am_V) (k : Nat → List am_V → am_R Hp) : am_R Hp := match i with
  | .goto off => am_br pc off (fun t => k t st)
  | .ifCond c off => am_j1 c off pc n st k
  | .if_icmp c off => am_j2 c off pc n st k
  | .ifnull off => am_jn off pc n st k
  | .ifnonnull off => am_jN off pc n st k
  | .tableswitch d lo hi offs => am_jt d lo hi offs pc st k
  | _ => none
/-- ends -/
def am_h3 (m : Nat) (i : Instr) (st : List am_V) (h : Hp) : am_R Hp := match i with
  | .ireturn => match st with
    | [.inl x] => am_if (am_rz (am_rk m) x) (some (some (.inl x), h))
    | _ => none
  | .areturn => match st with
    | [.inr (.inl x)] => am_if (Nat.beq (am_rk m) 3) (some (some (.inr (.inl x)), h))
    | _ => none
  | .return_ => match st with
    | [] => am_if (Nat.beq (am_rk m) 0) (some (none, h))
    | _ => none
  | _ => none
/-- of which kind an instruction is: 1 heap and calls, 2 jumps, 3 ends, 0 else -/
def am_kd (i : Instr) : Nat := match i with
  | .getfield _ => 1
  | .putfield _ => 1
  | .iaload => 1
  | .baload => 1
  | .aaload => 1
  | .iastore => 1
  | .bastore => 1
  | .aastore => 1
  | .arraylength => 1
  | .new _ => 1
  | .newarray _ => 1
  | .anewarray _ => 1
  | .invokevirtual _ => 1
  | .invokestatic _ => 1
  | .invokespecial _ => 1
  | .goto _ => 2
  | .ifCond _ _ => 2
  | .if_icmp _ _ => 2
  | .ifnull _ => 2
  | .ifnonnull _ => 2
  | .tableswitch _ _ _ _ => 2
  | .ireturn => 3
  | .areturn => 3
  | .return_ => 3
  | _ => 0
def am_si (I : am_O Hp) (call : Nat → List am_V → Hp → am_R Hp) (m : Nat) (i : Instr) (n : Nat) (k : Nat → am_L → List am_V → Hp → am_R Hp) (pc : Nat) (ls : am_L) (st : List am_V) (h : Hp) : am_R Hp := match am_kd i with
  | 1 => am_h1 I call m i st h (fun st' h' => k (pc + n) ls st' h')
  | 2 => am_h2 i pc n st (fun pc' st' => k pc' ls st' h)
  | 3 => am_h3 m i st h
  | _ => match am_pu (am_ow m) i ls st with
    | some (ls', st') => k (pc + n) ls' st' h
    | none => none
def am_st (I : am_O Hp) (call : Nat → List am_V → Hp → am_R Hp) (m : Nat) (k : Nat → am_L → List am_V → Hp → am_R Hp) (pc : Nat) (ls : am_L) (st : List am_V) (h : Hp) : am_R Hp := match am_at m pc with
  | none => none
  | some (i, n) => am_si I call m i n k pc ls st h
end
end
section
/-! a step goes on at one place, or ends: so runs have a limit -/
def am_Li {A B R : Type} (f : (A → B → Option R) → Option R) : Prop := (∃ r, ∀ k, f k = r) ∨ ∃ a b, ∀ k, f k = k a b
section
variable {Hp : Type}
theorem am_Li_bd {A B β : Type} (rk : Nat) (x : Option (Option am_V × B)) (g : List am_V → A) : am_Li (fun k : A → B → Option β => am_bd rk x (fun vs h => k (g vs) h)) := by
  rcases rk with _ | _ | _ | _ | rk
  · rcases x with _ | ⟨_ | v, h⟩
    · exact Or.inl ⟨none, fun _ => rfl⟩
    · exact Or.inr ⟨g [], h, fun _ => rfl⟩
    · exact Or.inl ⟨none, fun _ => rfl⟩
  · rcases x with _ | ⟨_ | v | v, h⟩
    · exact Or.inl ⟨none, fun _ => rfl⟩
    · exact Or.inl ⟨none, fun _ => rfl⟩
    · exact Or.inr ⟨g [.inl v], h, fun _ => rfl⟩
    · exact Or.inl ⟨none, fun _ => rfl⟩
  · rcases x with _ | ⟨_ | v | v, h⟩
    · exact Or.inl ⟨none, fun _ => rfl⟩
    · exact Or.inl ⟨none, fun _ => rfl⟩
    · exact Or.inr ⟨g [.inl v], h, fun _ => rfl⟩
    · exact Or.inl ⟨none, fun _ => rfl⟩
  · rcases x with _ | ⟨_ | v | v | v, h⟩
    · exact Or.inl ⟨none, fun _ => rfl⟩
    · exact Or.inl ⟨none, fun _ => rfl⟩
    · exact Or.inl ⟨none, fun _ => rfl⟩
    · exact Or.inr ⟨g [.inr (.inl v)], h, fun _ => rfl⟩
    · exact Or.inl ⟨none, fun _ => rfl⟩
  · rcases x with _ | ⟨_ | v | v, h⟩
    · exact Or.inl ⟨none, fun _ => rfl⟩
    · exact Or.inl ⟨none, fun _ => rfl⟩
    · exact Or.inr ⟨g [.inl v], h, fun _ => rfl⟩
    · exact Or.inl ⟨none, fun _ => rfl⟩
theorem am_Li_if {A B R : Type} (b : Bool) (a : A) (c : B) : am_Li (fun k : A → B → Option R => am_if b (k a c)) := by
  cases b
  · exact Or.inl ⟨none, fun _ => rfl⟩
  · exact Or.inr ⟨a, c, fun _ => rfl⟩
theorem am_Li_0 {A B R : Type} (r : Option R) : am_Li (fun _ : A → B → Option R => r) := Or.inl ⟨r, fun _ => rfl⟩
theorem am_Li_1 {A B R : Type} (a : A) (c : B) : am_Li (fun k : A → B → Option R => k a c) := Or.inr ⟨a, c, fun _ => rfl⟩
theorem am_Li_ite {A B R : Type} {f g : (A → B → Option R) → Option R} (c : Prop) [Decidable c] (hf : am_Li f) (hg : am_Li g) : am_Li (fun k => if c then f k else g k) := by
  by_cases h : c
  · simp only [if_pos h]; exact hf
  · simp only [if_neg h]; exact hg
theorem am_Li_do (I : am_O Hp) (call : Nat → List am_V → Hp → am_R Hp) (m kd c na : Nat) (st : List am_V) (h : Hp) : am_Li (fun k => am_do I call m k kd c na st h) := by
  unfold am_do
  generalize (Nat.ble na st.length && (Nat.ble (st.length - na) 4 && (Nat.blt (am_ht c) (am_ht m) && am_rcv I h kd c (st.take na).reverse))) = b
  cases b
  · exact am_Li_0 _
  · exact am_Li_bd _ _ (fun vs => vs ++ st.drop na)
theorem am_Li_h1 (I : am_O Hp) (call : Nat → List am_V → Hp → am_R Hp) (m : Nat) (i : Instr) (st : List am_V) (h : Hp) : am_Li (fun k => am_h1 I call m i st h k) := by
  have gF : ∀ t, am_Li (fun k => am_gF I t st h k) := by
    intro t
    rcases t with _ | ⟨ci, f⟩
    · exact am_Li_0 _
    · rcases st with _ | ⟨_ | (_ | q) | _, r⟩
      · exact am_Li_0 _
      · exact am_Li_0 _
      · exact am_Li_0 _
      · show am_Li (fun k => match I.1 h q ci f with | some v => k (v :: r) h | none => none)
        generalize I.1 h q ci f = o
        cases o
        · exact am_Li_0 _
        · exact am_Li_1 _ _
      · exact am_Li_0 _
  have pF : ∀ t, am_Li (fun k => am_pF I m t st h k) := by
    intro t
    rcases t with _ | ⟨ci, f⟩
    · exact am_Li_0 _
    · rcases st with _ | ⟨v, _ | ⟨_ | (_ | q) | _, r⟩⟩
      · exact am_Li_0 _
      · exact am_Li_0 _
      · exact am_Li_0 _
      · exact am_Li_0 _
      · exact am_Li_ite _ (am_Li_if _ _ _) (am_Li_0 _)
      · exact am_Li_0 _
  have aL : ∀ t, am_Li (fun k => am_aL I t st h k) := by
    intro t
    rcases st with _ | ⟨j | _, _ | ⟨_ | (_ | q) | _, r⟩⟩
    · exact am_Li_0 _
    · exact am_Li_0 _
    · exact am_Li_0 _
    · exact am_Li_0 _
    · exact am_Li_if _ _ _
    · exact am_Li_0 _
    · exact am_Li_0 _
    · exact am_Li_0 _
    · exact am_Li_0 _
    · exact am_Li_0 _
    · exact am_Li_0 _
  have aS : ∀ t, am_Li (fun k => am_aS I t st h k) := by
    intro t
    rcases st with _ | ⟨v, _ | ⟨j | _, _ | ⟨_ | (_ | q) | _, r⟩⟩⟩
    · exact am_Li_0 _
    · exact am_Li_0 _
    · exact am_Li_0 _
    · exact am_Li_0 _
    · exact am_Li_0 _
    · exact am_Li_if _ _ _
    · exact am_Li_0 _
    · exact am_Li_0 _
    · exact am_Li_0 _
    · exact am_Li_0 _
    · exact am_Li_0 _
    · exact am_Li_0 _
  have lN : am_Li (fun k => am_lN I st h k) := by
    rcases st with _ | ⟨_ | (_ | q) | _, r⟩
    · exact am_Li_0 _
    · exact am_Li_0 _
    · exact am_Li_0 _
    · show am_Li (fun k => match I.2.2.2.2.1 h q with | some x => k (.inl x :: r) h | none => none)
      generalize I.2.2.2.2.1 h q = o
      cases o
      · exact am_Li_0 _
      · exact am_Li_1 _ _
    · exact am_Li_0 _
  have nW : ∀ t, am_Li (fun k => am_nW I t st h k) := by
    intro t
    rcases t with _ | ci
    · exact am_Li_0 _
    · show am_Li (fun k => match I.2.2.2.2.2.2.1 h ci with | some (q, h') => k (.inr (.inl (some q)) :: st) h' | none => none)
      generalize I.2.2.2.2.2.2.1 h ci = o
      rcases o with _ | ⟨q, h'⟩
      · exact am_Li_0 _
      · exact am_Li_1 _ _
  have nA : ∀ t, am_Li (fun k => am_nA I t st h k) := by
    intro t
    rcases t with _ | t
    · exact am_Li_0 _
    · rcases st with _ | ⟨x | _, r⟩
      · exact am_Li_0 _
      · exact am_Li_if _ _ _
      · exact am_Li_0 _
  have oI : am_Li (fun k => am_oI st h k) := by
    rcases st with _ | ⟨_ | (_ | q) | _, r⟩
    · exact am_Li_0 _
    · exact am_Li_0 _
    · exact am_Li_0 _
    · exact am_Li_if _ _ _
    · exact am_Li_0 _
  have iv : ∀ t, am_Li (fun k => am_iv I call m t st h k) := by
    intro t
    rcases t with _ | ⟨_ | kd, c, na⟩
    · exact am_Li_0 _
    · exact am_Li_do I call m 0 c na st h
    · exact am_Li_0 _
  have is : ∀ t, am_Li (fun k => am_is I call m t st h k) := by
    intro t
    rcases t with _ | ⟨_ | _ | _ | _ | kd, c, na⟩
    · exact am_Li_0 _
    · exact am_Li_0 _
    · exact am_Li_do I call m 1 c na st h
    · exact am_Li_0 _
    · exact am_Li_do I call m 3 c na st h
    · exact am_Li_0 _
  have ip : ∀ t, am_Li (fun k => am_ip I call m t st h k) := by
    intro t
    rcases t with _ | ⟨_ | _ | _ | _ | _ | _ | kd, c, na⟩
    · exact am_Li_0 _
    · exact am_Li_0 _
    · exact am_Li_0 _
    · exact am_Li_do I call m 2 c na st h
    · exact am_Li_0 _
    · exact am_Li_do I call m 4 c na st h
    · exact oI
    · exact am_Li_0 _
  cases i
  case getfield => exact gF _
  case putfield => exact pF _
  case iaload => exact aL _
  case baload => exact aL _
  case aaload => exact aL _
  case iastore => exact aS _
  case bastore => exact aS _
  case aastore => exact aS _
  case arraylength => exact lN
  case new => exact nW _
  case newarray => exact nA _
  case anewarray => exact nA _
  case invokevirtual => exact iv _
  case invokestatic => exact is _
  case invokespecial => exact ip _
  all_goals exact am_Li_0 _
theorem am_Li_br {R : Type} (pc : Nat) (off : Int) (r : List am_V) : am_Li (fun k : Nat → List am_V → Option R => am_br pc off (fun t => k t r)) := by
  unfold am_br
  generalize (pc : Int) + off = z
  cases z
  · exact am_Li_1 _ _
  · exact am_Li_0 _
theorem am_Li_h2 (i : Instr) (pc n : Nat) (st : List am_V) : am_Li (fun k : Nat → List am_V → am_R Hp => am_h2 i pc n st k) := by
  cases i
  case goto off => exact am_Li_br pc off st
  case ifCond c off =>
    rcases st with _ | ⟨x | _, r⟩
    · exact am_Li_0 _
    · cases c
      · exact am_Li_ite (x = 0) (am_Li_br pc off r) (am_Li_1 _ _)
      · exact am_Li_ite (x = 0) (am_Li_1 _ _) (am_Li_br pc off r)
      · exact am_Li_ite (x < 0) (am_Li_br pc off r) (am_Li_1 _ _)
      · exact am_Li_ite (x < 0) (am_Li_1 _ _) (am_Li_br pc off r)
      · exact am_Li_ite (x ≤ 0) (am_Li_1 _ _) (am_Li_br pc off r)
      · exact am_Li_ite (x ≤ 0) (am_Li_br pc off r) (am_Li_1 _ _)
    · exact am_Li_0 _
  case if_icmp c off =>
    rcases st with _ | ⟨y | _, _ | ⟨x | _, r⟩⟩
    · exact am_Li_0 _
    · exact am_Li_0 _
    · cases c
      · exact am_Li_ite (x = y) (am_Li_br pc off r) (am_Li_1 _ _)
      · exact am_Li_ite (x = y) (am_Li_1 _ _) (am_Li_br pc off r)
      · exact am_Li_ite (x < y) (am_Li_br pc off r) (am_Li_1 _ _)
      · exact am_Li_ite (x < y) (am_Li_1 _ _) (am_Li_br pc off r)
      · exact am_Li_ite (x ≤ y) (am_Li_1 _ _) (am_Li_br pc off r)
      · exact am_Li_ite (x ≤ y) (am_Li_br pc off r) (am_Li_1 _ _)
    · exact am_Li_0 _
    · exact am_Li_0 _
    · exact am_Li_0 _
    · exact am_Li_0 _
  case ifnull off =>
    rcases st with _ | ⟨_ | (_ | q) | _, r⟩
    · exact am_Li_0 _
    · exact am_Li_0 _
    · exact am_Li_br pc off r
    · exact am_Li_if _ _ _
    · exact am_Li_0 _
  case ifnonnull off =>
    rcases st with _ | ⟨_ | (_ | q) | _, r⟩
    · exact am_Li_0 _
    · exact am_Li_0 _
    · exact am_Li_1 _ _
    · exact am_Li_ite _ (am_Li_br pc off r) (am_Li_0 _)
    · exact am_Li_0 _
  case tableswitch d lo hi offs =>
    rcases st with _ | ⟨x | _, r⟩
    · exact am_Li_0 _
    · refine am_Li_ite _ ?_ (am_Li_0 _)
      generalize offs.toList = l
      induction l generalizing lo with
      | nil => exact am_Li_br pc d r
      | cons o os ih => exact am_Li_ite (x = am_ci lo) (am_Li_br pc o r) (ih (lo + 1))
    · exact am_Li_0 _
  all_goals exact am_Li_0 _
/-- a step: the answer, or the one state at which it goes on -/
theorem am_lin (I : am_O Hp) (call : Nat → List am_V → Hp → am_R Hp) (m pc : Nat) (ls : am_L) (st : List am_V) (h : Hp) : (∃ r, ∀ k, am_st I call m k pc ls st h = r) ∨ ∃ a b c d, ∀ k, am_st I call m k pc ls st h = k a b c d := by
  unfold am_st
  rcases am_at m pc with _ | ⟨i, n⟩
  · exact Or.inl ⟨none, fun _ => rfl⟩
  · show (∃ r, ∀ k, am_si I call m i n k pc ls st h = r) ∨ ∃ a b c d, ∀ k, am_si I call m i n k pc ls st h = k a b c d
    unfold am_si
    generalize am_kd i = kd
    have h0 : (∃ r, ∀ k : Nat → am_L → List am_V → Hp → am_R Hp, (match am_pu (am_ow m) i ls st with | some (ls', st') => k (pc + n) ls' st' h | none => none) = r) ∨ ∃ a b c d, ∀ k : Nat → am_L → List am_V → Hp → am_R Hp, (match am_pu (am_ow m) i ls st with | some (ls', st') => k (pc + n) ls' st' h | none => none) = k a b c d := by
      rcases am_pu (am_ow m) i ls st with _ | ⟨l', s'⟩
      · exact Or.inl ⟨none, fun _ => rfl⟩
      · exact Or.inr ⟨_, _, _, _, fun _ => rfl⟩
    rcases kd with _ | _ | _ | _ | kd
    · exact h0
    · rcases am_Li_h1 I call m i st h with ⟨r, hr⟩ | ⟨a, b, hr⟩
      · exact Or.inl ⟨r, fun k => hr _⟩
      · exact Or.inr ⟨pc + n, ls, a, b, fun k => hr _⟩
    · rcases am_Li_h2 (Hp := Hp) i pc n st with ⟨r, hr⟩ | ⟨a, b, hr⟩
      · exact Or.inl ⟨r, fun k => hr _⟩
      · exact Or.inr ⟨a, ls, b, h, fun k => hr _⟩
    · exact Or.inl ⟨_, fun _ => rfl⟩
    · exact h0
/-- so many steps at most -/
def am_F (I : am_O Hp) (call : Nat → List am_V → Hp → am_R Hp) (m : Nat) : Nat → Nat → am_L → List am_V → Hp → am_R Hp
  | 0 => fun _ _ _ _ => none
  | n + 1 => fun pc ls st h => am_st I call m (am_F I call m n) pc ls st h
theorem am_F_up (I : am_O Hp) (call : Nat → List am_V → Hp → am_R Hp) (m : Nat) : ∀ (n pc : Nat) (ls : am_L) (st : List am_V) (h : Hp) (r : Option am_V × Hp), am_F I call m n pc ls st h = some r → am_F I call m (n + 1) pc ls st h = some r := by
  intro n
  induction n with
  | zero => intro pc ls st h r e; cases e
  | succ n ih =>
    intro pc ls st h r e
    show am_st I call m (am_F I call m (n + 1)) pc ls st h = some r
    have e1 : am_st I call m (am_F I call m n) pc ls st h = some r := e
    rcases am_lin I call m pc ls st h with ⟨q, hq⟩ | ⟨a, b, c, d, hq⟩
    · rw [hq] at e1 ⊢; exact e1
    · rw [hq] at e1 ⊢; exact ih _ _ _ _ _ e1
theorem am_F_le (I : am_O Hp) (call : Nat → List am_V → Hp → am_R Hp) (m : Nat) {n n' pc : Nat} {ls : am_L} {st : List am_V} {h : Hp} {r : Option am_V × Hp} (hn : n ≤ n') (e : am_F I call m n pc ls st h = some r) : am_F I call m n' pc ls st h = some r := by
  induction hn with
  | refl => exact e
  | step _ ih => exact am_F_up I call m _ _ _ _ _ _ ih
noncomputable def am_X (I : am_O Hp) (call : Nat → List am_V → Hp → am_R Hp) (m pc : Nat) (ls : am_L) (st : List am_V) (h : Hp) : am_R Hp :=
  @dite (am_R Hp) (∃ r, ∃ n, am_F I call m n pc ls st h = some r) (Classical.propDecidable _) (fun q => some (Classical.choose q)) (fun _ => none)
theorem am_X_of {I : am_O Hp} {call : Nat → List am_V → Hp → am_R Hp} {m n pc : Nat} {ls : am_L} {st : List am_V} {h : Hp} {r : Option am_V × Hp} (e : am_F I call m n pc ls st h = some r) : am_X I call m pc ls st h = some r := by
  have q : ∃ r, ∃ n, am_F I call m n pc ls st h = some r := ⟨r, n, e⟩
  unfold am_X
  rw [dif_pos q]
  obtain ⟨n', e'⟩ := Classical.choose_spec q
  have h1 := am_F_le I call m (Nat.le_max_left n n') e
  have h2 := am_F_le I call m (Nat.le_max_right n n') e'
  exact h2.symm.trans h1
theorem am_X_ex {I : am_O Hp} {call : Nat → List am_V → Hp → am_R Hp} {m pc : Nat} {ls : am_L} {st : List am_V} {h : Hp} {r : Option am_V × Hp} (e : am_X I call m pc ls st h = some r) : ∃ n, am_F I call m n pc ls st h = some r := by
  unfold am_X at e
  by_cases q : ∃ r, ∃ n, am_F I call m n pc ls st h = some r
  · rw [dif_pos q] at e
    have h1 := Classical.choose_spec q
    rw [Option.some.inj e] at h1
    exact h1
  · rw [dif_neg q] at e
    cases e
theorem am_X_st (I : am_O Hp) (call : Nat → List am_V → Hp → am_R Hp) (m pc : Nat) (ls : am_L) (st : List am_V) (h : Hp) : am_X I call m pc ls st h = am_st I call m (am_X I call m) pc ls st h := by
  have key : ∀ r, am_X I call m pc ls st h = some r ↔ am_st I call m (am_X I call m) pc ls st h = some r := by
    intro r
    rcases am_lin I call m pc ls st h with ⟨q, hq⟩ | ⟨a, b, c, d, hq⟩
    · rw [hq]
      constructor
      · intro e
        obtain ⟨n, e⟩ := am_X_ex e
        cases n with
        | zero => cases e
        | succ n => exact (hq _).symm.trans e
      · intro e
        exact am_X_of (n := 1) ((hq _).trans e)
    · rw [hq]
      constructor
      · intro e
        obtain ⟨n, e⟩ := am_X_ex e
        cases n with
        | zero => cases e
        | succ n => exact am_X_of ((hq _).symm.trans e)
      · intro e
        obtain ⟨n, e⟩ := am_X_ex e
        exact am_X_of (n := n + 1) ((hq _).trans e)
  cases hx : am_X I call m pc ls st h with
  | some r => exact ((key r).mp hx).symm
  | none =>
    cases hy : am_st I call m (am_X I call m) pc ls st h with
    | none => rfl
    | some r => rw [(key r).mpr hy] at hx; cases hx
/-- many steps, till a place of cut -/
def am_k (I : am_O Hp) (call : Nat → List am_V → Hp → am_R Hp) (m : Nat) (cut : Nat → Bool) (k0 : Nat → am_L → List am_V → Hp → am_R Hp) : Nat → Nat → am_L → List am_V → Hp → am_R Hp
  | 0 => k0
  | n + 1 => fun pc ls st h => am_st I call m (fun pc' ls' st' h' => match cut pc' with
    | true => k0 pc' ls' st' h'
    | false => am_k I call m cut k0 n pc' ls' st' h') pc ls st h
theorem am_X_k (I : am_O Hp) (call : Nat → List am_V → Hp → am_R Hp) (m : Nat) (cut : Nat → Bool) : ∀ n, am_k I call m cut (am_X I call m) n = am_X I call m := by
  intro n
  induction n with
  | zero => rfl
  | succ n ih =>
    funext pc ls st h
    show am_st I call m (fun pc' ls' st' h' => match cut pc' with
      | true => am_X I call m pc' ls' st' h'
      | false => am_k I call m cut (am_X I call m) n pc' ls' st' h') pc ls st h = _
    rw [am_X_st I call m pc ls st h]
    congr 1
    funext pc' ls' st' h'
    cases cut pc'
    · exact congrFun (congrFun (congrFun (congrFun ih pc') ls') st') h'
    · rfl
/-- calls that agree on lower methods give the same run -/
theorem am_st_call (I : am_O Hp) {call call' : Nat → List am_V → Hp → am_R Hp} {m : Nat} (hc : ∀ c, am_ht c < am_ht m → ∀ as h, call c as h = call' c as h) (k : Nat → am_L → List am_V → Hp → am_R Hp) (pc : Nat) (ls : am_L) (st : List am_V) (h : Hp) : am_st I call m k pc ls st h = am_st I call' m k pc ls st h := by
  have hdo : ∀ (kk : List am_V → Hp → am_R Hp) (kd c na : Nat), am_do I call m kk kd c na st h = am_do I call' m kk kd c na st h := by
    intro kk kd c na
    unfold am_do
    cases hb : (Nat.ble na st.length && (Nat.ble (st.length - na) 4 && (Nat.blt (am_ht c) (am_ht m) && am_rcv I h kd c (st.take na).reverse))) with
    | false => rfl
    | true =>
      simp only [Bool.and_eq_true] at hb
      have hlt : am_ht c < am_ht m := Nat.le_of_ble_eq_true hb.2.2.1
      simp only [hc c hlt]
  unfold am_st
  rcases am_at m pc with _ | ⟨i, n⟩
  · rfl
  · show am_si I call m i n k pc ls st h = am_si I call' m i n k pc ls st h
    unfold am_si
    have h1 : ∀ kk, am_h1 I call m i st h kk = am_h1 I call' m i st h kk := by
      intro kk
      cases i
      case invokevirtual x =>
        show am_iv I call m _ st h kk = am_iv I call' m _ st h kk
        unfold am_iv
        split
        · exact hdo _ _ _ _
        · rfl
      case invokestatic x =>
        show am_is I call m _ st h kk = am_is I call' m _ st h kk
        unfold am_is
        split
        · exact hdo _ _ _ _
        · exact hdo _ _ _ _
        · rfl
      case invokespecial x =>
        show am_ip I call m _ st h kk = am_ip I call' m _ st h kk
        unfold am_ip
        split
        · exact hdo _ _ _ _
        · exact hdo _ _ _ _
        · rfl
        · rfl
      all_goals rfl
    rw [h1]
theorem am_X_call (I : am_O Hp) {call call' : Nat → List am_V → Hp → am_R Hp} {m : Nat} (hc : ∀ c, am_ht c < am_ht m → ∀ as h, call c as h = call' c as h) : am_X I call m = am_X I call' m := by
  have hF : ∀ n, am_F I call m n = am_F I call' m n := by
    intro n
    induction n with
    | zero => rfl
    | succ n ih =>
      funext pc ls st h
      show am_st I call m (am_F I call m n) pc ls st h = am_st I call' m (am_F I call' m n) pc ls st h
      rw [ih]
      exact am_st_call I hc _ _ _ _ _
  have hF2 : am_F I call m = am_F I call' m := funext hF
  funext pc ls st h
  unfold am_X
  rw [hF2]
/-- a method's locals at its start -/
def am_en (m : Nat) (as : List am_V) : am_L := as.map some ++ List.replicate (am_ml m - as.length) none
/-- no long among the arguments, and not too many -/
def am_nl (m : Nat) (as : List am_V) : Bool := as.all (fun v => match v with
  | .inr (.inr _) => false
  | _ => true) && Nat.ble as.length (am_ml m)
/-- what a method that isn't run by its rows answers: in(long, long, long) -/
def am_nt (as : List am_V) (h : Hp) : am_R Hp := match as with
  | [.inr (.inr v), .inr (.inr a), .inr (.inr b)] => some (some (.inl (if v < a then 0 else if b < v then 0 else 1)), h)
  | _ => none
noncomputable def am_run0 (I : am_O Hp) : Nat → Nat → List am_V → Hp → am_R Hp
  | 0 => fun _ _ _ => none
  | d + 1 => fun m as h => match Nat.beq (am_ht m) 0 with
    | true => none
    | false => match Nat.beq m mI_Mo_in with
      | true => am_nt as h
      | false => am_if (am_nl m as) (am_X I (am_run0 I d) m 0 (am_en m as) [] h)
noncomputable def am_run (I : am_O Hp) (m : Nat) (as : List am_V) (h : Hp) : am_R Hp := am_run0 I (am_ht m) m as h
theorem am_run_up (I : am_O Hp) : ∀ (n m : Nat), am_ht m < n → ∀ d, am_ht m ≤ d → am_run0 I d m = am_run0 I (am_ht m) m := by
  intro n
  induction n with
  | zero => intro m h; exact absurd h (Nat.not_lt_zero _)
  | succ n ih =>
    intro m hm d hd
    cases hh : am_ht m with
    | zero =>
      cases d with
      | zero => rfl
      | succ d =>
        funext as h
        show (match Nat.beq (am_ht m) 0 with | true => none | false => match Nat.beq m mI_Mo_in with | true => am_nt as h | false => am_if (am_nl m as) (am_X I (am_run0 I d) m 0 (am_en m as) [] h)) = none
        rw [hh]
    | succ a =>
      cases d with
      | zero => omega
      | succ d =>
        funext as h
        show (match Nat.beq (am_ht m) 0 with | true => none | false => match Nat.beq m mI_Mo_in with | true => am_nt as h | false => am_if (am_nl m as) (am_X I (am_run0 I d) m 0 (am_en m as) [] h)) = (match Nat.beq (am_ht m) 0 with | true => none | false => match Nat.beq m mI_Mo_in with | true => am_nt as h | false => am_if (am_nl m as) (am_X I (am_run0 I a) m 0 (am_en m as) [] h))
        rw [am_X_call I (call := am_run0 I d) (call' := am_run0 I a) (m := m) (fun c hc as h => by
          rw [ih c (by omega) d (by omega), ih c (by omega) a (by omega)])]
/-- a method's run, with the runs of those below it -/
noncomputable def am_ex (I : am_O Hp) (m pc : Nat) (ls : am_L) (st : List am_V) (h : Hp) : am_R Hp := am_X I (am_run I) m pc ls st h
theorem am_run_eq (I : am_O Hp) (m : Nat) (h0 : 0 < am_ht m) (hn : Nat.beq m mI_Mo_in = false) (as : List am_V) (h : Hp) : am_run I m as h = am_if (am_nl m as) (am_ex I m 0 (am_en m as) [] h) := by
  unfold am_run am_ex
  cases hh : am_ht m with
  | zero => omega
  | succ d =>
    show (match Nat.beq (am_ht m) 0 with | true => none | false => match Nat.beq m mI_Mo_in with | true => am_nt as h | false => am_if (am_nl m as) (am_X I (am_run0 I d) m 0 (am_en m as) [] h)) = _
    rw [hn, hh]
    show am_if (am_nl m as) (am_X I (am_run0 I d) m 0 (am_en m as) [] h) = _
    rw [am_X_call I (call := am_run0 I d) (call' := am_run I) (m := m) (fun c hc as h => by
      show _ = am_run0 I (am_ht c) c as h
      rw [am_run_up I (am_ht c + 1) c (Nat.lt_succ_self _) d (by omega)])]
theorem am_ex_k (I : am_O Hp) (m : Nat) (cut : Nat → Bool) (n pc : Nat) (ls : am_L) (st : List am_V) (h : Hp) : am_ex I m pc ls st h = am_k I (am_run I) m cut (am_ex I m) n pc ls st h := (congrFun (congrFun (congrFun (congrFun (am_X_k I (am_run I) m cut n) pc) ls) st) h).symm
end
end
section
/-! the memory of numbers: kinds of cells (a kind, which one of it, which slot), every reference that stays is told by the kinds -/
abbrev am_M : Type := Nat → Nat → Nat → Int32
/-- the class of an object of a kind -/
def am_kc (k : Nat) : Option Nat := match k with
  | 0 => some 8
  | 1 => some 4
  | 4 => some 0
  | 8 => some 1
  | 9 => some 5
  | 12 => some 6
  | 17 => some 3
  | 19 => some 2
  | 20 => some 7
  | 25 => some 9
  | 99 => some 12
  | _ => none
/-- what a field of an object of a kind is: an int (0), a boolean (1), always 0 (2), a reference to the cell of that kind -/
def am_fk (k f : Nat) : Option (Nat ⊕ Nat) := match k with
  | 0 => ([.inr 1, .inr 8, .inr 12, .inr 17, .inr 20] : List (Nat ⊕ Nat))[f]?
  | 1 => ([.inl 0, .inl 0, .inl 0, .inr 2, .inr 3] : List (Nat ⊕ Nat))[f]?
  | 4 => ([.inl 0, .inl 0, .inl 0, .inl 0, .inr 5, .inr 6, .inl 0, .inl 0, .inr 7, .inl 0, .inl 0] : List (Nat ⊕ Nat))[f]?
  | 8 => ([.inr 1, .inr 9, .inr 11] : List (Nat ⊕ Nat))[f]?
  | 9 => ([.inl 0, .inl 0, .inl 1, .inr 10] : List (Nat ⊕ Nat))[f]?
  | 12 => ([.inr 1, .inr 8, .inl 0, .inl 0, .inr 13, .inr 15, .inr 16, .inr 14] : List (Nat ⊕ Nat))[f]?
  | 17 => ([.inr 1, .inr 18, .inl 0, .inl 0, .inl 0, .inl 0, .inl 0] : List (Nat ⊕ Nat))[f]?
  | 19 => ([.inl 0, .inl 0, .inl 0, .inl 0, .inl 0, .inl 1, .inl 1, .inl 1] : List (Nat ⊕ Nat))[f]?
  | 20 => ([.inr 1, .inr 21, .inl 0, .inl 0, .inl 0, .inl 0, .inr 22, .inl 0, .inl 0, .inr 23, .inr 24] : List (Nat ⊕ Nat))[f]?
  | 25 => ([.inl 0, .inr 26, .inr 27, .inr 28, .inr 29, .inr 30, .inr 31, .inr 32, .inl 0, .inl 0, .inr 33, .inr 34, .inr 35, .inr 36, .inr 37, .inr 38, .inl 0, .inl 0, .inl 0, .inl 0, .inl 0, .inr 39, .inl 0, .inl 0, .inl 0, .inl 0, .inr 40, .inr 41, .inl 0, .inl 1, .inr 42, .inr 43, .inr 44, .inl 0, .inl 0, .inl 1, .inr 45, .inr 46, .inr 47, .inr 48, .inr 49] : List (Nat ⊕ Nat))[f]?
  | 99 => ([.inr 96, .inl 2] : List (Nat ⊕ Nat))[f]?
  | _ => none
/-- arrays: of what (0 int, 1 boolean, 2 flows, 3 letters), how long -/
def am_ka (k : Nat) : Option (Nat × Nat) := match k with
  | 2 => some (0, 64)
  | 3 => some (2, 3)
  | 5 => some (0, 8)
  | 6 => some (0, 8)
  | 7 => some (0, 8)
  | 10 => some (0, 8)
  | 11 => some (0, 64)
  | 13 => some (1, 256)
  | 14 => some (1, 256)
  | 15 => some (0, 256)
  | 16 => some (0, 256)
  | 18 => some (3, 12)
  | 21 => some (0, 200)
  | 22 => some (0, 120)
  | 23 => some (0, 3)
  | 24 => some (0, 3)
  | 26 => some (0, 64)
  | 27 => some (0, 3)
  | 28 => some (0, 3)
  | 29 => some (0, 3)
  | 30 => some (0, 3)
  | 31 => some (0, 24)
  | 32 => some (0, 24)
  | 33 => some (0, 3)
  | 34 => some (0, 3)
  | 35 => some (0, 24)
  | 36 => some (0, 3)
  | 37 => some (0, 3)
  | 38 => some (0, 96)
  | 39 => some (0, 200)
  | 40 => some (0, 3)
  | 41 => some (0, 3)
  | 42 => some (0, 4)
  | 43 => some (0, 24)
  | 44 => some (0, 8)
  | 45 => some (0, 3)
  | 46 => some (0, 64)
  | 47 => some (1, 256)
  | 48 => some (0, 256)
  | 49 => some (0, 256)
  | _ => none
def am_in (i : Int32) (n : Nat) : Bool := !(decide (i < 0)) && decide (i.toNatClampNeg < n)
def am_ix (i : Int32) : Nat := i.toNatClampNeg
def am_lx (x : Int32) : Nat := x.toNatClampNeg % 12
def am_or : List Int32 := [0, 1, 2, 0, 2, 1, 1, 0, 2, 1, 2, 0, 2, 0, 1, 2, 1, 0]
/-- the letters of the six words -/
def am_wd : List (List Int32) := [[110, 101, 116], [108, 105, 110, 107], [102, 108, 111, 119], [112, 111, 115, 116], [111, 108, 100], [110, 101, 119]]
def am_up (M : am_M) (a b c : Nat) (x : Int32) : am_M := fun a' b' c' => match Nat.beq a' a && (Nat.beq c' c && Nat.beq b' b) with
  | true => x
  | false => M a' b' c'
abbrev am_E : Type := Nat × (Nat → Int32)
def am_gf2 (M : am_M) (q : am_K) (ci f : Nat) : Option am_V := match am_kc q.1 with
  | none => none
  | some c => match Nat.beq c ci with
    | false => none
    | true => match am_fk q.1 f with
      | none => none
      | some (.inr k) => some (.inr (.inl (some (k, q.2))))
      | some (.inl 2) => some (.inl 0)
      | some (.inl _) => some (.inl (M q.1 q.2 f))
def am_pf2 (M : am_M) (q : am_K) (ci f : Nat) (v : am_V) : Bool × am_M := match am_kc q.1 with
  | none => (false, M)
  | some c => match Nat.beq c ci with
    | false => (false, M)
    | true => match am_fk q.1 f with
      | some (.inl 0) => match v with
        | .inl x => (true, am_up M q.1 q.2 f x)
        | _ => (false, M)
      | some (.inl 1) => match v with
        | .inl x => (am_z x, am_up M q.1 q.2 f x)
        | _ => (false, M)
      | _ => (false, M)
def am_al2 (E : am_E) (M : am_M) (ty : Nat) (q : am_K) (i : Int32) : Bool × am_V := match q.1 with
  | 98 => (Nat.beq ty 0 && am_in i 18, .inl (am_or.getD (am_ix i) 0))
  | 97 => (Nat.beq ty 0 && am_in i E.1, .inl (E.2 (am_ix i)))
  | 96 => (Nat.beq ty 1 && am_in i (am_wd.getD q.2 []).length, .inl ((am_wd.getD q.2 []).getD (am_ix i) 0))
  | _ => match am_ka q.1 with
    | some (0, n) => (Nat.beq ty 0 && am_in i n, .inl (M q.1 q.2 (am_ix i)))
    | some (1, n) => (Nat.beq ty 1 && am_in i n, .inl (M q.1 q.2 (am_ix i)))
    | some (2, n) => (Nat.beq ty 2 && am_in i n, .inr (.inl (some (4, am_ix i))))
    | some (3, n) => (Nat.beq ty 2 && am_in i n, .inr (.inl (some (19, am_lx (M q.1 q.2 (am_ix i))))))
    | _ => (false, .inl 0)
def am_as2 (M : am_M) (ty : Nat) (q : am_K) (i : Int32) (v : am_V) : Bool × am_M := match am_ka q.1 with
  | some (0, n) => match v with
    | .inl x => (Nat.beq ty 0 && am_in i n, am_up M q.1 q.2 (am_ix i) x)
    | _ => (false, M)
  | some (1, n) => match v with
    | .inl x => (Nat.beq ty 1 && (am_in i n && am_z x), am_up M q.1 q.2 (am_ix i) x)
    | _ => (false, M)
  | some (3, n) => match v with
    | .inr (.inl (some (19, j))) => (Nat.beq ty 2 && am_in i n, am_up M q.1 q.2 (am_ix i) (Int32.ofNat j))
    | _ => (false, M)
  | _ => (false, M)
def am_ln2 (E : am_E) (_ : am_M) (q : am_K) : Option Int32 := match q.1 with
  | 98 => some 18
  | 97 => some (Int32.ofNat E.1)
  | 96 => some (Int32.ofNat (am_wd.getD q.2 []).length)
  | _ => match am_ka q.1 with
    | some (_, n) => some (Int32.ofNat n)
    | none => none
def am_kl2 (_ : am_M) (q : am_K) : Option Nat := am_kc q.1
def am_I2 (E : am_E) : am_O am_M := (am_gf2, am_pf2, am_al2 E, am_as2, am_ln2 E, am_kl2, fun _ _ => none, fun M _ _ => (false, ((0, 0), M)))
end
section
/-! the heap as a list of cells, its operations; what of the machine's state it pictures -/
abbrev am_C : Type := (Nat × List am_V) ⊕ ((Nat × List Int32) ⊕ (Nat × List (Option am_K)))
abbrev am_H : Type := List am_C
/-- the place of a cell: in the order in which they are made -/
def am_ps (q : am_K) : Nat := match q.1 with
  | 0 => 0
  | 1 => 1
  | 2 => 2
  | 3 => 3
  | 4 => 4 + 4 * q.2
  | 5 => 5 + 4 * q.2
  | 6 => 6 + 4 * q.2
  | 7 => 7 + 4 * q.2
  | 8 => 16
  | 9 => 17
  | 10 => 18
  | 11 => 19
  | 12 => 20
  | 13 => 21
  | 14 => 22
  | 15 => 23
  | 16 => 24
  | 17 => 25
  | 18 => 26
  | 19 => 27 + q.2
  | 20 => 39
  | 21 => 40
  | 22 => 41
  | 23 => 42
  | 24 => 43
  | 25 => 44
  | 26 => 45
  | 27 => 46
  | 28 => 47
  | 29 => 48
  | 30 => 49
  | 31 => 50
  | 32 => 51
  | 33 => 52
  | 34 => 53
  | 35 => 54
  | 36 => 55
  | 37 => 56
  | 38 => 57
  | 39 => 58
  | 40 => 59
  | 41 => 60
  | 42 => 61
  | 43 => 62
  | 44 => 63
  | 45 => 64
  | 46 => 65
  | 47 => 66
  | 48 => 67
  | 49 => 68
  | _ => 1000
def am_nmT : List am_K := [(0, 0), (1, 0), (2, 0), (3, 0), (4, 0), (5, 0), (6, 0), (7, 0), (4, 1), (5, 1), (6, 1), (7, 1), (4, 2), (5, 2), (6, 2), (7, 2), (8, 0), (9, 0), (10, 0), (11, 0), (12, 0), (13, 0), (14, 0), (15, 0), (16, 0), (17, 0), (18, 0), (19, 0), (19, 1), (19, 2), (19, 3), (19, 4), (19, 5), (19, 6), (19, 7), (19, 8), (19, 9), (19, 10), (19, 11), (20, 0), (21, 0), (22, 0), (23, 0), (24, 0), (25, 0), (26, 0), (27, 0), (28, 0), (29, 0), (30, 0), (31, 0), (32, 0), (33, 0), (34, 0), (35, 0), (36, 0), (37, 0), (38, 0), (39, 0), (40, 0), (41, 0), (42, 0), (43, 0), (44, 0), (45, 0), (46, 0), (47, 0), (48, 0), (49, 0)]
def am_nm (n : Nat) : am_K := am_nmT.getD n (95, 0)
def am_tyT (ci : Nat) : List Nat := match ci with
  | 0 => [0, 0, 0, 0, 2, 2, 0, 0, 2, 0, 0]
  | 1 => [2, 2, 2]
  | 2 => [0, 0, 0, 0, 0, 1, 1, 1]
  | 3 => [2, 2, 0, 0, 0, 0, 0]
  | 4 => [0, 0, 0, 2, 2]
  | 5 => [0, 0, 1, 2]
  | 6 => [2, 2, 0, 0, 2, 2, 2, 2]
  | 7 => [2, 2, 0, 0, 0, 0, 2, 0, 0, 2, 2]
  | 8 => [2, 2, 2, 2, 2]
  | 9 => [0, 2, 2, 2, 2, 2, 2, 2, 0, 0, 2, 2, 2, 2, 2, 2, 0, 0, 0, 0, 0, 2, 0, 0, 0, 0, 2, 2, 0, 1, 2, 2, 2, 0, 0, 1, 2, 2, 2, 2, 2]
  | _ => []
/-- what a field takes: 0 int, 1 boolean, 2 reference -/
def am_ty (ci f : Nat) : Nat := (am_tyT ci).getD f 9
def am_dv (t : Nat) : am_V := match t with
  | 2 => .inr (.inl none)
  | _ => .inl 0
def am_df (ci : Nat) : List am_V := (am_tyT ci).map am_dv
def am_ft (ty : Nat) (v : am_V) : Bool := match ty, v with
  | 0, .inl _ => true
  | 1, .inl x => am_z x
  | 2, .inr (.inl none) => true
  | 2, .inr (.inl (some q)) => Nat.blt q.1 95
  | _, _ => false
def am_hg (h : am_H) (q : am_K) : Option am_C := match Nat.blt q.1 95 with
  | true => h[am_ps q]?
  | false => none
def am_gf1 (h : am_H) (q : am_K) (ci f : Nat) : Option am_V := match Nat.beq q.1 99 with
  | true => match Nat.beq ci 12 && Nat.blt q.2 6 with
    | true => match f with
      | 0 => some (.inr (.inl (some (96, q.2))))
      | 1 => some (.inl 0)
      | _ => none
    | false => none
  | false => match am_hg h q with
    | some (.inl (c, fs)) => match Nat.beq c ci with
      | true => fs[f]?
      | false => none
    | _ => none
def am_pf1 (h : am_H) (q : am_K) (ci f : Nat) (v : am_V) : Bool × am_H := match am_hg h q with
  | some (.inl (c, fs)) => (Nat.beq c ci && (Nat.blt f fs.length && am_ft (am_ty ci f) v), h.set (am_ps q) (.inl (c, fs.set f v)))
  | _ => (false, h)
def am_kq (o : Option am_K) : Bool := match o with
  | some q => Nat.blt q.1 95
  | none => true
def am_al1 (E : am_E) (h : am_H) (ty : Nat) (q : am_K) (i : Int32) : Bool × am_V := match q.1 with
  | 98 => (Nat.beq ty 0 && am_in i 18, .inl (am_or.getD (am_ix i) 0))
  | 97 => (Nat.beq ty 0 && am_in i E.1, .inl (E.2 (am_ix i)))
  | 96 => (Nat.blt q.2 6 && (Nat.beq ty 1 && am_in i (am_wd.getD q.2 []).length), .inl ((am_wd.getD q.2 []).getD (am_ix i) 0))
  | _ => match am_hg h q with
    | some (.inr (.inl (t, l))) => (Nat.blt t 2 && (Nat.beq ty t && am_in i l.length), .inl (l.getD (am_ix i) 0))
    | some (.inr (.inr (t, l))) => (Nat.beq ty 2 && (am_in i l.length && ((Nat.beq t 2 || Nat.beq t 3) && am_kq (l.getD (am_ix i) none))), .inr (.inl (l.getD (am_ix i) none)))
    | _ => (false, .inl 0)
/-- the class that the elements of an array of references have -/
def am_ec (t : Nat) : Nat := match t with
  | 2 => 0
  | _ => 2
def am_oc (h : am_H) (q : am_K) (ci : Nat) : Bool := match am_hg h q with
  | some (.inl (c, _)) => Nat.beq c ci
  | _ => false
def am_as1 (h : am_H) (ty : Nat) (q : am_K) (i : Int32) (v : am_V) : Bool × am_H := match am_hg h q with
  | some (.inr (.inl (t, l))) => match v with
    | .inl x => (Nat.beq ty t && (am_in i l.length && am_ft t v), h.set (am_ps q) (.inr (.inl (t, l.set (am_ix i) x))))
    | _ => (false, h)
  | some (.inr (.inr (t, l))) => match v with
    | .inr (.inl (some q')) => (Nat.beq ty 2 && (am_in i l.length && ((Nat.beq t 2 || Nat.beq t 3) && am_oc h q' (am_ec t))), h.set (am_ps q) (.inr (.inr (t, l.set (am_ix i) (some q')))))
    | _ => (false, h)
  | _ => (false, h)
def am_ln1 (E : am_E) (h : am_H) (q : am_K) : Option Int32 := match q.1 with
  | 98 => some 18
  | 97 => some (Int32.ofNat E.1)
  | 96 => match Nat.blt q.2 6 with
    | true => some (Int32.ofNat (am_wd.getD q.2 []).length)
    | false => none
  | _ => match am_hg h q with
    | some (.inr (.inl (t, l))) => match Nat.blt t 2 with
      | true => some (Int32.ofNat l.length)
      | false => none
    | some (.inr (.inr (t, l))) => match Nat.beq t 2 || Nat.beq t 3 with
      | true => some (Int32.ofNat l.length)
      | false => none
    | _ => none
def am_kl1 (h : am_H) (q : am_K) : Option Nat := match Nat.beq q.1 99 with
  | true => match Nat.blt q.2 6 with
    | true => some 12
    | false => none
  | false => match am_hg h q with
    | some (.inl (c, _)) => some c
    | _ => none
def am_fr (h : am_H) : Bool := Nat.beq (am_ps (am_nm h.length)) h.length && Nat.blt (am_nm h.length).1 95
def am_nw1 (h : am_H) (ci : Nat) : Option (am_K × am_H) := match am_fr h && Nat.blt ci 10 with
  | true => some (am_nm h.length, h ++ [.inl (ci, am_df ci)])
  | false => none
def am_nc1 (t n : Nat) : am_C := match Nat.blt t 2 with
  | true => .inr (.inl (t, List.replicate n 0))
  | false => .inr (.inr (t, List.replicate n none))
def am_na1 (h : am_H) (t : Nat) (x : Int32) : Bool × (am_K × am_H) := (am_fr h && (Nat.blt t 4 && am_in x 1000), (am_nm h.length, h ++ [am_nc1 t (am_ix x)]))
def am_I1 (E : am_E) : am_O am_H := (am_gf1, am_pf1, am_al1 E, am_as1, am_ln1 E, am_kl1, am_nw1, am_na1)
/-- how many slots a cell takes -/
def am_sc (c : am_C) : Nat := match c with
  | .inl (_, fs) => fs.length
  | .inr (.inl (_, l)) => l.length
  | .inr (.inr (_, l)) => l.length
def am_sl (h : am_H) : Nat := (h.map am_sc).sum
/-- THE PLACE z: the first address, ORDERS, the script, the six words and their bytes, the formatter, the classes of arrays, the classes' numbers and slots, the script's ints -/
abbrev am_N : Type := Nat × Nat × Nat × (Nat → Nat) × (Nat → Nat) × Value × (Nat → ClassId) × va_G × am_E
abbrev az_fv (z : am_N) : Value := z.2.2.2.2.2.1
abbrev az_cA (z : am_N) : Nat → ClassId := z.2.2.2.2.2.2.1
abbrev az_D (z : am_N) : va_G := z.2.2.2.2.2.2.2.1
abbrev az_E (z : am_N) : am_E := z.2.2.2.2.2.2.2.2
abbrev az_A (z : am_N) : Nat → Prop := fun q => z.1 ≤ q
def am_ad (z : am_N) (q : am_K) : Nat := match q.1 with
  | 99 => z.2.2.2.1 q.2
  | 98 => z.2.1
  | 97 => z.2.2.1
  | 96 => z.2.2.2.2.1 q.2
  | _ => z.1 + am_ps q
def am_vl (z : am_N) (v : am_V) : Value := match v with
  | .inl x => .int x
  | .inr (.inl none) => .null
  | .inr (.inl (some q)) => match Nat.beq q.1 95 with
    | true => az_fv z
    | false => .ref (am_ad z q)
  | .inr (.inr x) => .long x
def am_te (z : am_N) (c : am_C) : va_E := match c with
  | .inl (ci, fs) => .inr (ci, fs.map (am_vl z))
  | .inr (.inl (t, l)) => .inl (az_cA z t, l.length, .inl (fun j => l.getD j 0))
  | .inr (.inr (t, l)) => .inl (az_cA z t, l.length, .inr (.inr (.inr (.inr (fun j => (l.getD j none).map (am_ad z))))))
def am_pi1 (z : am_N) (h : am_H) : va_W := h.mapIdx (fun n c => (z.1 + n, am_te z c))
def am_W (z : am_N) (h : am_H) (H : Heap) : Prop := H.size = z.1 + h.length ∧ va_P (az_D z) am_cl0 (am_pi1 z h) H
def am_tys (z : am_N) : List (ClassId × FieldType) := [(az_cA z 0, .int), (az_cA z 1, .boolean), (az_cA z 2, .object "MixedRules$Flow"), (az_cA z 3, .object "MixedRules$Letter")]
def am_nest : List (String × Nat × MethodName) := [("MixedRules$Flow", 50, ⟨"MixedRules", "isPlace", "(II)Z"⟩), ("MixedRules$Mail", 21, ⟨"MixedRules$Letter", "<init>", "()V"⟩), ("MixedRules$Mail", 38, ⟨"MixedRules", "isPlace", "(II)Z"⟩), ("MixedRules$Net", 39, ⟨"MixedRules", "isPlace", "(II)Z"⟩), ("MixedRules$Planner", 66, ⟨"MixedRules", "isPlace", "(II)Z"⟩), ("MixedRules$Reader", 32, ⟨"MixedRules", "isPlace", "(II)Z"⟩)]
def am_six : List (Nat × String) := [(116, "net"), (117, "link"), (119, "flow"), (121, "post"), (123, "old"), (125, "new")]
def am_wl : List Nat := [3, 4, 4, 4, 3, 3]
/-- what stays of the machine's state: tables, constants, the script -/
def am_Xt (z : am_N) (U : State) : Prop :=
  va_K (az_D z) am_cl0 (am_tys z) U ∧ (∀ w ∈ am_nest, va_Nw (.methodLinkNest w.1 w.2.1 w.2.2 "MixedRules") U) ∧
  vk_S 6 am_wl am_wd z.2.2.2.1 z.2.2.2.2.1 (az_A z) U U.heap ∧ (∀ i q, am_six[i]? = some q → vk_R "MixedRules$Reader" q.1 q.2 (z.2.2.2.1 i) U) ∧
  va_Z "MixedRules" "ORDERS" "[I" (.ref z.2.1) (az_A z) U U.heap ∧ va_T .int z.2.1 18 (fun j => .int (am_or.getD j 0)) (az_A z) U U.heap ∧
  va_Z "java/lang/String" "COMPACT_STRINGS" "Z" (.int 1) (az_A z) U U.heap ∧ va_Z "jdk/internal/util/Preconditions" "SIOOBE_FORMATTER" "Ljava/util/function/BiFunction;" (az_fv z) (az_A z) U U.heap ∧
  va_AO "MixedRules$Flow" U ∧ va_AO "MixedRules$Letter" U ∧ va_X z.2.2.1 (az_E z).1 (az_E z).2 U U.heap ∧ z.2.2.1 < z.1 ∧ z.1 ≤ U.heap.size ∧ (az_fv z = .null ∨ ∃ a, az_fv z = .ref a)
theorem am_Xt_go {z : am_N} {s U : State} {locs : List Loc} (h : am_Xt z s) (hW : s.WarmedH U.vm) (hS : va_S (az_A z) s.heap U.heap locs) : am_Xt z U := by
  obtain ⟨h1, h2, h3, h4, h5, h6, h7, h8, h9, h10, h11, h12, h13, h14⟩ := h
  have hb : z.2.2.1 < s.heap.size := by omega
  refine ⟨va_K.moved hW.alike h1, fun w hw => (h2 w hw).warmM hW, vk_S.moved hW.alike (h3.kept hS.2.1), fun i q hi => (h4 i q hi).warm hW, va_Z.moved hW.alike (h5.kept hS.2.1), va_T.moved hW.alike (h6.kept hS.2.1), va_Z.moved hW.alike (h7.kept hS.2.1), va_Z.moved hW.alike (h8.kept hS.2.1), va_AO.moved hW.alike h9, va_AO.moved hW.alike h10, va_X.moved hW.alike (h11.kept (hS.2.1 _ hb (Nat.not_le.mpr h12))), h12, Nat.le_trans h13 hS.1, h14⟩
theorem am_Xt_call {z : am_N} {U : State} {g : JFrame} {mk : MethodId} {a : Array Value} (h : am_Xt z U) : am_Xt z (U.calling g mk a) := by
  have e1 : (U.calling g mk a).heap = U.heap := rfl
  exact am_Xt_go (locs := []) h (State.WarmedH.refl U) va_S.rf
-- pictures: reading, writing, making
theorem am_pi_at {z : am_N} {h : am_H} {n : Nat} {c : am_C} (e : h[n]? = some c) : (am_pi1 z h)[n]? = some (z.1 + n, am_te z c) := by
  unfold am_pi1
  rw [List.getElem?_mapIdx, e]
  rfl
theorem am_pi_D (z : am_N) (h : am_H) : va_D (az_A z) (am_pi1 z h) := by
  refine ⟨fun i j p q hi hj e => ?_, fun k q hk => ?_⟩
  · unfold am_pi1 at hi hj
    rw [List.getElem?_mapIdx] at hi hj
    cases h1 : h[i]? with
    | none => rw [h1] at hi; cases hi
    | some c =>
      cases h2 : h[j]? with
      | none => rw [h2] at hj; cases hj
      | some d =>
        rw [h1] at hi; rw [h2] at hj
        cases hi; cases hj
        have : z.1 + i = z.1 + j := e
        omega
  · unfold am_pi1 at hk
    rw [List.getElem?_mapIdx] at hk
    cases h1 : h[k]? with
    | none => rw [h1] at hk; cases hk
    | some c =>
      rw [h1] at hk
      cases hk
      show z.1 ≤ z.1 + k
      omega
theorem am_pi_set (z : am_N) (h : am_H) (n : Nat) (c : am_C) : (am_pi1 z h).set n (z.1 + n, am_te z c) = am_pi1 z (h.set n c) := by
  apply List.ext_getElem?
  intro i
  unfold am_pi1
  rw [List.getElem?_mapIdx, List.getElem?_set, List.getElem?_set, List.length_mapIdx, List.getElem?_mapIdx]
  by_cases e : n = i
  · subst e
    simp only [if_true]
    by_cases hl : n < h.length
    · simp [hl]
    · simp [hl]
  · simp [e]
theorem am_pi_app (z : am_N) (h : am_H) (c : am_C) : am_pi1 z (h ++ [c]) = am_pi1 z h ++ [(z.1 + h.length, am_te z c)] := by
  unfold am_pi1
  rw [List.mapIdx_append]
  simp
theorem am_sl_set {h : am_H} {n : Nat} {c c' : am_C} (e : h[n]? = some c) (hc : am_sc c' = am_sc c) : am_sl (h.set n c') = am_sl h := by
  unfold am_sl
  rw [List.map_set, hc]
  congr 1
  apply List.ext_getElem?
  intro i
  rw [List.getElem?_set]
  by_cases q : n = i
  · subst q
    obtain ⟨hl, e2⟩ := List.getElem?_eq_some_iff.mp e
    simp [hl, e2]
  · simp [q]
theorem am_sl_app (h : am_H) (c : am_C) : am_sl (h ++ [c]) = am_sl h + am_sc c := by
  unfold am_sl
  simp
end
section
/-! the machine's rows hold of the JVM: words, classes, locals, what touches locals and stack alone -/
def lw_G : List Cond := lw_tbl.filter goodWord
theorem lw_G_in {w : Cond} (h : w ∈ lw_tbl) (hg : goodWord w = true) : w ∈ lw_G := List.mem_filter.mpr ⟨h, hg⟩
theorem am_lk_mem {α : Type} {l : List (Nat × α)} {i : Nat} {x : α} (h : am_lk l i = some x) : (i, x) ∈ l := by
  induction l with
  | nil => cases h
  | cons a l ih =>
    obtain ⟨b, y⟩ := a
    unfold am_lk at h
    cases hb : Nat.beq b i with
    | true =>
      rw [hb] at h
      have := Nat.eq_of_beq_eq_true hb
      subst this
      cases h
      exact List.mem_cons_self
    | false =>
      rw [hb] at h
      exact List.mem_cons_of_mem _ (ih h)
theorem am_cmF {o i kd c na : Nat} (h : am_cm o i = some (kd, c, na)) : am_cmP o (i, (kd, c, na)) = true ∧ am_cmQ (i, (kd, c, na)) = true := by
  have hm := am_lk_mem h
  have key : (fun e => am_cmP o e && am_cmQ e) (i, (kd, c, na)) = true := by
    match o, hm with
    | 0, hm => exact List.all_eq_true.mp am_cm_ok0 _ hm
    | 1, hm => exact List.all_eq_true.mp am_cm_ok1 _ hm
    | 2, hm => exact List.all_eq_true.mp am_cm_ok2 _ hm
    | 3, hm => exact List.all_eq_true.mp am_cm_ok3 _ hm
    | 4, hm => exact List.all_eq_true.mp am_cm_ok4 _ hm
    | 5, hm => exact List.all_eq_true.mp am_cm_ok5 _ hm
    | 6, hm => exact List.all_eq_true.mp am_cm_ok6 _ hm
    | 7, hm => exact List.all_eq_true.mp am_cm_ok7 _ hm
    | 8, hm => exact List.all_eq_true.mp am_cm_ok8 _ hm
    | 9, hm => exact List.all_eq_true.mp am_cm_ok9 _ hm
    | 10, hm => cases hm
    | 11, hm => cases hm
    | 12, hm => exact List.all_eq_true.mp am_cm_ok12 _ hm
    | 13, hm => exact List.all_eq_true.mp am_cm_ok13 _ hm
    | 14, hm => exact List.all_eq_true.mp am_cm_ok14 _ hm
    | 15, hm => cases hm
    | n + 16, hm => cases hm
  exact (Bool.and_eq_true _ _).mp key |>.imp id id
theorem am_cfF {o i ci f : Nat} (h : am_cf o i = some (ci, f)) : Cond.fieldLink (am_cn o) i (am_cn ci) (am_fn ci f).1 (am_fn ci f).2 ∈ lw_tbl ∧ f < am_nf ci := by
  have hm := am_lk_mem h
  have key : (fun e : Nat × (Nat × Nat) => am_cfP o e (am_fn e.2.1 e.2.2) && Nat.blt e.2.2 (am_nf e.2.1)) (i, (ci, f)) = true := by
    match o, hm with
    | 0, hm => exact List.all_eq_true.mp am_cf_ok0 _ hm
    | 1, hm => exact List.all_eq_true.mp am_cf_ok1 _ hm
    | 2, hm => exact List.all_eq_true.mp am_cf_ok2 _ hm
    | 3, hm => exact List.all_eq_true.mp am_cf_ok3 _ hm
    | 4, hm => exact List.all_eq_true.mp am_cf_ok4 _ hm
    | 5, hm => exact List.all_eq_true.mp am_cf_ok5 _ hm
    | 6, hm => exact List.all_eq_true.mp am_cf_ok6 _ hm
    | 7, hm => exact List.all_eq_true.mp am_cf_ok7 _ hm
    | 8, hm => exact List.all_eq_true.mp am_cf_ok8 _ hm
    | 9, hm => exact List.all_eq_true.mp am_cf_ok9 _ hm
    | 10, hm => cases hm
    | 11, hm => cases hm
    | 12, hm => exact List.all_eq_true.mp am_cf_ok12 _ hm
    | 13, hm => cases hm
    | 14, hm => cases hm
    | 15, hm => cases hm
    | n + 16, hm => cases hm
  simp only [Bool.and_eq_true] at key
  obtain ⟨k1, k2⟩ := key
  refine ⟨?_, Nat.le_of_ble_eq_true k2⟩
  unfold am_cfP at k1
  dsimp only at k1
  cases hp : am_lk (am_pfT o) i with
  | none => rw [hp] at k1; cases k1
  | some p => rw [hp] at k1; exact am_wi_in k1
theorem am_ccF {o i ci : Nat} (h : am_cc o i = some ci) : Cond.classLink (am_cn o) i (am_cn ci) ∈ lw_tbl := by
  have hm := am_lk_mem h
  have key : (match am_lk (am_pcT o) i with | none => false | some p => am_wi p (.classLink (am_cn o) i (am_cn ci))) = true := by
    match o, hm with
    | 0, hm => cases hm
    | 1, hm => exact List.all_eq_true.mp am_cc_ok1 _ hm
    | 2, hm => cases hm
    | 3, hm => exact List.all_eq_true.mp am_cc_ok3 _ hm
    | 4, hm => exact List.all_eq_true.mp am_cc_ok4 _ hm
    | 5, hm => cases hm
    | 6, hm => cases hm
    | 7, hm => cases hm
    | 8, hm => exact List.all_eq_true.mp am_cc_ok8 _ hm
    | 9, hm => cases hm
    | 10, hm => cases hm
    | 11, hm => cases hm
    | 12, hm => cases hm
    | 13, hm => cases hm
    | 14, hm => exact List.all_eq_true.mp am_cc_ok14 _ hm
    | 15, hm => cases hm
    | n + 16, hm => cases hm
  cases hp : am_lk (am_pcT o) i with
  | none => rw [hp] at key; cases key
  | some p => rw [hp] at key; exact am_wi_in key
def am_T (ci : Nat) : u_T := match ci with
  | 0 => TX0
  | 1 => TX1
  | 2 => TX2
  | 3 => TX3
  | 4 => TX4
  | 5 => TX5
  | 6 => TX6
  | 7 => TX7
  | 8 => TX8
  | _ => TX9
def am_tyF (ci : Nat) : Nat → FieldType := match ci with
  | 0 => tyX0
  | 1 => tyX1
  | 2 => tyX2
  | 3 => tyX3
  | 4 => tyX4
  | 5 => tyX5
  | 6 => tyX6
  | 7 => tyX7
  | 8 => tyX8
  | _ => tyX9
/-- what a field of a type takes -/
def am_tt (t : Nat) (ty : FieldType) : Bool := match t, ty with
  | 0, .int => true
  | 1, .boolean => true
  | 2, .object _ => true
  | 2, .array _ => true
  | _, _ => false
theorem am_tts : (List.range 10).all (fun ci => (List.range (am_nf ci)).all (fun k => am_tt (am_ty ci k) (am_tyF ci k) && Nat.beq (am_tyT ci).length (am_nf ci))) = true := by decide +kernel
/-- the facts of a class -/
theorem am_cls {ci : Nat} (h : ci < 10) : am_cl0[ci]? = some (am_cn ci, am_T ci, am_nf ci) ∧ (∀ w ∈ u_ws (am_cn ci) (am_T ci) (am_nf ci), w ∈ lw_G) ∧ (∀ k, k < am_nf ci → parseFieldDescriptor (am_T ci k).2.2.1 = some (am_tyF ci k)) ∧ (∀ a, a < am_nf ci → ∀ b, b < am_nf ci → a ≠ b → (am_T ci a).2.1 ≠ (am_T ci b).2.1) ∧ (∀ k, k < am_nf ci → am_ff ci k = (am_T ci k).2.2.2 ∧ (am_T ci k).1 = am_cn ci) ∧ ∀ k, am_fn ci k = ((am_T ci k).2.1, (am_T ci k).2.2.1) := by
  have lays : ∀ {C : String} {T : u_T} {N : Nat} {g : Nat → Nat}, (List.range N).all (fun k => am_wi (g k) (u_lay C T k) && goodWord (u_lay C T k)) = true → ∀ w ∈ u_ws C T N, w ∈ lw_G := by
    intro C T N g hg w hw
    obtain ⟨k, hk, rfl⟩ := List.mem_map.mp hw
    have h1 := List.all_eq_true.mp hg k hk
    simp only [Bool.and_eq_true] at h1
    exact lw_G_in (am_wi_in h1.1) h1.2
  have flags : ∀ {i N : Nat} {T : u_T}, (List.range N).all (fun k => decide (am_ff i k = (T k).2.2.2 ∧ (T k).1 = am_cn i)) = true → ∀ k, k < N → am_ff i k = (T k).2.2.2 ∧ (T k).1 = am_cn i := fun hg k hk => of_decide_eq_true (List.all_eq_true.mp hg k (List.mem_range.mpr hk))
  match ci, h with
  | 0, _ => exact ⟨rfl, lays am_py0, tyX0_ok, nmX0, flags am_fl0, fun _ => rfl⟩
  | 1, _ => exact ⟨rfl, lays am_py1, tyX1_ok, nmX1, flags am_fl1, fun _ => rfl⟩
  | 2, _ => exact ⟨rfl, lays am_py2, tyX2_ok, nmX2, flags am_fl2, fun _ => rfl⟩
  | 3, _ => exact ⟨rfl, lays am_py3, tyX3_ok, nmX3, flags am_fl3, fun _ => rfl⟩
  | 4, _ => exact ⟨rfl, lays am_py4, tyX4_ok, nmX4, flags am_fl4, fun _ => rfl⟩
  | 5, _ => exact ⟨rfl, lays am_py5, tyX5_ok, nmX5, flags am_fl5, fun _ => rfl⟩
  | 6, _ => exact ⟨rfl, lays am_py6, tyX6_ok, nmX6, flags am_fl6, fun _ => rfl⟩
  | 7, _ => exact ⟨rfl, lays am_py7, tyX7_ok, nmX7, flags am_fl7, fun _ => rfl⟩
  | 8, _ => exact ⟨rfl, lays am_py8, tyX8_ok, nmX8, flags am_fl8, fun _ => rfl⟩
  | 9, _ => exact ⟨rfl, lays am_py9, tyX9_ok, nmX9, flags am_fl9, fun _ => rfl⟩
-- locals
def am_ll (z : am_N) (ls : am_L) : List (Nat × Value) := ls.zipIdx.filterMap (fun q => q.1.map fun v => (q.2, am_vl z v))
theorem am_ll_mem {z : am_N} {ls : am_L} {q : Nat × Value} : q ∈ am_ll z ls ↔ ∃ v, ls[q.1]? = some (some v) ∧ am_vl z v = q.2 := by
  unfold am_ll
  rw [List.mem_filterMap]
  constructor
  · rintro ⟨⟨o, i⟩, h1, h2⟩
    have h3 := List.mk_mem_zipIdx_iff_getElem?.mp h1
    cases o with
    | none => cases h2
    | some v =>
      cases h2
      exact ⟨v, h3, rfl⟩
  · rintro ⟨v, h1, h2⟩
    exact ⟨(some v, q.1), List.mk_mem_zipIdx_iff_getElem?.mpr h1, by simp [h2]⟩
def am_Lr (z : am_N) (nL : Nat) (ls : am_L) (lsJ : Array Slot) : Prop := ls.length = nL ∧ lv_has lsJ nL (am_ll z ls) ∧ ∀ (i : Nat) (v : am_V), ls[i]? = some (some v) → (am_vl z v).category = 1
theorem am_Lr_get {z : am_N} {nL j : Nat} {ls : am_L} {lsJ : Array Slot} {v : am_V} (h : am_Lr z nL ls lsJ) (e : ls.getD j none = some v) : lsJ[j]? = some (.val (am_vl z v)) := by
  refine h.2.1.2.2 (j, am_vl z v) (am_ll_mem.mpr ⟨v, ?_, rfl⟩)
  rw [List.getD_eq_getElem?_getD] at e
  cases h1 : ls[j]? with
  | none => rw [h1] at e; cases e
  | some o => rw [h1] at e; simp only [Option.getD_some] at e; rw [e]
theorem am_Lr_set {z : am_N} {nL j : Nat} {ls : am_L} {lsJ ls' : Array Slot} {v : am_V} (h : am_Lr z nL ls lsJ) (hc : (am_vl z v).category = 1) (h' : lv_has ls' nL ((j, am_vl z v) :: (am_ll z ls).filter (fun q => !(q.1 == j) && !(q.1 + 1 == j && q.2.category == 2)))) : am_Lr z nL (ls.set j (some v)) ls' := by
  refine ⟨by rw [List.length_set]; exact h.1, ⟨h'.1, h'.2.1, fun q hq => ?_⟩, fun i w hw => ?_⟩
  · obtain ⟨w, h1, h2⟩ := am_ll_mem.mp hq
    rw [List.getElem?_set] at h1
    by_cases hj : j = q.1
    · rw [if_pos hj] at h1
      by_cases hl : j < ls.length
      · rw [if_pos hl] at h1
        cases h1
        refine h'.2.2 q (List.mem_cons.mpr (Or.inl ?_))
        obtain ⟨a, b⟩ := q
        cases hj; cases h2
        rfl
      · rw [if_neg hl] at h1; cases h1
    · rw [if_neg hj] at h1
      refine h'.2.2 q (List.mem_cons_of_mem _ (List.mem_filter.mpr ⟨am_ll_mem.mpr ⟨w, h1, h2⟩, ?_⟩))
      have hc2 := h.2.2 _ _ h1
      rw [h2] at hc2
      simp [Ne.symm hj, hc2]
  · rw [List.getElem?_set] at hw
    by_cases hj : j = i
    · rw [if_pos hj] at hw
      by_cases hl : j < ls.length
      · rw [if_pos hl] at hw; cases hw; exact hc
      · rw [if_neg hl] at hw; cases hw
    · rw [if_neg hj] at hw
      exact h.2.2 _ _ hw
theorem am_if_some {α : Type} {b : Bool} {x : Option α} {r : α} (h : am_if b x = some r) : b = true ∧ x = some r := by
  cases b with
  | false => cases h
  | true => exact ⟨rfl, h⟩
theorem am_ci_eq (a : Int) : Int32.ofInt a = am_ci a := by
  cases a with
  | ofNat k => exact Int32.ofInt_eq_ofNat
  | negSucc k =>
    show _ = -(Int32.ofNat (k + 1))
    rw [Int32.neg_ofNat]
    rfl
theorem am_ci8 {a : Int} (h1 : -128 ≤ a) (h2 : a ≤ 127) : (Int8.ofInt a).toInt32 = am_ci a := by
  rw [← am_ci_eq]
  apply Int32.toInt_inj.mp
  rw [Int8.toInt_toInt32, Int8.toInt_ofInt_of_le (by simpa using h1) (by simpa using (by omega : a < 128)), Int32.toInt_ofInt_of_le (by simp; omega) (by simp; omega)]
theorem am_ci16 {a : Int} (h1 : -32768 ≤ a) (h2 : a ≤ 32767) : (Int16.ofInt a).toInt32 = am_ci a := by
  rw [← am_ci_eq]
  apply Int32.toInt_inj.mp
  rw [Int16.toInt_toInt32, Int16.toInt_ofInt_of_le (by simpa using h1) (by simpa using (by omega : a < 32768)), Int32.toInt_ofInt_of_le (by simp; omega) (by simp; omega)]
theorem am_ldi_some {ls ls' : am_L} {j : Nat} {st st' : List am_V} (h : am_ldi ls j st = some (ls', st')) : ∃ x, ls.getD j none = some (.inl x) ∧ ls' = ls ∧ st' = .inl x :: st := by
  unfold am_ldi at h
  rcases hq : ls.getD j none with _ | x | x
  · rw [hq] at h; cases h
  · rw [hq] at h; cases h; exact ⟨x, rfl, rfl, rfl⟩
  · rw [hq] at h; cases h
theorem am_lda_some {ls ls' : am_L} {j : Nat} {st st' : List am_V} (h : am_lda ls j st = some (ls', st')) : ∃ x, ls.getD j none = some (.inr (.inl x)) ∧ ls' = ls ∧ st' = .inr (.inl x) :: st := by
  unfold am_lda at h
  rcases hq : ls.getD j none with _ | x | x | x
  · rw [hq] at h; cases h
  · rw [hq] at h; cases h
  · rw [hq] at h; cases h; exact ⟨x, rfl, rfl, rfl⟩
  · rw [hq] at h; cases h
theorem am_sti_some {ls ls' : am_L} {j : Nat} {st st' : List am_V} (h : am_sti ls j st = some (ls', st')) : ∃ x, st = .inl x :: st' ∧ j < ls.length ∧ ls' = ls.set j (some (.inl x)) := by
  rcases st with _ | ⟨x | x, r⟩
  · cases h
  · obtain ⟨h1, h2⟩ := am_if_some (show am_if (Nat.blt j ls.length) (some (ls.set j (some (.inl x)), r)) = some (ls', st') from h)
    cases h2
    exact ⟨x, rfl, Nat.le_of_ble_eq_true h1, rfl⟩
  · cases h
theorem am_sta_some {ls ls' : am_L} {j : Nat} {st st' : List am_V} (h : am_sta ls j st = some (ls', st')) : ∃ x, st = .inr (.inl x) :: st' ∧ j < ls.length ∧ ls' = ls.set j (some (.inr (.inl x))) := by
  rcases st with _ | ⟨x | x | x, r⟩
  · cases h
  · cases h
  · obtain ⟨h1, h2⟩ := am_if_some (show am_if (Nat.blt j ls.length) (some (ls.set j (some (.inr (.inl x))), r)) = some (ls', st') from h)
    cases h2
    exact ⟨x, rfl, Nat.le_of_ble_eq_true h1, rfl⟩
  · cases h
theorem am_b2_some {f : Int32 → Int32 → Int32} {ls ls' : am_L} {st st' : List am_V} (h : am_b2 f ls st = some (ls', st')) : ∃ y x r, st = .inl y :: .inl x :: r ∧ ls' = ls ∧ st' = .inl (f x y) :: r := by
  rcases st with _ | ⟨y | y, _ | ⟨x | x, r⟩⟩
  · cases h
  · cases h
  · cases h; exact ⟨y, x, r, rfl, rfl, rfl⟩
  · cases h
  · cases h
  · cases h
  · cases h
theorem am_vl_ref {z : am_N} (hz : az_fv z = .null ∨ ∃ a, az_fv z = .ref a) (r : Option am_K) : am_vl z (.inr (.inl r)) = .null ∨ ∃ a, am_vl z (.inr (.inl r)) = .ref a := by
  rcases r with _ | q
  · exact Or.inl rfl
  · show (match Nat.beq q.1 95 with | true => az_fv z | false => Value.ref (am_ad z q)) = .null ∨ ∃ a, (match Nat.beq q.1 95 with | true => az_fv z | false => Value.ref (am_ad z q)) = .ref a
    cases Nat.beq q.1 95
    · exact Or.inr ⟨_, rfl⟩
    · exact hz
theorem am_ckF {o i : Nat} {x : Int32} (h : am_ck o i = some (.inl x)) : Cond.constant (am_cn o) i x ∈ lw_tbl := by
  have hm := am_lk_mem h
  have key : (match am_lk (am_pkT o) i with | none => false | some p => am_wi p (.constant (am_cn o) i x)) = true := by
    match o, hm with
    | 0, hm => cases hm
    | 1, hm => cases hm
    | 2, hm => cases hm
    | 3, hm => cases hm
    | 4, hm => cases hm
    | 5, hm => cases hm
    | 6, hm => cases hm
    | 7, hm => exact List.all_eq_true.mp am_ck_ok7 _ hm
    | 8, hm => cases hm
    | 9, hm => cases hm
    | 10, hm => exact List.all_eq_true.mp am_ck_ok10 _ hm
    | 11, hm => cases hm
    | 12, hm => cases hm
    | 13, hm => cases hm
    | 14, hm => cases hm
    | 15, hm => cases hm
    | n + 16, hm => cases hm
  cases hp : am_lk (am_pkT o) i with
  | none => rw [hp] at key; cases key
  | some p => rw [hp] at key; exact am_wi_in key
theorem am_ckS {o i k : Nat} (h : am_ck o i = some (.inr k)) : o = 7 ∧ ∃ q, am_six[k]? = some q ∧ q.1 = i := by
  have hm := am_lk_mem h
  have h10 : ∀ (i k : Nat), ¬ ((i, Sum.inr k) : Nat × (Int32 ⊕ Nat)) ∈ am_ckT 10 := by
    intro i k hm
    simp [am_ckT] at hm
  have h7 : ∀ (i k : Nat), ((i, Sum.inr k) : Nat × (Int32 ⊕ Nat)) ∈ am_ckT 7 → ∃ q, am_six[k]? = some q ∧ q.1 = i := by
    intro i k hm
    simp [am_ckT] at hm
    rcases hm with ⟨rfl, rfl⟩ | ⟨rfl, rfl⟩ | ⟨rfl, rfl⟩ | ⟨rfl, rfl⟩ | ⟨rfl, rfl⟩ | ⟨rfl, rfl⟩ <;> exact ⟨_, rfl, rfl⟩
  match o, hm with
  | 0, hm => cases hm
  | 1, hm => cases hm
  | 2, hm => cases hm
  | 3, hm => cases hm
  | 4, hm => cases hm
  | 5, hm => cases hm
  | 6, hm => cases hm
  | 7, hm => exact ⟨rfl, h7 i k hm⟩
  | 8, hm => cases hm
  | 9, hm => cases hm
  | 10, hm => exact absurd hm (h10 i k)
  | 11, hm => cases hm
  | 12, hm => cases hm
  | 13, hm => cases hm
  | 14, hm => cases hm
  | 15, hm => cases hm
  | n + 16, hm => cases hm
theorem am_clF {o i : Nat} {x : Int64} (h : am_cl o i = some x) : Cond.constantLong (am_cn o) i x ∈ lw_tbl := by
  have hm := am_lk_mem h
  have key : (match am_lk (am_plT o) i with | none => false | some p => am_wi p (.constantLong (am_cn o) i x)) = true := by
    match o, hm with
    | 0, hm => cases hm
    | 1, hm => cases hm
    | 2, hm => cases hm
    | 3, hm => cases hm
    | 4, hm => cases hm
    | 5, hm => cases hm
    | 6, hm => cases hm
    | 7, hm => cases hm
    | 8, hm => cases hm
    | 9, hm => exact List.all_eq_true.mp am_cl_ok9 _ hm
    | 10, hm => cases hm
    | 11, hm => cases hm
    | 12, hm => cases hm
    | 13, hm => cases hm
    | 14, hm => cases hm
    | 15, hm => cases hm
    | n + 16, hm => cases hm
  cases hp : am_lk (am_plT o) i with
  | none => rw [hp] at key; cases key
  | some p => rw [hp] at key; exact am_wi_in key
end
section
/-! what touches locals and stack alone holds of the JVM -/
section
variable {p : Program} {l : Launch} {e : Env} {R : Room} {s : State} {mid : MethodId} {args : Array Value} {below : List Frame} {meth : Method} {c : Code} {H : Heap} {locs : List Loc} {cells slots : Nat} {Q : State → Prop} {z : am_N} {nL pc n m : Nat} {ls ls' : am_L} {st st' : List am_V} {lsJ : Array Slot} {i : Instr}
theorem am_gsF {o k : Nat} {v : Int32 ⊕ Nat} (h : am_gs o k = some v) : (o = 8 ∧ v = .inr 98 ∧ Cond.fieldLink (am_cn 8) k "MixedRules" "ORDERS" "[I" ∈ lw_tbl) ∨ (o = 12 ∧ v = .inl 1 ∧ Cond.fieldLink (am_cn 12) k "java/lang/String" "COMPACT_STRINGS" "Z" ∈ lw_tbl) ∨ (o = 12 ∧ v = .inr 95 ∧ Cond.fieldLink (am_cn 12) k "jdk/internal/util/Preconditions" "SIOOBE_FORMATTER" "Ljava/util/function/BiFunction;" ∈ lw_tbl) := by
  have hm := am_lk_mem h
  have h8 : ∀ (k : Nat) (v : Int32 ⊕ Nat), (k, v) ∈ am_gsT 8 → v = .inr 98 ∧ Cond.fieldLink (am_cn 8) k "MixedRules" "ORDERS" "[I" ∈ lw_tbl := by
    intro k v hm
    simp [am_gsT] at hm
    obtain ⟨rfl, rfl⟩ := hm
    exact ⟨rfl, am_wi_in am_gs8⟩
  have h12 : ∀ (k : Nat) (v : Int32 ⊕ Nat), (k, v) ∈ am_gsT 12 → (v = .inl 1 ∧ Cond.fieldLink (am_cn 12) k "java/lang/String" "COMPACT_STRINGS" "Z" ∈ lw_tbl) ∨ (v = .inr 95 ∧ Cond.fieldLink (am_cn 12) k "jdk/internal/util/Preconditions" "SIOOBE_FORMATTER" "Ljava/util/function/BiFunction;" ∈ lw_tbl) := by
    intro k v hm
    simp [am_gsT] at hm
    rcases hm with ⟨rfl, rfl⟩ | ⟨rfl, rfl⟩
    · exact Or.inl ⟨rfl, am_wi_in am_gs12_38⟩
    · exact Or.inr ⟨rfl, am_wi_in am_gs12_1053⟩
  match o, hm with
  | 0, hm => cases hm
  | 1, hm => cases hm
  | 2, hm => cases hm
  | 3, hm => cases hm
  | 4, hm => cases hm
  | 5, hm => cases hm
  | 6, hm => cases hm
  | 7, hm => cases hm
  | 8, hm => exact Or.inl ⟨rfl, h8 k v hm⟩
  | 9, hm => cases hm
  | 10, hm => cases hm
  | 11, hm => cases hm
  | 12, hm =>
    rcases h12 k v hm with q | q
    · exact Or.inr (Or.inl ⟨rfl, q⟩)
    · exact Or.inr (Or.inr ⟨rfl, q⟩)
  | 13, hm => cases hm
  | 14, hm => cases hm
  | 15, hm => cases hm
  | n + 16, hm => cases hm
theorem am_cat1 {v : am_V} (hz : az_fv z = .null ∨ ∃ a, az_fv z = .ref a) (h : (match v with | .inr (.inr _) => false | _ => true) = true) : (am_vl z v).category = 1 := by
  rcases v with x | r | x
  · rfl
  · rcases am_vl_ref hz r with q | ⟨a, q⟩ <;> rw [q] <;> rfl
  · cases h
theorem am_pu_W (hx : p.tables.exec = Jvm.exec) (hb : c.code = am_by m) (hown : s.vm.findClass (am_cn (am_ow m)) = some mid.cls) (hts : ∀ w ∈ lw_G, w.before args s = true) (hXt : am_Xt z s) (hS : va_S (az_A z) s.heap H locs)
    (hd : decode (am_by m) pc = .ok (i, n)) (hl : am_lk1 i n = true) (hL : am_Lr z nL ls lsJ) (he : am_pu (am_ow m) i ls st = some (ls', st'))
    (k : ∀ lsJ', am_Lr z nL ls' lsJ' → W p l e R s mid args below meth c H locs cells slots Q (F0 mid (pc + n) lsJ' (st'.map (am_vl z)))) : W p l e R s mid args below meth c H locs cells slots Q (F0 mid pc lsJ (st.map (am_vl z))) := by
  have hfv : az_fv z = .null ∨ ∃ a, az_fv z = .ref a := hXt.2.2.2.2.2.2.2.2.2.2.2.2.2
  have ldI : ∀ {j : Nat}, am_ldi ls j st = some (ls', st') → ∃ x, lsJ[j]? = some (.val (.int x)) ∧ ls' = ls ∧ st' = .inl x :: st := by
    intro j h
    obtain ⟨x, h1, h2, h3⟩ := am_ldi_some h
    exact ⟨x, am_Lr_get hL h1, h2, h3⟩
  have stI : ∀ {j : Nat}, am_sti ls j st = some (ls', st') → ∃ x, st = .inl x :: st' ∧ j < nL ∧ ∀ lsN, lv_has lsN nL ((j, .int x) :: (am_ll z ls).filter (fun q => !(q.1 == j) && !(q.1 + 1 == j && q.2.category == 2))) → am_Lr z nL ls' lsN := by
    intro j h
    obtain ⟨x, h1, h2, h3⟩ := am_sti_some h
    refine ⟨x, h1, by rw [← hL.1]; exact h2, fun lsN hN => ?_⟩
    rw [h3]
    exact am_Lr_set (v := .inl x) hL rfl hN
  have stA : ∀ {j : Nat}, am_sta ls j st = some (ls', st') → ∃ x, st = .inr (.inl x) :: st' ∧ j < nL ∧ ∀ lsN, lv_has lsN nL ((j, am_vl z (.inr (.inl x))) :: (am_ll z ls).filter (fun q => !(q.1 == j) && !(q.1 + 1 == j && q.2.category == 2))) → am_Lr z nL ls' lsN := by
    intro j h
    obtain ⟨x, h1, h2, h3⟩ := am_sta_some h
    refine ⟨x, h1, by rw [← hL.1]; exact h2, fun lsN hN => ?_⟩
    rw [h3]
    exact am_Lr_set (v := .inr (.inl x)) hL (am_cat1 hfv rfl) hN
  have b2 : ∀ {f : Int32 → Int32 → Int32}, am_b2 f ls st = some (ls', st') → ∃ y x r, st = .inl y :: .inl x :: r ∧ ls' = ls ∧ st' = .inl (f x y) :: r := am_b2_some
  cases i
  case iconst a =>
    obtain rfl : 1 = n := Nat.eq_of_beq_eq_true hl
    cases he
    exact lv_iconst hx hb hd (am_ci_eq a) (k lsJ hL)
  case bipush a =>
    obtain rfl : 2 = n := Nat.eq_of_beq_eq_true hl
    have he : (match decide (-128 ≤ a ∧ a ≤ 127) with | true => some (ls, .inl (am_ci a) :: st) | false => none) = some (ls', st') := he
    cases hq : decide (-128 ≤ a ∧ a ≤ 127) with
    | false => rw [hq] at he; cases he
    | true =>
      rw [hq] at he
      cases he
      have h1 := of_decide_eq_true hq
      exact lv_bipush hx hb hd (am_ci8 h1.1 h1.2) (k lsJ hL)
  case sipush a =>
    obtain rfl : 3 = n := Nat.eq_of_beq_eq_true hl
    have he : (match decide (-32768 ≤ a ∧ a ≤ 32767) with | true => some (ls, .inl (am_ci a) :: st) | false => none) = some (ls', st') := he
    cases hq : decide (-32768 ≤ a ∧ a ≤ 32767) with
    | false => rw [hq] at he; cases he
    | true =>
      rw [hq] at he
      cases he
      have h1 := of_decide_eq_true hq
      exact lv_sipush hx hb hd (am_ci16 h1.1 h1.2) (k lsJ hL)
  case lconst a =>
    obtain rfl : 1 = n := Nat.eq_of_beq_eq_true hl
    cases he
    exact lv_lconst hx hb hd rfl (k lsJ hL)
  case aconst_null =>
    obtain rfl : 1 = n := Nat.eq_of_beq_eq_true hl
    cases he
    exact lv_null hx hb hd (k lsJ hL)
  case iload_n j =>
    obtain rfl : 1 = n := Nat.eq_of_beq_eq_true hl
    obtain ⟨x, h1, rfl, rfl⟩ := ldI he
    exact lv_iload_n hx hb hd rfl h1 (k lsJ hL)
  case iload j =>
    obtain rfl : 2 = n := Nat.eq_of_beq_eq_true hl
    obtain ⟨x, h1, rfl, rfl⟩ := ldI he
    exact lv_iload hx hb hd h1 (k lsJ hL)
  case aload_n j =>
    obtain rfl : 1 = n := Nat.eq_of_beq_eq_true hl
    obtain ⟨x, h1, rfl, rfl⟩ := am_lda_some he
    have h2 := am_Lr_get hL h1
    have k2 := k lsJ hL
    rw [List.map_cons] at k2
    rcases am_vl_ref hfv x with q | ⟨a, q⟩
    · rw [q] at h2 k2
      exact lv_aload_nN hx hb hd rfl h2 k2
    · rw [q] at h2 k2
      exact lv_aload_n hx hb hd rfl h2 k2
  case aload j =>
    obtain rfl : 2 = n := Nat.eq_of_beq_eq_true hl
    obtain ⟨x, h1, rfl, rfl⟩ := am_lda_some he
    have h2 := am_Lr_get hL h1
    have k2 := k lsJ hL
    rw [List.map_cons] at k2
    rcases am_vl_ref hfv x with q | ⟨a, q⟩
    · rw [q] at h2 k2
      exact lv_aloadN hx hb hd h2 k2
    · rw [q] at h2 k2
      exact lv_aload hx hb hd h2 k2
  case istore_n j =>
    obtain rfl : 1 = n := Nat.eq_of_beq_eq_true hl
    obtain ⟨x, rfl, h2, h3⟩ := stI he
    exact lv_istore_n hx hb hd rfl hL.2.1 h2 rfl (fun lsN hN => k lsN (h3 lsN hN))
  case istore j =>
    obtain rfl : 2 = n := Nat.eq_of_beq_eq_true hl
    obtain ⟨x, rfl, h2, h3⟩ := stI he
    exact lv_istore hx hb hd hL.2.1 h2 rfl (fun lsN hN => k lsN (h3 lsN hN))
  case astore_n j =>
    obtain rfl : 1 = n := Nat.eq_of_beq_eq_true hl
    obtain ⟨x, rfl, h2, h3⟩ := stA he
    rw [List.map_cons]
    rcases am_vl_ref hfv x with q | ⟨a, q⟩
    · rw [q] at h3 ⊢
      exact lv_astore_nN hx hb hd rfl hL.2.1 h2 rfl (fun lsN hN => k lsN (h3 lsN hN))
    · rw [q] at h3 ⊢
      exact lv_astore_n hx hb hd rfl hL.2.1 h2 rfl (fun lsN hN => k lsN (h3 lsN hN))
  case astore j =>
    obtain rfl : 2 = n := Nat.eq_of_beq_eq_true hl
    obtain ⟨x, rfl, h2, h3⟩ := stA he
    rw [List.map_cons]
    rcases am_vl_ref hfv x with q | ⟨a, q⟩
    · rw [q] at h3 ⊢
      exact lv_astoreN hx hb hd hL.2.1 h2 rfl (fun lsN hN => k lsN (h3 lsN hN))
    · rw [q] at h3 ⊢
      exact lv_astore hx hb hd hL.2.1 h2 rfl (fun lsN hN => k lsN (h3 lsN hN))
  case iinc j a =>
    obtain rfl : 3 = n := Nat.eq_of_beq_eq_true hl
    have he : (match ls.getD j none with | some (.inl x) => am_if (Nat.blt j ls.length) (some (ls.set j (some (.inl (x + am_ci a))), st)) | _ => none) = some (ls', st') := he
    rcases hq : ls.getD j none with _ | x | x
    · rw [hq] at he; cases he
    · rw [hq] at he
      obtain ⟨g1, g2⟩ := am_if_some he
      cases g2
      have hj : j < ls.length := Nat.le_of_ble_eq_true g1
      have h1 : (j, Value.int x) ∈ am_ll z ls := am_ll_mem.mpr ⟨.inl x, by
        rw [List.getD_eq_getElem?_getD] at hq
        cases h9 : ls[j]? with
        | none => rw [h9] at hq; cases hq
        | some o => rw [h9] at hq; simp only [Option.getD_some] at hq; rw [hq], rfl⟩
      obtain ⟨kk, hkk⟩ := List.getElem?_of_mem h1
      exact lv_iinc (v := x + am_ci a) hx hb hd hL.2.1 hkk (by rw [am_ci_eq]) (by rw [← hL.1]; exact hj) rfl (fun lsN hN => k lsN (am_Lr_set (v := .inl (x + am_ci a)) hL rfl hN))
    · rw [hq] at he; cases he
  case iadd =>
    obtain rfl : 1 = n := Nat.eq_of_beq_eq_true hl
    obtain ⟨y, x, r, rfl, rfl, rfl⟩ := b2 he
    exact lv_iadd hx hb hd (k lsJ hL)
  case isub =>
    obtain rfl : 1 = n := Nat.eq_of_beq_eq_true hl
    obtain ⟨y, x, r, rfl, rfl, rfl⟩ := b2 he
    exact lv_isub hx hb hd (k lsJ hL)
  case imul =>
    obtain rfl : 1 = n := Nat.eq_of_beq_eq_true hl
    obtain ⟨y, x, r, rfl, rfl, rfl⟩ := b2 he
    exact lv_imul hx hb hd (k lsJ hL)
  case iand =>
    obtain rfl : 1 = n := Nat.eq_of_beq_eq_true hl
    obtain ⟨y, x, r, rfl, rfl, rfl⟩ := b2 he
    exact lv_iand hx hb hd (k lsJ hL)
  case ior =>
    obtain rfl : 1 = n := Nat.eq_of_beq_eq_true hl
    obtain ⟨y, x, r, rfl, rfl, rfl⟩ := b2 he
    exact lv_ior hx hb hd (k lsJ hL)
  case ixor =>
    obtain rfl : 1 = n := Nat.eq_of_beq_eq_true hl
    obtain ⟨y, x, r, rfl, rfl, rfl⟩ := b2 he
    exact lv_ixor hx hb hd (k lsJ hL)
  case ishl =>
    obtain rfl : 1 = n := Nat.eq_of_beq_eq_true hl
    obtain ⟨y, x, r, rfl, rfl, rfl⟩ := b2 he
    exact lv_ishl hx hb hd (k lsJ hL)
  case ishr =>
    obtain rfl : 1 = n := Nat.eq_of_beq_eq_true hl
    obtain ⟨y, x, r, rfl, rfl, rfl⟩ := b2 he
    exact lv_ishr hx hb hd (k lsJ hL)
  case iushr =>
    obtain rfl : 1 = n := Nat.eq_of_beq_eq_true hl
    obtain ⟨y, x, r, rfl, rfl, rfl⟩ := b2 he
    exact lv_iushr hx hb hd rfl (k lsJ hL)
  case i2l =>
    obtain rfl : 1 = n := Nat.eq_of_beq_eq_true hl
    rcases st with _ | ⟨x | x, r⟩
    · cases he
    · cases he
      exact lv_i2l hx hb hd rfl (k lsJ hL)
    · cases he
  case i2c =>
    obtain rfl : 1 = n := Nat.eq_of_beq_eq_true hl
    rcases st with _ | ⟨x | x, r⟩
    · cases he
    · cases he
      exact lv_i2c hx hb hd rfl (k lsJ hL)
    · cases he
  case dup =>
    obtain rfl : 1 = n := Nat.eq_of_beq_eq_true hl
    rcases st with _ | ⟨x | x | x, r⟩
    · cases he
    · cases he
      exact lv_dup hx hb hd rfl (k lsJ hL)
    · cases he
      exact lv_dup hx hb hd (am_cat1 hfv rfl) (k lsJ hL)
    · cases he
  case dup2 =>
    obtain rfl : 1 = n := Nat.eq_of_beq_eq_true hl
    rcases st with _ | ⟨y | y, _ | ⟨x | x | x, r⟩⟩
    · cases he
    · cases he
    · cases he
    · cases he
      exact lv_dup2_11 hx hb hd rfl (am_cat1 hfv rfl) (k lsJ hL)
    · cases he
    · cases he
    · cases he
    · cases he
    · cases he
  case pop =>
    obtain rfl : 1 = n := Nat.eq_of_beq_eq_true hl
    rcases st with _ | ⟨x | x, r⟩
    · cases he
    · cases he
      exact lv_pop hx hb hd rfl (k lsJ hL)
    · cases he
  case ldc j =>
    obtain rfl : 2 = n := Nat.eq_of_beq_eq_true hl
    have he : (match am_ck (am_ow m) j with | some (.inl x) => some (ls, .inl x :: st) | some (.inr q) => some (ls, .inr (.inl (some (99, q))) :: st) | none => none) = some (ls', st') := he
    rcases hq : am_ck (am_ow m) j with _ | x | x
    · rw [hq] at he; cases he
    · rw [hq] at he
      cases he
      exact lv_ldc hx hb hown (hts _ (lw_G_in (am_ckF hq) rfl)) hd (k lsJ hL)
    · rw [hq] at he
      cases he
      obtain ⟨h1, q, h2, h3⟩ := am_ckS hq
      subst h3
      have hR := hXt.2.2.2.1 x q h2
      refine va_ldcS (own := am_cn (am_ow m)) (tx := q.2) (q := z.2.2.2.1 x) hx hb hown ?_ hd (k lsJ hL)
      rw [h1]
      exact hR
  case ldc_w j =>
    obtain rfl : 3 = n := Nat.eq_of_beq_eq_true hl
    have he : (match am_ck (am_ow m) j with | some (.inl x) => some (ls, .inl x :: st) | _ => none) = some (ls', st') := he
    rcases hq : am_ck (am_ow m) j with _ | x | x
    · rw [hq] at he; cases he
    · rw [hq] at he
      cases he
      exact lv_ldcw hx hb hown (hts _ (lw_G_in (am_ckF hq) rfl)) hd (k lsJ hL)
    · rw [hq] at he; cases he
  case ldc2_w j =>
    obtain rfl : 3 = n := Nat.eq_of_beq_eq_true hl
    have he : (match am_cl (am_ow m) j with | some x => some (ls, .inr (.inr x) :: st) | none => none) = some (ls', st') := he
    rcases hq : am_cl (am_ow m) j with _ | x
    · rw [hq] at he; cases he
    · rw [hq] at he
      cases he
      exact lv_ldc2 hx hb hown (hts _ (lw_G_in (am_clF hq) rfl)) hd (k lsJ hL)
  case getstatic j =>
    obtain rfl : 3 = n := Nat.eq_of_beq_eq_true hl
    have he : (match am_gs (am_ow m) j with | some (.inl x) => some (ls, .inl x :: st) | some (.inr q) => some (ls, .inr (.inl (some (q, 0))) :: st) | none => none) = some (ls', st') := he
    rcases hq : am_gs (am_ow m) j with _ | v
    · rw [hq] at he; cases he
    · rw [hq] at he
      rcases am_gsF hq with ⟨h1, rfl, h3⟩ | ⟨h1, rfl, h3⟩ | ⟨h1, rfl, h3⟩
      · cases he
        rw [h1] at hown
        exact va_gets hx hb hXt.2.2.2.2.1 hS hown (hts _ (lw_G_in h3 rfl)) (fun _ h9 => h9) hd (k lsJ hL)
      · cases he
        rw [h1] at hown
        exact va_gets hx hb hXt.2.2.2.2.2.2.1 hS hown (hts _ (lw_G_in h3 rfl)) (fun _ h9 => h9) hd (k lsJ hL)
      · cases he
        rw [h1] at hown
        exact va_gets hx hb hXt.2.2.2.2.2.2.2.1 hS hown (hts _ (lw_G_in h3 rfl)) (fun _ h9 => h9) hd (k lsJ hL)
  all_goals cases he
end
end
section
/-! fields, arrays, new cells: the list heap's operations hold of the JVM -/
theorem am_hgF {h : am_H} {q : am_K} {c : am_C} (e : am_hg h q = some c) : q.1 < 95 ∧ h[am_ps q]? = some c := by
  unfold am_hg at e
  cases hb : Nat.blt q.1 95 with
  | false => rw [hb] at e; cases e
  | true => rw [hb] at e; exact ⟨Nat.le_of_ble_eq_true hb, e⟩
theorem am_adw {z : am_N} {q : am_K} (h : q.1 < 95) : am_ad z q = z.1 + am_ps q := by
  unfold am_ad
  split <;> first | omega | rfl
theorem am_vlw {z : am_N} {q : am_K} (h : q.1 < 95) : am_vl z (.inr (.inl (some q))) = .ref (z.1 + am_ps q) := by
  show (match Nat.beq q.1 95 with | true => az_fv z | false => Value.ref (am_ad z q)) = _
  cases hb : Nat.beq q.1 95 with
  | true => have := Nat.eq_of_beq_eq_true hb; omega
  | false => show Value.ref (am_ad z q) = _; rw [am_adw h]
theorem am_vl9 {z : am_N} {q : am_K} (h : 95 < q.1) : am_vl z (.inr (.inl (some q))) = .ref (am_ad z q) := by
  show (match Nat.beq q.1 95 with | true => az_fv z | false => Value.ref (am_ad z q)) = _
  cases hb : Nat.beq q.1 95 with
  | true => have := Nat.eq_of_beq_eq_true hb; omega
  | false => rfl
theorem am_in_vp {i : Int32} {n : Nat} (h : am_in i n = true) : vp_in i n := by
  unfold am_in at h
  simp only [Bool.and_eq_true, Bool.not_eq_true', decide_eq_false_iff_not, decide_eq_true_eq] at h
  intro q
  rcases q with q | q
  · exact h.1 q
  · omega
theorem am_in_lt {i : Int32} {n : Nat} (h : am_in i n = true) : am_ix i < n := by
  unfold am_in at h
  simp only [Bool.and_eq_true, decide_eq_true_eq] at h
  exact h.2
theorem am_W_set {z : am_N} {h : am_H} {H H' : Heap} {n : Nat} {c0 c' : am_C} (hW : am_W z h H) (hn : h[n]? = some c0) (he : va_at (az_D z) am_cl0 (z.1 + n, am_te z c') H') (hs : H'.size = H.size) (ho : ∀ q : Nat, q ≠ z.1 + n → H'[q]? = H[q]?) : am_W z (h.set n c') H' :=
  ⟨by rw [hs, List.length_set]; exact hW.1, by rw [← am_pi_set]; exact hW.2.set (am_pi_D z h) (am_pi_at hn) he ho⟩
theorem am_W_app {z : am_N} {h : am_H} {H H' : Heap} {c' : am_C} (hW : am_W z h H) (he : va_at (az_D z) am_cl0 (z.1 + h.length, am_te z c') H') (hs : H'.size = H.size + 1) (ho : ∀ q : Nat, q < H.size → H'[q]? = H[q]?) : am_W z (h ++ [c']) H' := by
  refine ⟨by rw [hs, hW.1, List.length_append]; rfl, ?_⟩
  rw [am_pi_app]
  refine (hW.2.kept (fun k x hx => ho x.1 ((hW.2 k x hx).lt))).app (fun k x hx => ?_)
  have hz : k < 1 := (List.getElem?_eq_some_iff.mp hx).1
  rw [show k = 0 by omega] at hx
  cases hx
  exact he
theorem am_arI : Cond.arrayClass .int ∈ lw_tbl := List.mem_of_getElem? (i := 135) (by decide +kernel)
theorem am_arZ : Cond.arrayClass .boolean ∈ lw_tbl := List.mem_of_getElem? (i := 230) (by decide +kernel)
section
variable {p : Program} {l : Launch} {e : Env} {R : Room} {s : State} {mid : MethodId} {args : Array Value} {below : List Frame} {meth : Method} {c : Code} {H : Heap} {locs : List Loc} {cells slots : Nat} {Q : State → Prop} {z : am_N} {pc m : Nat} {h : am_H} {rest : List Value} {lsJ : Array Slot} {q : am_K}
theorem am_gf_W (hx : p.tables.exec = Jvm.exec) (hb : c.code = am_by m) (hown : s.vm.findClass (am_cn (am_ow m)) = some mid.cls) (hts : ∀ w ∈ lw_G, w.before args s = true) (hXt : am_Xt z s) (hS : va_S (az_A z) s.heap H locs) (hW : am_W z h H)
    {x ci f : Nat} {v : am_V} (hd : decode (am_by m) pc = .ok (.getfield x, 3)) (hc : am_cf (am_ow m) x = some (ci, f)) (hg : am_gf1 h q ci f = some v)
    (k : W p l e R s mid args below meth c H locs cells slots Q (F0 mid (pc + 3) lsJ (am_vl z v :: rest))) : W p l e R s mid args below meth c H locs cells slots Q (F0 mid pc lsJ (am_vl z (.inr (.inl (some q))) :: rest)) := by
  obtain ⟨hlink, hf⟩ := am_cfF hc
  have hlk := hts _ (lw_G_in hlink rfl)
  unfold am_gf1 at hg
  cases hq : Nat.beq q.1 99 with
  | true =>
    rw [hq] at hg
    have hq9 := Nat.eq_of_beq_eq_true hq
    dsimp only at hg
    cases hc2 : (Nat.beq ci 12 && Nat.blt q.2 6) with
    | false => rw [hc2] at hg; cases hg
    | true =>
      rw [hc2] at hg
      simp only [Bool.and_eq_true] at hc2
      have hci := Nat.eq_of_beq_eq_true hc2.1
      have hq6 : q.2 < 6 := Nat.le_of_ble_eq_true hc2.2
      subst hci
      obtain ⟨-, h2, h3, -⟩ := hXt.2.2.1.1 q.2 hq6
      have had : am_ad z q = z.2.2.2.1 q.2 := by unfold am_ad; rw [hq9]; try rfl
      rw [am_vl9 (by omega), had]
      rcases f with _ | _ | f
      · cases hg
        exact vk_getf hx hb h3 hS hown hlk (fun _ h9 => h9) hd k
      · cases hg
        exact vk_getf hx hb h2 hS hown hlk (fun _ h9 => h9) hd k
      · cases hg
  | false =>
    rw [hq] at hg
    dsimp only at hg
    rcases hcell : am_hg h q with _ | ⟨c0, fs⟩ | cc
    · rw [hcell] at hg; cases hg
    · rw [hcell] at hg
      dsimp only at hg
      cases hcc : Nat.beq c0 ci with
      | false => rw [hcc] at hg; cases hg
      | true =>
        rw [hcc] at hg
        have hg : fs[f]? = some v := hg
        have hci := Nat.eq_of_beq_eq_true hcc
        subst hci
        obtain ⟨hk95, hat⟩ := am_hgF hcell
        rw [am_vlw hk95]
        have he := am_pi_at (z := z) hat
        obtain ⟨r, hr, -⟩ := hW.2 _ _ he
        have hc10 : c0 < 10 := (List.getElem?_eq_some_iff.mp hr).1
        obtain ⟨k1, k2, k3, k4, k5, k6⟩ := am_cls hc10
        rw [k6 f] at hlk
        exact va_get (D := az_D z) (ci := c0) (v := am_vl z v) (C := am_cn c0) (T := am_T c0) (N := am_nf c0) hx hb hts k2 hown hXt.1 hW.2 (am_ps q) he k1 f hf hlk (fun y h9 => by rw [(k5 f hf).2] at h9; exact h9) (by rw [List.getElem?_map, hg]; rfl) hd k
    · rw [hcell] at hg; cases hg
theorem am_ft_fits {t : Nat} {ty : FieldType} {v : am_V} (h1 : am_tt t ty = true) (h2 : am_ft t v = true) : narrow ty (am_vl z v) = am_vl z v ∧ fits ty (am_vl z v) = true := by
  rcases t with _ | _ | _ | t
  · cases ty <;> first | (cases h1; done) | skip
    rcases v with x | r | x
    · exact ⟨rfl, rfl⟩
    · cases h2
    · cases h2
  · cases ty <;> first | (cases h1; done) | skip
    rcases v with x | r | x
    · have h2 : am_z x = true := h2
      unfold am_z at h2
      simp only [Bool.or_eq_true, decide_eq_true_eq] at h2
      rcases h2 with rfl | rfl
      · exact ⟨rfl, rfl⟩
      · exact ⟨rfl, rfl⟩
    · cases h2
    · cases h2
  · rcases v with x | r | x
    · cases h2
    · rcases r with _ | q
      · cases ty <;> first | (cases h1; done) | exact ⟨rfl, rfl⟩
      · have h2 : Nat.blt q.1 95 = true := h2
        rw [am_vlw (Nat.le_of_ble_eq_true h2)]
        cases ty <;> first | (cases h1; done) | exact ⟨rfl, rfl⟩
    · cases h2
  · cases ty <;> cases h1
theorem am_pf_W (hx : p.tables.exec = Jvm.exec) (hb : c.code = am_by m) (hown : s.vm.findClass (am_cn (am_ow m)) = some mid.cls) (hts : ∀ w ∈ lw_G, w.before args s = true) (hini : am_ii m = true → meth.name = "<init>") (hXt : am_Xt z s) (hS : va_S (az_A z) s.heap H locs) (hW : am_W z h H)
    {x ci f : Nat} {v : am_V} (hd : decode (am_by m) pc = .ok (.putfield x, 3)) (hc : am_cf (am_ow m) x = some (ci, f)) (hfo : am_fo m ci f = true) (hg : (am_pf1 h q ci f v).1 = true)
    (kk : ∀ (H1 : Heap) (locs1 : List Loc), am_W z (am_pf1 h q ci f v).2 H1 → va_S (az_A z) s.heap H1 locs1 → W p l e R s mid args below meth c H1 locs1 cells slots Q (F0 mid (pc + 3) lsJ rest)) : W p l e R s mid args below meth c H locs cells slots Q (F0 mid pc lsJ (am_vl z v :: am_vl z (.inr (.inl (some q))) :: rest)) := by
  obtain ⟨hlink, hf⟩ := am_cfF hc
  have hlk := hts _ (lw_G_in hlink rfl)
  unfold am_pf1 at hg kk
  rcases hcell : am_hg h q with _ | ⟨c0, fs⟩ | cc
  · rw [hcell] at hg; cases hg
  · rw [hcell] at hg kk
    dsimp only at hg kk
    simp only [Bool.and_eq_true] at hg
    obtain ⟨g1, g2, g3⟩ := hg
    have hci := Nat.eq_of_beq_eq_true g1
    subst hci
    obtain ⟨hk95, hat⟩ := am_hgF hcell
    rw [am_vlw hk95]
    have he := am_pi_at (z := z) hat
    obtain ⟨r, hr, cell, q1, q2, q3, q4⟩ := hW.2 _ _ he
    have hc10 : c0 < 10 := (List.getElem?_eq_some_iff.mp hr).1
    obtain ⟨k1, k2, k3, k4, k5, k6⟩ := am_cls hc10
    cases hr.symm.trans k1
    rw [k6 f] at hlk
    have htt : am_tt (am_ty c0 f) (am_tyF c0 f) = true := by
      have h1 := List.all_eq_true.mp (List.all_eq_true.mp am_tts c0 (List.mem_range.mpr hc10)) f (List.mem_range.mpr hf)
      simp only [Bool.and_eq_true] at h1
      exact h1.1
    obtain ⟨hn, hfit⟩ := am_ft_fits (z := z) htt g3
    have hap := va_apart (own := am_cn (am_ow m)) (args := args) (s := s) hts k2 (am_tyF c0) k3 k4 hXt.1 k1
    obtain ⟨hSl, hfc, kC, hkC, hkind⟩ := hXt.1.1 c0 _ k1
    obtain ⟨cf, kf, fi, fd, hi, hsl⟩ := hSl f hf
    have hlay := hts _ (k2 _ (u_in_lay hf))
    have hl2 := u_lays hts k2 hf
    have hst := (u_facts hfc hkC hl2 hi).1
    have hi2 := hi
    rw [(k5 f hf).2] at hi2
    have hflen : f < fs.length := Nat.le_of_ble_eq_true g2
    have fin : ∀ H' : Heap, H'[z.1 + am_ps q]? = some (cell.setSlot fd.slot (am_vl z v)) → H'.size = H.size → (∀ y, y ≠ z.1 + am_ps q → H'[y]? = H[y]?) → W p l e R s mid args below meth c H' (locs ++ [⟨z.1 + am_ps q, fd.slot⟩]) cells slots Q (F0 mid (pc + 3) lsJ rest) := by
      intro H' e1 e2 e3
      rw [hsl] at e1
      refine kk H' _ (am_W_set hW hat ⟨_, k1, ?_⟩ e2 e3) (hS.put e2 e3 (show z.1 ≤ _ by omega))
      refine t_OB.to (V := updV (vp_V (fs.map (am_vl z))) f (am_vl z v)) ⟨_, e1, q2, q3, t_set q4 hap hf _⟩ (fun j _ => ?_)
      rw [vp_updV_set (by rw [List.length_map]; exact hflen), List.map_set]
    have hlt : fd.slot < cell.slots.size := by rw [hsl]; exact k2_hasslot (q4 f hf)
    cases hff : am_ff c0 f with
    | false =>
      unfold u_lay at hlay
      rw [if_neg (by rw [← (k5 f hf).1, hff]; decide)] at hlay
      have h6 := u_store hfc hkC hkind hlay hi (k3 f hf) hn hfit
      exact W.putK hx hb (f := fd) ⟨hown, hlk, ⟨_, _, _, hi2⟩, hst⟩ (by rw [q2]; exact h6) q1 q3 hlt rfl rfl hd fin
    | true =>
      unfold am_fo at hfo
      rw [hff] at hfo
      simp only [Bool.and_eq_true] at hfo
      have hoc := Nat.eq_of_beq_eq_true hfo.2
      unfold u_lay at hlay
      rw [if_pos (by rw [← (k5 f hf).1, hff])] at hlay
      have hcf : mid.cls = cf := by
        obtain ⟨_, _, c', _, _, _, -, -, hf', -, -, -, hown2, -⟩ := Cond.laysFinal_spec hlay
        have e1 : c' = cf := by have := hi.symm.trans hf'; simp at this; exact this.1.symm
        rw [(k5 f hf).2, ← hoc] at hown2
        rw [← e1]; exact Option.some.inj (hown.symm.trans hown2)
      have h6 := u_fits hfc hkC hkind hl2 hi (k3 f hf) hn hfit
      exact W.putFinK hx hb hown hlk hi2 hst hcf (hini hfo.1) (by rw [q2]; exact h6) q1 q3 hlt rfl rfl hd fin
  · rw [hcell] at hg; cases hg
theorem am_al_W (hx : p.tables.exec = Jvm.exec) (hb : c.code = am_by m) (hXt : am_Xt z s) (hS : va_S (az_A z) s.heap H locs) (hW : am_W z h H)
    {ty : Nat} {i : Instr} (hi : (ty = 0 ∧ i = .iaload) ∨ (ty = 1 ∧ i = .baload) ∨ (ty = 2 ∧ i = .aaload)) {j : Int32} (hd : decode (am_by m) pc = .ok (i, 1)) (hg : (am_al1 (az_E z) h ty q j).1 = true)
    (k : W p l e R s mid args below meth c H locs cells slots Q (F0 mid (pc + 1) lsJ (am_vl z (am_al1 (az_E z) h ty q j).2 :: rest))) : W p l e R s mid args below meth c H locs cells slots Q (F0 mid pc lsJ (.int j :: am_vl z (.inr (.inl (some q))) :: rest)) := by
  by_cases h98 : q.1 = 98
  · have e1 : am_al1 (az_E z) h ty q j = (Nat.beq ty 0 && am_in j 18, .inl (am_or.getD (am_ix j) 0)) := by unfold am_al1; rw [h98]; try rfl
    rw [e1] at hg k
    simp only [Bool.and_eq_true] at hg
    have ht := Nat.eq_of_beq_eq_true hg.1
    rcases hi with ⟨-, rfl⟩ | ⟨h1, -⟩ | ⟨h1, -⟩
    · rw [am_vl9 (by omega), show am_ad z q = z.2.1 by unfold am_ad; rw [h98]; try rfl]
      exact va_ti hx hb hXt.2.2.2.2.2.1 hS (am_in_vp hg.2) rfl hd k
    · omega
    · omega
  by_cases h97 : q.1 = 97
  · have e1 : am_al1 (az_E z) h ty q j = (Nat.beq ty 0 && am_in j (az_E z).1, .inl ((az_E z).2 (am_ix j))) := by unfold am_al1; rw [h97]; try rfl
    rw [e1] at hg k
    simp only [Bool.and_eq_true] at hg
    have ht := Nat.eq_of_beq_eq_true hg.1
    rcases hi with ⟨-, rfl⟩ | ⟨h1, -⟩ | ⟨h1, -⟩
    · rw [am_vl9 (by omega), show am_ad z q = z.2.2.1 by unfold am_ad; rw [h97]; try rfl]
      have hbl := hXt.2.2.2.2.2.2.2.2.2.2.2.1
      exact va_sld (A := az_A z) hx hb hXt.2.2.2.2.2.2.2.2.2.2.1 (by have := hXt.2.2.2.2.2.2.2.2.2.2.2.2.1; omega) (Nat.not_le.mpr hbl) hS (am_in_vp hg.2) hd k
    · omega
    · omega
  by_cases h96 : q.1 = 96
  · have e1 : am_al1 (az_E z) h ty q j = (Nat.blt q.2 6 && (Nat.beq ty 1 && am_in j (am_wd.getD q.2 []).length), .inl ((am_wd.getD q.2 []).getD (am_ix j) 0)) := by unfold am_al1; rw [h96]; try rfl
    rw [e1] at hg k
    simp only [Bool.and_eq_true] at hg
    have ht := Nat.eq_of_beq_eq_true hg.2.1
    have hq6 : q.2 < 6 := Nat.le_of_ble_eq_true hg.1
    rcases hi with ⟨h1, -⟩ | ⟨-, rfl⟩ | ⟨h1, -⟩
    · omega
    · rw [am_vl9 (by omega), show am_ad z q = z.2.2.2.2.1 q.2 by unfold am_ad; rw [h96]; try rfl]
      obtain ⟨-, -, -, h4⟩ := hXt.2.2.1.1 q.2 hq6
      have hlen : am_wl.getD q.2 0 = (am_wd.getD q.2 []).length := by
        have : ∀ i, i < 6 → am_wl.getD i 0 = (am_wd.getD i []).length := by decide
        exact this _ hq6
      exact va_tb hx hb h4 hS (by rw [hlen]; exact am_in_vp hg.2.2) rfl hd k
    · omega
  have e1 : am_al1 (az_E z) h ty q j = (match am_hg h q with
    | some (.inr (.inl (t, l))) => (Nat.blt t 2 && (Nat.beq ty t && am_in j l.length), .inl (l.getD (am_ix j) 0))
    | some (.inr (.inr (t, l))) => (Nat.beq ty 2 && (am_in j l.length && ((Nat.beq t 2 || Nat.beq t 3) && am_kq (l.getD (am_ix j) none))), .inr (.inl (l.getD (am_ix j) none)))
    | _ => (false, .inl 0)) := by
    unfold am_al1
    split <;> first | omega | rfl
  rw [e1] at hg k
  rcases hcell : am_hg h q with _ | cc | ⟨t, a⟩ | ⟨t, a⟩
  · rw [hcell] at hg; cases hg
  · rw [hcell] at hg; cases hg
  · rw [hcell] at hg k
    dsimp only at hg k
    simp only [Bool.and_eq_true] at hg
    obtain ⟨g1, g2, g3⟩ := hg
    have ht := Nat.eq_of_beq_eq_true g2
    have ht2 : t < 2 := Nat.le_of_ble_eq_true g1
    obtain ⟨hk95, hat⟩ := am_hgF hcell
    rw [am_vlw hk95]
    have he := am_pi_at (z := z) hat
    subst ht
    rcases hi with ⟨rfl, rfl⟩ | ⟨rfl, rfl⟩ | ⟨rfl, -⟩
    · exact va_iald hx hb hXt.1 hW.2 (am_ps q) 0 he rfl (am_in_vp g3) hd k
    · exact va_zald hx hb hXt.1 hW.2 (am_ps q) 1 he rfl (am_in_vp g3) hd k
    · omega
  · rw [hcell] at hg k
    dsimp only at hg k
    simp only [Bool.and_eq_true, Bool.or_eq_true] at hg
    obtain ⟨g1, g2, g3, g4⟩ := hg
    have ht := Nat.eq_of_beq_eq_true g1
    obtain ⟨hk95, hat⟩ := am_hgF hcell
    rw [am_vlw hk95]
    have he := am_pi_at (z := z) hat
    have hval : am_vl z (.inr (.inl (a.getD (am_ix j) none))) = va_rf ((a.getD (am_ix j) none).map (am_ad z)) := by
      cases ha : a.getD (am_ix j) none with
      | none => rfl
      | some y =>
        rw [ha] at g4
        have hy : y.1 < 95 := Nat.le_of_ble_eq_true g4
        rw [am_vlw hy]
        show _ = Value.ref (am_ad z y)
        rw [am_adw hy]
    rw [hval] at k
    rcases hi with ⟨h1, -⟩ | ⟨h1, -⟩ | ⟨-, rfl⟩
    · omega
    · omega
    · rcases g3 with g3 | g3
      · have := Nat.eq_of_beq_eq_true g3
        subst this
        exact va_aldq hx hb hXt.1 hW.2 (am_ps q) 2 he rfl (am_in_vp g2) hd k
      · have := Nat.eq_of_beq_eq_true g3
        subst this
        exact va_aldq hx hb hXt.1 hW.2 (am_ps q) 3 he rfl (am_in_vp g2) hd k
theorem am_ln_W (hx : p.tables.exec = Jvm.exec) (hb : c.code = am_by m) (hXt : am_Xt z s) (hS : va_S (az_A z) s.heap H locs) (hW : am_W z h H)
    {v : Int32} (hd : decode (am_by m) pc = .ok (.arraylength, 1)) (hg : am_ln1 (az_E z) h q = some v)
    (k : W p l e R s mid args below meth c H locs cells slots Q (F0 mid (pc + 1) lsJ (.int v :: rest))) : W p l e R s mid args below meth c H locs cells slots Q (F0 mid pc lsJ (am_vl z (.inr (.inl (some q))) :: rest)) := by
  by_cases h98 : q.1 = 98
  · have e1 : am_ln1 (az_E z) h q = some 18 := by unfold am_ln1; rw [h98]; try rfl
    rw [e1] at hg
    cases hg
    rw [am_vl9 (by omega), show am_ad z q = z.2.1 by unfold am_ad; rw [h98]; try rfl]
    exact va_tlen hx hb hXt.2.2.2.2.2.1 hS rfl hd k
  by_cases h97 : q.1 = 97
  · have e1 : am_ln1 (az_E z) h q = some (Int32.ofNat (az_E z).1) := by unfold am_ln1; rw [h97]; try rfl
    rw [e1] at hg
    cases hg
    rw [am_vl9 (by omega), show am_ad z q = z.2.2.1 by unfold am_ad; rw [h97]; try rfl]
    have hbl := hXt.2.2.2.2.2.2.2.2.2.2.2.1
    exact va_slen (A := az_A z) hx hb hXt.2.2.2.2.2.2.2.2.2.2.1 (by have := hXt.2.2.2.2.2.2.2.2.2.2.2.2.1; omega) (Nat.not_le.mpr hbl) hS hd k
  by_cases h96 : q.1 = 96
  · have e1 : am_ln1 (az_E z) h q = (match Nat.blt q.2 6 with | true => some (Int32.ofNat (am_wd.getD q.2 []).length) | false => none) := by unfold am_ln1; rw [h96]; try rfl
    rw [e1] at hg
    cases hb6 : Nat.blt q.2 6 with
    | false => rw [hb6] at hg; cases hg
    | true =>
      rw [hb6] at hg
      cases hg
      have hq6 : q.2 < 6 := Nat.le_of_ble_eq_true hb6
      rw [am_vl9 (by omega), show am_ad z q = z.2.2.2.2.1 q.2 by unfold am_ad; rw [h96]; try rfl]
      obtain ⟨-, -, -, h4⟩ := hXt.2.2.1.1 q.2 hq6
      have hlen : am_wl.getD q.2 0 = (am_wd.getD q.2 []).length := by
        have : ∀ i, i < 6 → am_wl.getD i 0 = (am_wd.getD i []).length := by decide
        exact this _ hq6
      exact va_tlen hx hb h4 hS (by rw [hlen]) hd k
  have e1 : am_ln1 (az_E z) h q = (match am_hg h q with
    | some (.inr (.inl (t, l))) => (match Nat.blt t 2 with
      | true => some (Int32.ofNat l.length)
      | false => none)
    | some (.inr (.inr (t, l))) => (match Nat.beq t 2 || Nat.beq t 3 with
      | true => some (Int32.ofNat l.length)
      | false => none)
    | _ => none) := by
    unfold am_ln1
    split <;> first | omega | rfl
  rw [e1] at hg
  rcases hcell : am_hg h q with _ | cc | ⟨t, a⟩ | ⟨t, a⟩
  · rw [hcell] at hg; cases hg
  · rw [hcell] at hg; cases hg
  · rw [hcell] at hg
    dsimp only at hg
    cases ht : Nat.blt t 2 with
    | false => rw [ht] at hg; cases hg
    | true =>
      rw [ht] at hg
      cases hg
      have ht2 : t < 2 := Nat.le_of_ble_eq_true ht
      obtain ⟨hk95, hat⟩ := am_hgF hcell
      rw [am_vlw hk95]
      have he := am_pi_at (z := z) hat
      rcases t with _ | _ | t
      · exact va_alen hx hb hXt.1 hW.2 (am_ps q) 0 he rfl rfl hd k
      · exact va_alen hx hb hXt.1 hW.2 (am_ps q) 1 he rfl rfl hd k
      · omega
  · rw [hcell] at hg
    dsimp only at hg
    cases ht : (Nat.beq t 2 || Nat.beq t 3) with
    | false => rw [ht] at hg; cases hg
    | true =>
      rw [ht] at hg
      cases hg
      simp only [Bool.or_eq_true] at ht
      obtain ⟨hk95, hat⟩ := am_hgF hcell
      rw [am_vlw hk95]
      have he := am_pi_at (z := z) hat
      rcases ht with ht | ht
      · have := Nat.eq_of_beq_eq_true ht
        subst this
        exact va_alen hx hb hXt.1 hW.2 (am_ps q) 2 he rfl rfl hd k
      · have := Nat.eq_of_beq_eq_true ht
        subst this
        exact va_alen hx hb hXt.1 hW.2 (am_ps q) 3 he rfl rfl hd k
theorem am_setI {a : List Int32} {j : Nat} {x : Int32} (hj : j < a.length) : updV (fun i => Value.int (a.getD i 0)) j (.int x) = fun i => Value.int ((a.set j x).getD i 0) := by
  funext i
  unfold updV
  simp only [List.getD_eq_getElem?_getD, List.getElem?_set]
  by_cases e : i = j
  · subst e
    simp [hj]
  · simp [e, Ne.symm e]
theorem am_setQ {a : List (Option am_K)} {j : Nat} {y : am_K} (hj : j < a.length) : updV (fun i => va_rf ((a.getD i none).map (am_ad z))) j (.ref (am_ad z y)) = fun i => va_rf (((a.set j (some y)).getD i none).map (am_ad z)) := by
  funext i
  unfold updV
  simp only [List.getD_eq_getElem?_getD, List.getElem?_set]
  by_cases e : i = j
  · subst e
    simp [hj, va_rf]
  · simp [e, Ne.symm e]
theorem am_as_W (hx : p.tables.exec = Jvm.exec) (hb : c.code = am_by m) (hXt : am_Xt z s) (hS : va_S (az_A z) s.heap H locs) (hW : am_W z h H)
    {ty : Nat} {i : Instr} (hi : (ty = 0 ∧ i = .iastore) ∨ (ty = 1 ∧ i = .bastore) ∨ (ty = 2 ∧ i = .aastore)) {j : Int32} {v : am_V} (hd : decode (am_by m) pc = .ok (i, 1)) (hg : (am_as1 h ty q j v).1 = true)
    (kk : ∀ (H1 : Heap) (locs1 : List Loc), am_W z (am_as1 h ty q j v).2 H1 → va_S (az_A z) s.heap H1 locs1 → W p l e R s mid args below meth c H1 locs1 cells slots Q (F0 mid (pc + 1) lsJ rest)) : W p l e R s mid args below meth c H locs cells slots Q (F0 mid pc lsJ (am_vl z v :: .int j :: am_vl z (.inr (.inl (some q))) :: rest)) := by
  unfold am_as1 at hg kk
  rcases hcell : am_hg h q with _ | cc | ⟨t, a⟩ | ⟨t, a⟩
  · rw [hcell] at hg; cases hg
  · rw [hcell] at hg; cases hg
  · rw [hcell] at hg kk
    obtain ⟨hk95, hat⟩ := am_hgF hcell
    rw [am_vlw hk95]
    have he := am_pi_at (z := z) hat
    have hc0 := hW.2 _ _ he
    rcases v with x | v
    · dsimp only at hg kk
      simp only [Bool.and_eq_true] at hg
      obtain ⟨g1, g2, g3⟩ := hg
      have ht := Nat.eq_of_beq_eq_true g1
      subst ht
      have hlt := am_in_lt g2
      have hin := am_in_vp g2
      have hA : ∀ {H' : Heap} {sl : Nat}, H'.size = H.size → (∀ y, y ≠ z.1 + am_ps q → H'[y]? = H[y]?) → va_S (az_A z) s.heap H' (locs ++ [⟨z.1 + am_ps q, sl⟩]) := fun e2 e3 => hS.put e2 e3 (show z.1 ≤ _ by omega)
      rcases hi with ⟨rfl, rfl⟩ | ⟨rfl, rfl⟩ | ⟨rfl, -⟩
      · refine W.iast hx hb hc0 ((hXt.1.2 0 _ rfl).1 a.length _) (fun y => by cases y) (by show ¬ (j < 0 ∨ (arrV _ _ _).slots.size ≤ _); rw [arrV_size]; exact hin) rfl rfl hd fun H' e1 e2 e3 => ?_
        refine kk H' _ (am_W_set hW hat ?_ e2 e3) (hA e2 e3)
        show H'[z.1 + am_ps q]? = some (vp_cell _ _)
        rw [e1]
        dsimp only
        rw [vp_cell_i, vp_cell_i, arrV_store, List.length_set]
        exact congrArg (fun f => some (arrV _ _ f)) (am_setI hlt)
      · have hz : narrow .boolean (.int x) = .int x := (am_ft_fits (z := z) (t := 1) (ty := .boolean) (v := .inl x) rfl g3).1
        refine W.zast hx hb hc0 ((hXt.1.2 1 _ rfl).1 a.length _) (fun y => by cases y) (by show ¬ (j < 0 ∨ (arrV _ _ _).slots.size ≤ _); rw [arrV_size]; exact hin) rfl rfl hd fun H' e1 e2 e3 => ?_
        refine kk H' _ (am_W_set hW hat ?_ e2 e3) (hA e2 e3)
        show H'[z.1 + am_ps q]? = some (vp_cell _ _)
        rw [e1, hz]
        dsimp only
        rw [vp_cell_i, vp_cell_i, arrV_store, List.length_set]
        exact congrArg (fun f => some (arrV _ _ f)) (am_setI hlt)
      · cases g3
    · cases hg
  · rw [hcell] at hg kk
    obtain ⟨hk95, hat⟩ := am_hgF hcell
    rw [am_vlw hk95]
    have he := am_pi_at (z := z) hat
    have hc0 := hW.2 _ _ he
    rcases v with x | (_ | y) | x
    · cases hg
    · cases hg
    · dsimp only at hg kk
      simp only [Bool.and_eq_true, Bool.or_eq_true] at hg
      obtain ⟨g1, g2, g3, g4⟩ := hg
      have ht := Nat.eq_of_beq_eq_true g1
      have hlt := am_in_lt g2
      have hin := am_in_vp g2
      unfold am_oc at g4
      rcases hcy : am_hg h y with _ | ⟨cy, fy⟩ | cc
      · rw [hcy] at g4; cases g4
      · rw [hcy] at g4
        have g4 := Nat.eq_of_beq_eq_true g4
        subst g4
        obtain ⟨hy95, hyat⟩ := am_hgF hcy
        rw [am_vlw hy95]
        have hey := am_pi_at (z := z) hyat
        have hc1 := hW.2 _ _ hey
        obtain ⟨r', hr', cellV, v1, v2, v3, -⟩ := hc1
        have hec10 : am_ec t < 10 := (List.getElem?_eq_some_iff.mp hr').1
        obtain ⟨k1, -⟩ := am_cls hec10
        have hcls := (hXt.1.1 (am_ec t) _ k1).2
        obtain ⟨kC, hkC, -⟩ := id hcls.2
        have core : ∀ (tt : Nat), tt = t → ∀ C : String, (am_tys z)[t]? = some (az_cA z t, .object C) → am_cn (am_ec t) = C → i = .aastore → W p l e R s mid args below meth c H locs cells slots Q (F0 mid pc lsJ (.ref (z.1 + am_ps y) :: .int j :: .ref (z.1 + am_ps q) :: rest)) := by
          intro tt _ C htys hC hi0
          subst hi0
          obtain ⟨kA, comp, a1, a2, a3, -⟩ := (hXt.1.2 t _ htys).2
          have hcomp : comp = (az_D z).1 (am_ec t) := Option.some.inj (a3.symm.trans (by rw [← hC]; exact hcls.1))
          subst hcomp
          refine W.aast hx hb hc0 (fun _ hh => by cases hh) (fun hh => by cases hh) a1 a2 rfl hkC ⟨fun w => hin (Or.inl w), by show _ < (arrV _ _ _).slots.size; rw [arrV_size]; exact hlt⟩ v1 (fun _ hh => by rw [v3] at hh; cases hh) (by rw [v2]; exact hkC) (by rw [v2]; exact va_assign hcls) rfl rfl hd fun H' e1 e2 e3 => ?_
          refine kk H' _ (am_W_set hW hat ?_ e2 e3) (hS.put e2 e3 (show z.1 ≤ _ by omega))
          show H'[z.1 + am_ps q]? = some (vp_cell _ _)
          rw [e1]
          dsimp only
          rw [vp_cell_q, vp_cell_q, arrV_store, List.length_set]
          have h9 := am_setQ (z := z) (a := a) (y := y) hlt
          rw [am_adw hy95] at h9
          exact congrArg (fun f => some (arrV _ _ f)) h9
        rcases hi with ⟨h1, -⟩ | ⟨h1, -⟩ | ⟨-, hi0⟩
        · omega
        · omega
        · rcases g3 with g3 | g3
          · have := Nat.eq_of_beq_eq_true g3
            subst this
            exact core 2 rfl "MixedRules$Flow" rfl rfl hi0
          · have := Nat.eq_of_beq_eq_true g3
            subst this
            exact core 3 rfl "MixedRules$Letter" rfl rfl hi0
      · rw [hcy] at g4; cases g4
    · cases hg
theorem am_dv_df {ci j : Nat} (hci : ci < 10) (hj : j < am_nf ci) : defaultValue (am_tyF ci j) = vp_V ((am_df ci).map (am_vl z)) j := by
  have h1 := List.all_eq_true.mp (List.all_eq_true.mp am_tts ci (List.mem_range.mpr hci)) j (List.mem_range.mpr hj)
  simp only [Bool.and_eq_true] at h1
  have hlen : (am_tyT ci).length = am_nf ci := Nat.eq_of_beq_eq_true h1.2
  have e1 : vp_V ((am_df ci).map (am_vl z)) j = am_vl z (am_dv (am_ty ci j)) := by
    unfold vp_V am_df am_ty
    rw [List.map_map, List.getD_eq_getElem?_getD, List.getElem?_map, List.getD_eq_getElem?_getD, List.getElem?_eq_getElem (by omega)]
    rfl
  rw [e1]
  have h2 := h1.1
  generalize am_ty ci j = t at h2 ⊢
  generalize am_tyF ci j = ty at h2 ⊢
  rcases t with _ | _ | _ | t
  · cases ty <;> first | (cases h2; done) | rfl
  · cases ty <;> first | (cases h2; done) | rfl
  · cases ty <;> first | (cases h2; done) | rfl
  · cases ty <;> cases h2
theorem am_nw_W (hx : p.tables.exec = Jvm.exec) (hb : c.code = am_by m) (hown : s.vm.findClass (am_cn (am_ow m)) = some mid.cls) (hts : ∀ w ∈ lw_G, w.before args s = true) (hXt : am_Xt z s) (hS : va_S (az_A z) s.heap H locs) (hW : am_W z h H)
    {x ci : Nat} {h' : am_H} (hd : decode (am_by m) pc = .ok (.new x, 3)) (hc : am_cc (am_ow m) x = some ci) (hg : am_nw1 h ci = some (q, h')) (hcells : cells + 1 ≤ R.cells) (hslots : slots + am_nf ci ≤ R.slots)
    (kk : ∀ (H1 : Heap), am_W z h' H1 → va_S (az_A z) s.heap H1 locs → W p l e R s mid args below meth c H1 locs (cells + 1) (slots + am_nf ci) Q (F0 mid (pc + 3) lsJ (am_vl z (.inr (.inl (some q))) :: rest))) : W p l e R s mid args below meth c H locs cells slots Q (F0 mid pc lsJ rest) := by
  unfold am_nw1 at hg
  cases hbb : (am_fr h && Nat.blt ci 10) with
  | false => rw [hbb] at hg; cases hg
  | true =>
    rw [hbb] at hg
    cases hg
    simp only [Bool.and_eq_true, am_fr] at hbb
    obtain ⟨⟨g1, g2⟩, g3⟩ := hbb
    have hps := Nat.eq_of_beq_eq_true g1
    have hk95 : (am_nm h.length).1 < 95 := Nat.le_of_ble_eq_true g2
    have hc10 : ci < 10 := Nat.le_of_ble_eq_true g3
    obtain ⟨k1, k2, k3, k4, k5, k6⟩ := am_cls hc10
    have hinst : (Cond.instantiable (am_cn ci) (am_nf ci)).before args s = true := hts _ (lw_G_in (am_wi_in (List.all_eq_true.mp am_insts ci (List.mem_range.mpr hc10))) rfl)
    have hini : (Cond.initialized (am_cn ci)).before args s = true := hts _ (lw_G_in (am_wi_in (List.all_eq_true.mp am_inis ci (List.mem_range.mpr (by omega)))) rfl)
    have hKn := hXt.1.1 ci _ k1
    refine W.newcK hx hb hown (hts _ (lw_G_in (am_ccF hc) rfl)) hinst hini rfl hd hcells hslots hKn.2.1 rfl fun H1 kC hkC e1 z1 o1 => ?_
    have he : va_at (az_D z) am_cl0 (z.1 + h.length, am_te z (.inl (ci, am_df ci))) H1 := by
      refine ⟨_, k1, ?_⟩
      rw [← hW.1]
      exact (u_born (am_tyF ci) hts k2 hKn hkC e1 k3).to (fun j hj => am_dv_df hc10 hj)
    have h9 := kk H1 (am_W_app hW he z1 o1) ⟨Nat.le_trans hS.1 (by omega), fun y h1 h2 => (o1 y (Nat.lt_of_lt_of_le h1 hS.1)).trans (hS.2.1 y h1 h2), hS.2.2⟩
    rw [am_vlw hk95, hps, ← hW.1] at h9
    exact h9
theorem am_na_W (hx : p.tables.exec = Jvm.exec) (hb : c.code = am_by m) (hown : s.vm.findClass (am_cn (am_ow m)) = some mid.cls) (hts : ∀ w ∈ lw_G, w.before args s = true) (hXt : am_Xt z s) (hS : va_S (az_A z) s.heap H locs) (hW : am_W z h H)
    {t n : Nat} {i : Instr} (hi : (t = 0 ∧ i = .newarray .int ∧ n = 2) ∨ (t = 1 ∧ i = .newarray .boolean ∧ n = 2) ∨ (∃ x ci, (t = 2 ∨ t = 3) ∧ i = .anewarray x ∧ n = 3 ∧ am_cc (am_ow m) x = some ci ∧ ci = am_ec t)) {x : Int32} (hd : decode (am_by m) pc = .ok (i, n)) (hg : (am_na1 h t x).1 = true) (hcells : cells + 1 ≤ R.cells) (hslots : slots + am_ix x ≤ R.slots)
    (kk : ∀ (H1 : Heap), am_W z (am_na1 h t x).2.2 H1 → va_S (az_A z) s.heap H1 locs → W p l e R s mid args below meth c H1 locs (cells + 1) (slots + am_ix x) Q (F0 mid (pc + n) lsJ (am_vl z (.inr (.inl (some (am_na1 h t x).2.1))) :: rest))) : W p l e R s mid args below meth c H locs cells slots Q (F0 mid pc lsJ (.int x :: rest)) := by
  unfold am_na1 at hg kk
  dsimp only at hg kk
  simp only [Bool.and_eq_true, am_fr] at hg
  obtain ⟨⟨g1, g2⟩, g3, g4⟩ := hg
  have hps := Nat.eq_of_beq_eq_true g1
  have hk95 : (am_nm h.length).1 < 95 := Nat.le_of_ble_eq_true g2
  have hx0 : ¬ x < 0 := fun w => am_in_vp g4 (Or.inl w)
  have hxl : am_ix x < 1000 := am_in_lt g4
  have key : ∀ (H1 : Heap) , va_at (az_D z) am_cl0 (z.1 + h.length, am_te z (am_nc1 t (am_ix x))) H1 → H1.size = H.size + 1 → (∀ y, y < H.size → H1[y]? = H[y]?) → W p l e R s mid args below meth c H1 locs (cells + 1) (slots + am_ix x) Q (F0 mid (pc + n) lsJ (.ref H.size :: rest)) := by
    intro H1 he z1 o1
    have h9 := kk H1 (am_W_app hW he z1 o1) ⟨Nat.le_trans hS.1 (by omega), fun y h1 h2 => (o1 y (Nat.lt_of_lt_of_le h1 hS.1)).trans (hS.2.1 y h1 h2), hS.2.2⟩
    rw [am_vlw hk95, hps, ← hW.1] at h9
    exact h9
  have rep : ∀ (k : Nat) (y : Int32), (fun j => Value.int ((List.replicate k (0 : Int32)).getD j 0)) = fun _ => Value.int 0 := by
    intro k _
    funext j
    rw [List.getD_eq_getElem?_getD, List.getElem?_replicate]
    split <;> rfl
  have repq : ∀ (k : Nat), (fun j => va_rf (((List.replicate k (none : Option am_K)).getD j none).map (am_ad z))) = fun _ => Value.null := by
    intro k
    funext j
    rw [List.getD_eq_getElem?_getD, List.getElem?_replicate]
    split <;> rfl
  rcases hi with ⟨rfl, rfl, rfl⟩ | ⟨rfl, rfl, rfl⟩ | ⟨y, ci, ht, rfl, rfl, hcc, hci⟩
  · have hcA : s.vm.findClass ("[" ++ (newarray.typeOf .int).toString) = some (az_cA z 0) := (hXt.1.2 0 _ rfl).2
    have har : (Cond.arrayClass (newarray.typeOf .int)).before args s = true := hts _ (lw_G_in am_arI rfl)
    refine va_newaK (atype := .int) (N := am_ix x) hx hb har rfl hd rfl hx0 rfl (by show am_ix x * 4 ≤ _; omega) hcells hslots rfl fun H1 cA e1 z1 o1 _ hNm => ?_
    have hc1 : cA = az_cA z 0 := Option.some.inj (hNm.symm.trans hcA)
    subst hc1
    refine key H1 ?_ z1 o1
    show H1[z.1 + h.length]? = some (vp_cell (az_cA z 0) ((List.replicate (am_ix x) (0 : Int32)).length, .inl (fun j => (List.replicate (am_ix x) (0 : Int32)).getD j 0)))
    rw [vp_cell_i, ← hW.1, e1, List.length_replicate, rep _ x]
    rfl
  · have hcA : s.vm.findClass ("[" ++ (newarray.typeOf .boolean).toString) = some (az_cA z 1) := (hXt.1.2 1 _ rfl).2
    have har : (Cond.arrayClass (newarray.typeOf .boolean)).before args s = true := hts _ (lw_G_in am_arZ rfl)
    refine va_newaK (atype := .boolean) (N := am_ix x) hx hb har rfl hd rfl hx0 rfl (by show am_ix x * 1 ≤ _; omega) hcells hslots rfl fun H1 cA e1 z1 o1 _ hNm => ?_
    have hc1 : cA = az_cA z 1 := Option.some.inj (hNm.symm.trans hcA)
    subst hc1
    refine key H1 ?_ z1 o1
    show H1[z.1 + h.length]? = some (vp_cell (az_cA z 1) ((List.replicate (am_ix x) (0 : Int32)).length, .inl (fun j => (List.replicate (am_ix x) (0 : Int32)).getD j 0)))
    rw [vp_cell_i, ← hW.1, e1, List.length_replicate, rep _ x]
    rfl
  · have hclink := hts _ (lw_G_in (am_ccF hcc) rfl)
    have core : ∀ C : String, am_cn ci = C → va_AO C s → (am_tys z)[t]? = some (az_cA z t, .object C) → am_nc1 t (am_ix x) = .inr (.inr (t, List.replicate (am_ix x) none)) → W p l e R s mid args below meth c H locs cells slots Q (F0 mid pc lsJ (.int x :: rest)) := by
      intro C hC hAO htys hnc
      rw [hC] at hclink
      obtain ⟨kA, comp, a1, a2, a3, a4⟩ := (hXt.1.2 t _ htys).2
      refine W.anew hx hb hown hclink (va_AO.use hAO) rfl hd rfl hx0 (by show am_ix x * 4 ≤ _; omega) hcells hslots fun cA kA2 comp2 f1 f2 f3 f4 => ?_
      have hc1 : cA = az_cA z t := Option.some.inj (f1.symm.trans a4)
      subst hc1
      refine key _ ?_ (by simp) (fun y hy => by rw [Array.getElem?_push, if_neg (Nat.ne_of_lt hy)])
      rw [hnc]
      show (H.push _)[z.1 + h.length]? = some (vp_cell (az_cA z t) ((List.replicate (am_ix x) (none : Option am_K)).length, .inr (.inr (.inr (.inr (fun j => ((List.replicate (am_ix x) (none : Option am_K)).getD j none).map (am_ad z)))))))
      rw [vp_cell_q, ← hW.1, Array.getElem?_push_size, List.length_replicate]
      rw [arrV_new]
      exact congrArg (fun f => some (arrV _ _ f)) (repq _).symm
    rcases ht with rfl | rfl
    · exact core "MixedRules$Flow" (by rw [hci]; rfl) hXt.2.2.2.2.2.2.2.2.1 rfl rfl
    · exact core "MixedRules$Letter" (by rw [hci]; rfl) hXt.2.2.2.2.2.2.2.2.2.1 rfl rfl
end
end
section
/-! heaps only grow; jumps -/
theorem am_pf1_ln (h : am_H) (q : am_K) (ci f : Nat) (v : am_V) : (am_pf1 h q ci f v).2.length = h.length ∧ am_sl (am_pf1 h q ci f v).2 = am_sl h := by
  unfold am_pf1
  rcases hc : am_hg h q with _ | ⟨c0, fs⟩ | c
  · exact ⟨rfl, rfl⟩
  · exact ⟨List.length_set, am_sl_set (am_hgF hc).2 (by show (fs.set f v).length = fs.length; rw [List.length_set])⟩
  · exact ⟨rfl, rfl⟩
theorem am_as1_ln (h : am_H) (ty : Nat) (q : am_K) (i : Int32) (v : am_V) : (am_as1 h ty q i v).2.length = h.length ∧ am_sl (am_as1 h ty q i v).2 = am_sl h := by
  unfold am_as1
  rcases hc : am_hg h q with _ | c | ⟨t, a⟩ | ⟨t, a⟩
  · exact ⟨rfl, rfl⟩
  · exact ⟨rfl, rfl⟩
  · rcases v with x | v
    · exact ⟨List.length_set, am_sl_set (am_hgF hc).2 (by show (a.set (am_ix i) x).length = a.length; rw [List.length_set])⟩
    · exact ⟨rfl, rfl⟩
  · rcases v with x | (_ | y) | x
    · exact ⟨rfl, rfl⟩
    · exact ⟨rfl, rfl⟩
    · exact ⟨List.length_set, am_sl_set (am_hgF hc).2 (by show (a.set (am_ix i) (some y)).length = a.length; rw [List.length_set])⟩
    · exact ⟨rfl, rfl⟩
def am_le (h h' : am_H) : Prop := h.length ≤ h'.length ∧ am_sl h ≤ am_sl h'
theorem am_le_rf (h : am_H) : am_le h h := ⟨Nat.le_refl _, Nat.le_refl _⟩
theorem am_le_tr {a b c : am_H} (h1 : am_le a b) (h2 : am_le b c) : am_le a c := ⟨Nat.le_trans h1.1 h2.1, Nat.le_trans h1.2 h2.2⟩
theorem am_le_eq {a b : am_H} (h : b.length = a.length ∧ am_sl b = am_sl a) : am_le a b := ⟨Nat.le_of_eq h.1.symm, Nat.le_of_eq h.2.symm⟩
theorem am_le_app (h : am_H) (c : am_C) : am_le h (h ++ [c]) := ⟨by simp, by rw [am_sl_app]; omega⟩
theorem am_bd_some {α β : Type} {rk : Nat} {x : Option (Option am_V × α)} {k : List am_V → α → Option β} {R : β} (h : am_bd rk x k = some R) : ∃ r h', x = some (r, h') ∧ k r.toList h' = some R := by
  rcases rk with _ | _ | _ | _ | rk
  · rcases x with _ | ⟨_ | v, h'⟩
    · cases h
    · exact ⟨none, h', rfl, h⟩
    · cases h
  · rcases x with _ | ⟨_ | v | v, h'⟩
    · cases h
    · cases h
    · exact ⟨_, h', rfl, h⟩
    · cases h
  · rcases x with _ | ⟨_ | v | v, h'⟩
    · cases h
    · cases h
    · exact ⟨_, h', rfl, h⟩
    · cases h
  · rcases x with _ | ⟨_ | v | v | v, h'⟩
    · cases h
    · cases h
    · cases h
    · exact ⟨_, h', rfl, h⟩
    · cases h
  · rcases x with _ | ⟨_ | v | v, h'⟩
    · cases h
    · cases h
    · exact ⟨_, h', rfl, h⟩
    · cases h
/-- what a call of the machine says -/
theorem am_do_some {E : am_E} {call : Nat → List am_V → am_H → am_R am_H} {m kd c na : Nat} {k : List am_V → am_H → am_R am_H} {st : List am_V} {h : am_H} {R : Option am_V × am_H} (e : am_do (am_I1 E) call m k kd c na st h = some R) :
    na ≤ st.length ∧ st.length - na ≤ 4 ∧ am_ht c < am_ht m ∧ am_rcv (am_I1 E) h kd c (st.take na).reverse = true ∧ ∃ r h', call c (st.take na).reverse h = some (r, h') ∧ k (r.toList ++ st.drop na) h' = some R := by
  unfold am_do at e
  cases hb : (Nat.ble na st.length && (Nat.ble (st.length - na) 4 && (Nat.blt (am_ht c) (am_ht m) && am_rcv (am_I1 E) h kd c (st.take na).reverse))) with
  | false => rw [hb] at e; cases e
  | true =>
    rw [hb] at e
    simp only [Bool.and_eq_true] at hb
    obtain ⟨b1, b2, b3, b4⟩ := hb
    obtain ⟨r, h', g1, g2⟩ := am_bd_some e
    exact ⟨Nat.le_of_ble_eq_true b1, Nat.le_of_ble_eq_true b2, Nat.le_of_ble_eq_true b3, b4, r, h', g1, g2⟩
theorem am_h1_le {E : am_E} {call : Nat → List am_V → am_H → am_R am_H} {m : Nat} (hcall : ∀ c as h r h', am_ht c < am_ht m → call c as h = some (r, h') → am_le h h') {i : Instr} {st : List am_V} {h : am_H} {k : List am_V → am_H → am_R am_H} {R : Option am_V × am_H} (e : am_h1 (am_I1 E) call m i st h k = some R) : ∃ st' h', k st' h' = some R ∧ am_le h h' := by
  have gdo : ∀ {kd c na : Nat}, am_do (am_I1 E) call m k kd c na st h = some R → ∃ st' h', k st' h' = some R ∧ am_le h h' := by
    intro kd c na e
    obtain ⟨-, -, b3, -, r, h', g1, g2⟩ := am_do_some e
    exact ⟨_, h', g2, hcall _ _ _ _ _ b3 g1⟩
  cases i
  case getfield x =>
    have e : am_gF (am_I1 E) (am_cf (am_ow m) x) st h k = some R := e
    rcases ht : am_cf (am_ow m) x with _ | ⟨ci, f⟩
    · rw [ht] at e; cases e
    · rw [ht] at e
      rcases st with _ | ⟨_ | (_ | q) | _, r⟩
      · cases e
      · cases e
      · cases e
      · have e : (match am_gf1 h q ci f with | some v => k (v :: r) h | none => none) = some R := e
        cases hg : am_gf1 h q ci f with
        | none => rw [hg] at e; cases e
        | some v => rw [hg] at e; exact ⟨_, h, e, am_le_rf h⟩
      · cases e
  case putfield x =>
    have e : am_pF (am_I1 E) m (am_cf (am_ow m) x) st h k = some R := e
    rcases ht : am_cf (am_ow m) x with _ | ⟨ci, f⟩
    · rw [ht] at e; cases e
    · rw [ht] at e
      rcases st with _ | ⟨v, _ | ⟨_ | (_ | q) | _, r⟩⟩
      · cases e
      · cases e
      · cases e
      · cases e
      · obtain ⟨-, e⟩ := am_if_some (show am_if (am_fo m ci f) (am_if (am_pf1 h q ci f v).1 (k r (am_pf1 h q ci f v).2)) = some R from e)
        obtain ⟨-, e⟩ := am_if_some e
        exact ⟨_, _, e, am_le_eq (am_pf1_ln h q ci f v)⟩
      · cases e
  case iaload =>
    rcases st with _ | ⟨j | _, _ | ⟨_ | (_ | q) | _, r⟩⟩
    case cons.inl.cons.inr.inl.some => exact ⟨_, h, (am_if_some (show am_if (am_al1 E h 0 q j).1 (k ((am_al1 E h 0 q j).2 :: r) h) = some R from e)).2, am_le_rf h⟩
    all_goals cases e
  case baload =>
    rcases st with _ | ⟨j | _, _ | ⟨_ | (_ | q) | _, r⟩⟩
    case cons.inl.cons.inr.inl.some => exact ⟨_, h, (am_if_some (show am_if (am_al1 E h 1 q j).1 (k ((am_al1 E h 1 q j).2 :: r) h) = some R from e)).2, am_le_rf h⟩
    all_goals cases e
  case aaload =>
    rcases st with _ | ⟨j | _, _ | ⟨_ | (_ | q) | _, r⟩⟩
    case cons.inl.cons.inr.inl.some => exact ⟨_, h, (am_if_some (show am_if (am_al1 E h 2 q j).1 (k ((am_al1 E h 2 q j).2 :: r) h) = some R from e)).2, am_le_rf h⟩
    all_goals cases e
  case iastore =>
    rcases st with _ | ⟨v, _ | ⟨j | _, _ | ⟨_ | (_ | q) | _, r⟩⟩⟩
    case cons.cons.inl.cons.inr.inl.some => exact ⟨_, _, (am_if_some (show am_if (am_as1 h 0 q j v).1 (k r (am_as1 h 0 q j v).2) = some R from e)).2, am_le_eq (am_as1_ln h 0 q j v)⟩
    all_goals cases e
  case bastore =>
    rcases st with _ | ⟨v, _ | ⟨j | _, _ | ⟨_ | (_ | q) | _, r⟩⟩⟩
    case cons.cons.inl.cons.inr.inl.some => exact ⟨_, _, (am_if_some (show am_if (am_as1 h 1 q j v).1 (k r (am_as1 h 1 q j v).2) = some R from e)).2, am_le_eq (am_as1_ln h 1 q j v)⟩
    all_goals cases e
  case aastore =>
    rcases st with _ | ⟨v, _ | ⟨j | _, _ | ⟨_ | (_ | q) | _, r⟩⟩⟩
    case cons.cons.inl.cons.inr.inl.some => exact ⟨_, _, (am_if_some (show am_if (am_as1 h 2 q j v).1 (k r (am_as1 h 2 q j v).2) = some R from e)).2, am_le_eq (am_as1_ln h 2 q j v)⟩
    all_goals cases e
  case arraylength =>
    rcases st with _ | ⟨_ | (_ | q) | _, r⟩
    case cons.inr.inl.some =>
      have e : (match am_ln1 E h q with | some x => k (.inl x :: r) h | none => none) = some R := e
      cases hg : am_ln1 E h q with
      | none => rw [hg] at e; cases e
      | some v => rw [hg] at e; exact ⟨_, h, e, am_le_rf h⟩
    all_goals cases e
  case new x =>
    have e : am_nW (am_I1 E) (am_cc (am_ow m) x) st h k = some R := e
    rcases ht : am_cc (am_ow m) x with _ | ci
    · rw [ht] at e; cases e
    · rw [ht] at e
      rcases hg : am_nw1 h ci with _ | ⟨q, h'⟩
      · have e2 : am_nW (am_I1 E) (some ci) st h k = none := by unfold am_nW; simp only [am_I1, hg]
        rw [e2] at e; cases e
      · have e2 : am_nW (am_I1 E) (some ci) st h k = k (.inr (.inl (some q)) :: st) h' := by unfold am_nW; simp only [am_I1, hg]
        rw [e2] at e
        refine ⟨_, h', e, ?_⟩
        unfold am_nw1 at hg
        split at hg
        · cases hg; exact am_le_app _ _
        · cases hg
  case newarray x =>
    have e : am_nA (am_I1 E) (am_aT x) st h k = some R := e
    rcases ht : am_aT x with _ | t
    · rw [ht] at e; cases e
    · rw [ht] at e
      rcases st with _ | ⟨j | _, r⟩
      · cases e
      · exact ⟨_, _, (am_if_some (show am_if (am_na1 h t j).1 (k (.inr (.inl (some (am_na1 h t j).2.1)) :: r) (am_na1 h t j).2.2) = some R from e)).2, am_le_app _ _⟩
      · cases e
  case anewarray x =>
    have e : am_nA (am_I1 E) (am_ac (am_cc (am_ow m) x)) st h k = some R := e
    rcases ht : am_ac (am_cc (am_ow m) x) with _ | t
    · rw [ht] at e; cases e
    · rw [ht] at e
      rcases st with _ | ⟨j | _, r⟩
      · cases e
      · exact ⟨_, _, (am_if_some (show am_if (am_na1 h t j).1 (k (.inr (.inl (some (am_na1 h t j).2.1)) :: r) (am_na1 h t j).2.2) = some R from e)).2, am_le_app _ _⟩
      · cases e
  case invokevirtual x =>
    have e : am_iv (am_I1 E) call m (am_cm (am_ow m) x) st h k = some R := e
    unfold am_iv at e
    split at e
    · exact gdo e
    · cases e
  case invokestatic x =>
    have e : am_is (am_I1 E) call m (am_cm (am_ow m) x) st h k = some R := e
    unfold am_is at e
    split at e
    · exact gdo e
    · exact gdo e
    · cases e
  case invokespecial x =>
    have e : am_ip (am_I1 E) call m (am_cm (am_ow m) x) st h k = some R := e
    unfold am_ip at e
    split at e
    · exact gdo e
    · exact gdo e
    · rcases st with _ | ⟨_ | (_ | q) | _, r⟩
      · cases e
      · cases e
      · cases e
      · exact ⟨_, h, (am_if_some (show am_if (Nat.blt q.1 95 && Nat.ble r.length 4) (k r h) = some R from e)).2, am_le_rf h⟩
      · cases e
    · cases e
  all_goals cases e
/-- a jump goes on at one place, or nowhere -/
def am_Ln {A B R : Type} (f : (A → B → Option R) → Option R) : Prop := (∀ k, f k = none) ∨ ∃ a b, ∀ k, f k = k a b
theorem am_Ln_0 {A B R : Type} : am_Ln (fun _ : A → B → Option R => none) := Or.inl fun _ => rfl
theorem am_Ln_1 {A B R : Type} (a : A) (c : B) : am_Ln (fun k : A → B → Option R => k a c) := Or.inr ⟨a, c, fun _ => rfl⟩
theorem am_Ln_if {A B R : Type} (b : Bool) (a : A) (c : B) : am_Ln (fun k : A → B → Option R => am_if b (k a c)) := by
  cases b
  · exact Or.inl fun _ => rfl
  · exact Or.inr ⟨a, c, fun _ => rfl⟩
theorem am_Ln_br {R : Type} (pc : Nat) (off : Int) (r : List am_V) : am_Ln (fun k : Nat → List am_V → Option R => am_br pc off (fun t => k t r)) := by
  unfold am_br
  generalize (pc : Int) + off = z
  cases z
  · exact am_Ln_1 _ _
  · exact am_Ln_0
theorem am_Ln_ite {A B R : Type} {f g : (A → B → Option R) → Option R} (c : Prop) [Decidable c] (hf : am_Ln f) (hg : am_Ln g) : am_Ln (fun k => if c then f k else g k) := by
  by_cases h : c
  · simp only [if_pos h]; exact hf
  · simp only [if_neg h]; exact hg
section
variable {Hp : Type}
theorem am_Ln_h2 (i : Instr) (pc n : Nat) (st : List am_V) : am_Ln (fun k : Nat → List am_V → am_R Hp => am_h2 i pc n st k) := by
  cases i
  case goto off => exact am_Ln_br pc off st
  case ifCond c off =>
    rcases st with _ | ⟨x | _, r⟩
    · exact am_Ln_0
    · cases c
      · exact am_Ln_ite (x = 0) (am_Ln_br pc off r) (am_Ln_1 _ _)
      · exact am_Ln_ite (x = 0) (am_Ln_1 _ _) (am_Ln_br pc off r)
      · exact am_Ln_ite (x < 0) (am_Ln_br pc off r) (am_Ln_1 _ _)
      · exact am_Ln_ite (x < 0) (am_Ln_1 _ _) (am_Ln_br pc off r)
      · exact am_Ln_ite (x ≤ 0) (am_Ln_1 _ _) (am_Ln_br pc off r)
      · exact am_Ln_ite (x ≤ 0) (am_Ln_br pc off r) (am_Ln_1 _ _)
    · exact am_Ln_0
  case if_icmp c off =>
    rcases st with _ | ⟨y | _, _ | ⟨x | _, r⟩⟩
    · exact am_Ln_0
    · exact am_Ln_0
    · cases c
      · exact am_Ln_ite (x = y) (am_Ln_br pc off r) (am_Ln_1 _ _)
      · exact am_Ln_ite (x = y) (am_Ln_1 _ _) (am_Ln_br pc off r)
      · exact am_Ln_ite (x < y) (am_Ln_br pc off r) (am_Ln_1 _ _)
      · exact am_Ln_ite (x < y) (am_Ln_1 _ _) (am_Ln_br pc off r)
      · exact am_Ln_ite (x ≤ y) (am_Ln_1 _ _) (am_Ln_br pc off r)
      · exact am_Ln_ite (x ≤ y) (am_Ln_br pc off r) (am_Ln_1 _ _)
    · exact am_Ln_0
    · exact am_Ln_0
    · exact am_Ln_0
    · exact am_Ln_0
  case ifnull off =>
    rcases st with _ | ⟨_ | (_ | q) | _, r⟩
    · exact am_Ln_0
    · exact am_Ln_0
    · exact am_Ln_br pc off r
    · exact am_Ln_if _ _ _
    · exact am_Ln_0
  case ifnonnull off =>
    rcases st with _ | ⟨_ | (_ | q) | _, r⟩
    · exact am_Ln_0
    · exact am_Ln_0
    · exact am_Ln_1 _ _
    · exact am_Ln_ite _ (am_Ln_br pc off r) (am_Ln_0)
    · exact am_Ln_0
  case tableswitch d lo hi offs =>
    rcases st with _ | ⟨x | _, r⟩
    · exact am_Ln_0
    · refine am_Ln_ite _ ?_ (am_Ln_0)
      generalize offs.toList = l
      induction l generalizing lo with
      | nil => exact am_Ln_br pc d r
      | cons o os ih => exact am_Ln_ite (x = am_ci lo) (am_Ln_br pc o r) (ih (lo + 1))
    · exact am_Ln_0
  all_goals exact am_Ln_0
end
theorem am_st_le {E : am_E} {call : Nat → List am_V → am_H → am_R am_H} {m : Nat} (hcall : ∀ c as h r h', am_ht c < am_ht m → call c as h = some (r, h') → am_le h h') {pc : Nat} {ls : am_L} {st : List am_V} {h : am_H} {k : Nat → am_L → List am_V → am_H → am_R am_H} {R : Option am_V × am_H} (e : am_st (am_I1 E) call m k pc ls st h = some R) : (∃ a b c d, k a b c d = some R ∧ am_le h d) ∨ am_le h R.2 := by
  unfold am_st at e
  rcases hat : am_at m pc with _ | ⟨i, n⟩
  · rw [hat] at e; cases e
  · rw [hat] at e
    have e : am_si (am_I1 E) call m i n k pc ls st h = some R := e
    unfold am_si at e
    have h0 : (match am_pu (am_ow m) i ls st with | some (ls', st') => k (pc + n) ls' st' h | none => none) = some R → ∃ a b c d, k a b c d = some R ∧ am_le h d := by
      intro e
      rcases hp : am_pu (am_ow m) i ls st with _ | ⟨l', s'⟩
      · rw [hp] at e; cases e
      · rw [hp] at e; exact ⟨_, _, _, h, e, am_le_rf h⟩
    generalize am_kd i = kd at e
    rcases kd with _ | _ | _ | _ | kd
    · exact Or.inl (h0 e)
    · obtain ⟨a, b, g1, g2⟩ := am_h1_le hcall e
      exact Or.inl ⟨_, _, _, _, g1, g2⟩
    · have e : am_h2 i pc n st (fun pc' st' => k pc' ls st' h) = some R := e
      rcases am_Ln_h2 (Hp := am_H) i pc n st with hr | ⟨a, b, hr⟩
      · have h1 : am_h2 i pc n st (fun pc' st' => k pc' ls st' h) = none := hr _
        rw [h1] at e
        cases e
      · have h1 : am_h2 i pc n st (fun pc' st' => k pc' ls st' h) = k a ls b h := hr _
        rw [h1] at e
        exact Or.inl ⟨_, _, _, h, e, am_le_rf h⟩
    · have e : am_h3 m i st h = some R := e
      refine Or.inr ?_
      cases i
      case ireturn =>
        rcases st with _ | ⟨x | _, _ | _⟩
        · cases e
        · obtain ⟨-, e⟩ := am_if_some (show am_if (am_rz (am_rk m) x) (some (some (.inl x), h)) = some R from e)
          cases e; exact am_le_rf h
        · cases e
        · cases e
        · cases e
      case areturn =>
        rcases st with _ | ⟨_ | x | _, _ | _⟩
        · cases e
        · cases e
        · cases e
        · obtain ⟨-, e⟩ := am_if_some (show am_if (Nat.beq (am_rk m) 3) (some (some (.inr (.inl x)), h)) = some R from e)
          cases e; exact am_le_rf h
        · cases e
        · cases e
        · cases e
      case return_ =>
        rcases st with _ | ⟨_, _⟩
        · obtain ⟨-, e⟩ := am_if_some (show am_if (Nat.beq (am_rk m) 0) (some (none, h)) = some R from e)
          cases e; exact am_le_rf h
        · cases e
      all_goals cases e
    · exact Or.inl (h0 e)
theorem am_F_mono {E : am_E} {call : Nat → List am_V → am_H → am_R am_H} {m : Nat} (hcall : ∀ c as h r h', am_ht c < am_ht m → call c as h = some (r, h') → am_le h h') : ∀ (n pc : Nat) (ls : am_L) (st : List am_V) (h : am_H) (R : Option am_V × am_H), am_F (am_I1 E) call m n pc ls st h = some R → am_le h R.2 := by
  intro n
  induction n with
  | zero => intro pc ls st h R e; cases e
  | succ n ih =>
    intro pc ls st h R e
    rcases am_st_le hcall (show am_st (am_I1 E) call m (am_F (am_I1 E) call m n) pc ls st h = some R from e) with ⟨a, b, c, d, g1, g2⟩ | g
    · exact am_le_tr g2 (ih _ _ _ _ _ g1)
    · exact g
theorem am_run_le (E : am_E) : ∀ (d m : Nat), am_ht m < d → ∀ as h r h', am_run (am_I1 E) m as h = some (r, h') → am_le h h' := by
  intro d
  induction d with
  | zero => intro m hm; exact absurd hm (Nat.not_lt_zero _)
  | succ d ih =>
    intro m hm as h r h' e
    by_cases h0 : 0 < am_ht m
    · cases hn : Nat.beq m mI_Mo_in with
      | true =>
        have := Nat.eq_of_beq_eq_true hn
        subst this
        have e : am_nt as h = some (r, h') := e
        unfold am_nt at e
        split at e
        · cases e; exact am_le_rf h
        · cases e
      | false =>
        rw [am_run_eq (am_I1 E) m h0 hn] at e
        obtain ⟨-, e⟩ := am_if_some e
        obtain ⟨n, e⟩ := am_X_ex e
        exact am_F_mono (fun c as h r h' hc e => ih c (by omega) as h r h' e) n _ _ _ _ _ e
    · exfalso
      unfold am_run at e
      rw [show am_ht m = 0 by omega] at e
      cases e
/-- jumps -/
theorem am_br_some {α : Type} {pc : Nat} {off : Int} {k : Nat → Option α} {R : α} (e : am_br pc off k = some R) : ∃ t : Nat, (pc : Int) + off = (t : Int) ∧ k t = some R := by
  unfold am_br at e
  cases hz : (pc : Int) + off with
  | ofNat t => rw [hz] at e; exact ⟨t, rfl, e⟩
  | negSucc t => rw [hz] at e; cases e
theorem am_ts_eq {α : Type} {x : Int32} {pc : Nat} {d : Int} {k : Nat → Option α} : ∀ (os : List Int) (lo : Int), -2000 ≤ lo → lo + os.length ≤ 4000 → am_ts x pc d k os lo = if lo ≤ x.toInt ∧ x.toInt < lo + os.length then am_br pc (os.getD (x.toInt - lo).toNat 0) k else am_br pc d k := by
  intro os
  induction os with
  | nil =>
    intro lo h1 h2
    rw [if_neg (by simp only [List.length_nil]; omega)]
    rfl
  | cons o os ih =>
    intro lo h1 h2
    show (if x = am_ci lo then am_br pc o k else am_ts x pc d k os (lo + 1)) = _
    simp only [List.length_cons] at h2 ⊢
    have hci : (am_ci lo).toInt = lo := by
      rw [← am_ci_eq, Int32.toInt_ofInt_of_le (by simp; omega) (by simp; omega)]
    by_cases hx : x = am_ci lo
    · rw [if_pos hx]
      have hxl : x.toInt = lo := by rw [hx, hci]
      rw [if_pos (by omega), hxl]
      simp
    · rw [if_neg hx, ih (lo + 1) (by omega) (by push_cast at h2; omega)]
      have hne : x.toInt ≠ lo := fun w => hx (Int32.toInt_inj.mp (by rw [hci]; exact w))
      by_cases hr : lo + 1 ≤ x.toInt ∧ x.toInt < lo + 1 + os.length
      · rw [if_pos hr, if_pos (by push_cast; omega)]
        congr 1
        have : (x.toInt - lo).toNat = (x.toInt - (lo + 1)).toNat + 1 := by omega
        rw [this]
        simp
      · rw [if_neg hr, if_neg (by push_cast; omega)]
section
variable {p : Program} {l : Launch} {e : Env} {R : Room} {s : State} {mid : MethodId} {args : Array Value} {below : List Frame} {meth : Method} {c : Code} {H : Heap} {locs : List Loc} {cells slots : Nat} {Q : State → Prop} {z : am_N} {pc n m : Nat} {st : List am_V} {lsJ : Array Slot} {i : Instr}
theorem am_h2_W (hx : p.tables.exec = Jvm.exec) (hb : c.code = am_by m) (hd : decode (am_by m) pc = .ok (i, n)) (hl : am_lk1 i n = true) (hj : am_jk pc i = true) {k : Nat → List am_V → am_R am_H} {Rr : Option am_V × am_H} (he : am_h2 i pc n st k = some Rr)
    (K : ∀ pc' st', k pc' st' = some Rr → W p l e R s mid args below meth c H locs cells slots Q (F0 mid pc' lsJ (st'.map (am_vl z)))) : W p l e R s mid args below meth c H locs cells slots Q (F0 mid pc lsJ (st.map (am_vl z))) := by
  have tg : ∀ {o : Int}, decide (0 ≤ (pc : Int) + o) = true → ∃ t : Nat, (pc : Int) + o = (t : Int) := by
    intro o ho
    have := of_decide_eq_true ho
    exact ⟨((pc : Int) + o).toNat, by omega⟩
  have br : ∀ {o : Int} {t : Nat} {r : List am_V}, (pc : Int) + o = (t : Int) → am_br pc o (fun t => k t r) = some Rr → W p l e R s mid args below meth c H locs cells slots Q (F0 mid t lsJ (r.map (am_vl z))) := by
    intro o t r ht he
    obtain ⟨t', h1, h2⟩ := am_br_some he
    have : t = t' := by omega
    subst this
    exact K _ _ h2
  cases i
  case goto off =>
    obtain rfl : 3 = n := Nat.eq_of_beq_eq_true hl
    obtain ⟨t, h1, h2⟩ := am_br_some (show am_br pc off (fun t => k t st) = some Rr from he)
    exact lv_goto hx hb hd h1 (K _ _ h2)
  case ifCond cnd off =>
    obtain rfl : 3 = n := Nat.eq_of_beq_eq_true hl
    obtain ⟨t, ht⟩ := tg hj
    rcases st with _ | ⟨x | _, r⟩
    · cases he
    · have he : am_c1 cnd x (am_br pc off (fun t => k t r)) (k (pc + 3) r) = some Rr := he
      cases cnd
      · exact lv_if_eq hx hb hd ht (fun w => br ht (by rw [am_c1, if_pos w] at he; exact he)) (fun w => K _ _ (by rw [am_c1, if_neg w] at he; exact he))
      · exact lv_if_ne hx hb hd ht (fun w => br ht (by rw [am_c1, if_neg w] at he; exact he)) (fun w => K _ _ (by rw [am_c1, if_pos w] at he; exact he))
      · exact lv_if_lt hx hb hd ht (fun w => br ht (by rw [am_c1, if_pos w] at he; exact he)) (fun w => K _ _ (by rw [am_c1, if_neg w] at he; exact he))
      · exact lv_if_ge hx hb hd ht (fun w => br ht (by rw [am_c1, if_neg (Int32.not_lt.mpr w)] at he; exact he)) (fun w => K _ _ (by rw [am_c1, if_pos (Int32.not_le.mp w)] at he; exact he))
      · exact lv_if_gt hx hb hd ht (fun w => br ht (by rw [am_c1, if_neg (Int32.not_le.mpr w)] at he; exact he)) (fun w => K _ _ (by rw [am_c1, if_pos (Int32.not_lt.mp w)] at he; exact he))
      · exact lv_if_le hx hb hd ht (fun w => br ht (by rw [am_c1, if_pos w] at he; exact he)) (fun w => K _ _ (by rw [am_c1, if_neg w] at he; exact he))
    · cases he
  case if_icmp cnd off =>
    obtain rfl : 3 = n := Nat.eq_of_beq_eq_true hl
    obtain ⟨t, ht⟩ := tg hj
    rcases st with _ | ⟨y | _, _ | ⟨x | _, r⟩⟩
    case cons.inl.cons.inl =>
      have he : am_c2 cnd x y (am_br pc off (fun t => k t r)) (k (pc + 3) r) = some Rr := he
      cases cnd
      · exact lv_icmp_eq hx hb hd ht (fun w => br ht (by rw [am_c2, if_pos w] at he; exact he)) (fun w => K _ _ (by rw [am_c2, if_neg w] at he; exact he))
      · exact lv_icmp_ne hx hb hd ht (fun w => br ht (by rw [am_c2, if_neg w] at he; exact he)) (fun w => K _ _ (by rw [am_c2, if_pos w] at he; exact he))
      · exact lv_icmp_lt hx hb hd ht (fun w => br ht (by rw [am_c2, if_pos w] at he; exact he)) (fun w => K _ _ (by rw [am_c2, if_neg w] at he; exact he))
      · exact lv_icmp_ge hx hb hd ht (fun w => br ht (by rw [am_c2, if_neg (Int32.not_lt.mpr w)] at he; exact he)) (fun w => K _ _ (by rw [am_c2, if_pos (Int32.not_le.mp w)] at he; exact he))
      · exact lv_icmp_gt hx hb hd ht (fun w => br ht (by rw [am_c2, if_neg (Int32.not_le.mpr w)] at he; exact he)) (fun w => K _ _ (by rw [am_c2, if_pos (Int32.not_lt.mp w)] at he; exact he))
      · exact lv_icmp_le hx hb hd ht (fun w => br ht (by rw [am_c2, if_pos w] at he; exact he)) (fun w => K _ _ (by rw [am_c2, if_neg w] at he; exact he))
    all_goals cases he
  case ifnull off =>
    obtain rfl : 3 = n := Nat.eq_of_beq_eq_true hl
    rcases st with _ | ⟨_ | (_ | q) | _, r⟩
    · cases he
    · cases he
    · obtain ⟨t, h1, h2⟩ := am_br_some (show am_br pc off (fun t => k t r) = some Rr from he)
      exact lv_ifnullN hx hb hd h1 (K _ _ h2)
    · obtain ⟨h1, h2⟩ := am_if_some (show am_if (Nat.blt q.1 95) (k (pc + 3) r) = some Rr from he)
      rw [List.map_cons, am_vlw (Nat.le_of_ble_eq_true h1)]
      exact lv_ifnull hx hb hd (K _ _ h2)
    · cases he
  case ifnonnull off =>
    obtain rfl : 3 = n := Nat.eq_of_beq_eq_true hl
    rcases st with _ | ⟨_ | (_ | q) | _, r⟩
    · cases he
    · cases he
    · have he : k (pc + 3) r = some Rr := he
      exact lv_ifnonnullN hx hb hd (K _ _ he)
    · obtain ⟨h1, h2⟩ := am_if_some (show am_if (Nat.blt q.1 95) (am_br pc off (fun t => k t r)) = some Rr from he)
      obtain ⟨t, h3, h4⟩ := am_br_some h2
      rw [List.map_cons, am_vlw (Nat.le_of_ble_eq_true h1)]
      exact lv_ifnonnull hx hb hd h3 (K _ _ h4)
    · cases he
  case tableswitch d lo hi offs =>
    rcases st with _ | ⟨x | _, r⟩
    · cases he
    · obtain ⟨h1, h2⟩ := am_if_some (show am_if (decide (-1000 ≤ lo ∧ lo ≤ 0 ∧ hi ≤ 1000 ∧ (offs.toList.length : Int) = hi - lo + 1)) (am_ts x pc d (fun t => k t r) offs.toList lo) = some Rr from he)
      obtain ⟨g1, g2, g3, g4⟩ := of_decide_eq_true h1
      rw [am_ts_eq _ _ (by omega) (by omega)] at h2
      by_cases hr : lo ≤ x.toInt ∧ x.toInt < lo + offs.toList.length
      · rw [if_pos hr] at h2
        obtain ⟨t, h3, h4⟩ := am_br_some h2
        have hlt : (x.toInt - lo).toNat < offs.toList.length := by omega
        refine lv_tableIn hx hb hd (by omega) (by omega) (off := offs.toList.getD (x.toInt - lo).toNat 0) ?_ h3 (K _ _ h4)
        rw [← Array.getElem?_toList, List.getD_eq_getElem?_getD, List.getElem?_eq_getElem hlt]
        rfl
      · rw [if_neg hr] at h2
        obtain ⟨t, h3, h4⟩ := am_br_some h2
        exact lv_tableOut hx hb hd (by omega) h3 (K _ _ h4)
    · cases he
  all_goals cases he
end
end
section
/-! calls; a run of the machine is a run of the JVM: Met of every method -/
set_option maxRecDepth 100000 in
theorem am_nests0 : (List.range 16).all (fun o => (am_cmT o).all (fun e => match e.2.1 with
  | 3 => decide ((am_cn o, e.1, am_y e.2.2.1) ∈ am_nest)
  | 4 => decide ((am_cn o, e.1, am_y e.2.2.1) ∈ am_nest)
  | _ => true)) = true := by decide +kernel
theorem am_nests {o i kd c na : Nat} (ho : o < 16) (h : am_cm o i = some (kd, c, na)) (hk : kd = 3 ∨ kd = 4) : (am_cn o, i, am_y c) ∈ am_nest := by
  have h1 := List.all_eq_true.mp (List.all_eq_true.mp am_nests0 o (List.mem_range.mpr ho)) _ (am_lk_mem h)
  rcases hk with rfl | rfl
  · exact of_decide_eq_true h1
  · exact of_decide_eq_true h1
theorem am_cm_lt {o i kd c na : Nat} (ho : o < 16) (h : am_cm o i = some (kd, c, na)) : c < 190 :=
  Nat.le_of_ble_eq_true (List.all_eq_true.mp (List.all_eq_true.mp am_nolaw o (List.mem_range.mpr ho)) _ (am_lk_mem h))
def am_ws (c : Nat) : List Cond := .code (am_y c) (am_by c) (am_ml c) (am_rt c) :: lw_G
theorem am_ws_good {c : Nat} (hc : c < 190) : GoodIn lw_G (am_ws c) := by
  intro w hw
  rcases List.mem_cons.mp hw with rfl | hw
  · exact ⟨lw_G_in (am_cwF hc) rfl, good_of_word rfl⟩
  · exact ⟨hw, good_of_word (List.mem_filter.mp hw).2⟩
def am_rm (d mc ms : Nat) : Room := { frames := d, cells := mc, slots := ms, locals := 38 * d }
def am_Pc (z : am_N) (as : List am_V) (h : am_H) : Array Value → State → Prop := va_Pc (as.map (am_vl z)) (fun U => am_W z h U.heap ∧ am_Xt z U)
def am_Qc (z : am_N) (r : Option am_V) (h' : am_H) : Array Value → State → Outcome → State → Prop := fun _ st oc t => oc = .returned (r.map (am_vl z)) ∧ am_W z h' t.heap ∧ va_F (az_A z) st t
theorem am_blind (z : am_N) (as : List am_V) (h : am_H) : FrameBlind (am_Pc z as h) := by
  intro a U g mk q
  obtain ⟨h1, h2, h3⟩ := q
  exact ⟨h1, h2, am_Xt_call h3⟩
def am_MetC (l : Launch) (z : am_N) (c : Nat) : Prop := ∀ as h r h', am_run (am_I1 (az_E z)) c as h = some (r, h') → Met l (am_y c) (am_ws c) (am_rm (am_ht c) (h'.length - h.length) (am_sl h' - am_sl h)) (am_Pc z as h) (am_Qc z r h') (h'.length - h.length) (am_sl h' - am_sl h) (az_A z)
section
variable {p : Program} {l : Launch} {e : Env} {R : Room} {s : State} {mid : MethodId} {args : Array Value} {below : List Frame} {meth : Method} {c : Code} {H : Heap} {locs : List Loc} {cells slots : Nat} {Q : State → Prop} {z : am_N} {pc n m : Nat} {h : am_H} {st : List am_V} {lsJ : Array Slot} {i : Instr}
theorem am_call_go {mc ms : Nat} {r : Option am_V} {h' : am_H} {a : Array Value} {st0 rest : List Value} (hr : va_Run p l e R s mid args below meth c H locs cells slots mc ms (F0 mid pc lsJ st0) rest (am_Qc z r h' a) (az_A z)) (hS : va_S (az_A z) s.heap H locs)
    (kk : ∀ (H1 : Heap) (locs1 : List Loc), am_W z h' H1 → va_S (az_A z) s.heap H1 locs1 → W p l e R s mid args below meth c H1 locs1 (cells + mc) (slots + ms) Q (F0 mid (pc + 3) lsJ ((r.map (am_vl z)).toList ++ rest))) : W p l e R s mid args below meth c H locs cells slots Q (F0 mid pc lsJ st0) := by
  intro T hT X
  obtain ⟨v, st₀, t, T', L, h0, X', hL, e1, e2, ⟨hv, hw, hz, hk⟩, stp⟩ := hr T hT X
  cases hv
  rw [h0] at hz hk
  obtain ⟨t2, a1, b1⟩ := kk T'.heap (locs ++ L) (by rw [e1]; exact hw)
    ⟨Nat.le_trans hS.1 (by rw [e1]; exact hz), fun q h1 h2 => by rw [e1, hk q (Nat.lt_of_lt_of_le h1 hS.1) h2]; exact hS.2.1 q h1 h2, fun q hq => by
      rcases List.mem_append.mp hq with h | h
      · exact hS.2.2 q h
      · exact hL q h⟩ T' rfl X'
  exact ⟨t2, stp t2 a1, b1⟩
theorem am_rest {st : List am_V} (hz : az_fv z = .null ∨ ∃ a, az_fv z = .ref a) (h : st.length ≤ 4) : ((st.map (am_vl z)).map fun v => v.category).sum ≤ 8 := by
  have hc : ∀ v : am_V, (am_vl z v).category ≤ 2 := fun v => by rcases lv_cat (am_vl z v) with q | q <;> omega
  rcases st with _ | ⟨a, _ | ⟨b, _ | ⟨d, _ | ⟨f, _ | ⟨g, st⟩⟩⟩⟩⟩
  · simp
  · simp; have := hc a; omega
  · simp; have := hc a; have := hc b; omega
  · simp; have := hc a; have := hc b; have := hc d; omega
  · simp; have := hc a; have := hc b; have := hc d; have := hc f; omega
  · exact absurd h (by simp only [List.length_cons]; omega)
set_option maxHeartbeats 4000000 in
theorem am_do_W (hcall : ∀ c, c < 190 → am_ht c < am_ht m → am_MetC l z c) (hx : p.tables.exec = Jvm.exec) (hb : c.code = am_by m) (hm : m < 191) (hml : c.maxLocals = am_ml m) (hown : s.vm.findClass (am_cn (am_ow m)) = some mid.cls) (hts : ∀ w ∈ lw_G, w.before args s = true) (hXt : am_Xt z s) (hS : va_S (az_A z) s.heap H locs) (hW : am_W z h H) (hls : lsJ.size = am_ml m)
    (hRf : am_ht m ≤ R.frames) (hRl : 38 * am_ht m ≤ R.locals) {x kd cc na : Nat} (hcm : am_cm (am_ow m) x = some (kd, cc, na)) (hi : (kd = 0 ∧ i = .invokevirtual x) ∨ ((kd = 1 ∨ kd = 3) ∧ i = .invokestatic x) ∨ ((kd = 2 ∨ kd = 4) ∧ i = .invokespecial x)) (hd : decode (am_by m) pc = .ok (i, 3))
    {k : List am_V → am_H → am_R am_H} {Rr : Option am_V × am_H} (he : am_do (am_I1 (az_E z)) (am_run (am_I1 (az_E z))) m k kd cc na st h = some Rr)
    (hroom : ∀ st' h', k st' h' = some Rr → am_le h h' → cells + (h'.length - h.length) ≤ R.cells ∧ slots + (am_sl h' - am_sl h) ≤ R.slots)
    (K : ∀ st' h' H1 locs1, k st' h' = some Rr → am_le h h' → am_W z h' H1 → va_S (az_A z) s.heap H1 locs1 → W p l e R s mid args below meth c H1 locs1 (cells + (h'.length - h.length)) (slots + (am_sl h' - am_sl h)) Q (F0 mid (pc + 3) lsJ (st'.map (am_vl z)))) : W p l e R s mid args below meth c H locs cells slots Q (F0 mid pc lsJ (st.map (am_vl z))) := by
  have hfv : az_fv z = .null ∨ ∃ a, az_fv z = .ref a := hXt.2.2.2.2.2.2.2.2.2.2.2.2.2
  obtain ⟨-, -, -, -, -, how⟩ := am_yok hm
  obtain ⟨b1, b2, b3, b4, r, h', g1, g2⟩ := am_do_some he
  have hcc := am_cm_lt how hcm
  have hM := hcall cc hcc b3 _ _ _ _ g1
  have hle := am_run_le (az_E z) (am_ht cc + 1) cc (Nat.lt_succ_self _) _ _ _ _ g1
  obtain ⟨y1, y2, y3, y4, -, yo⟩ := am_yok (show cc < 191 by omega)
  obtain ⟨P1, P2⟩ := am_cmF hcm
  have hini : (Cond.initialized (am_y cc).cls).before args s = true := by
    rw [y1]
    exact hts _ (lw_G_in (am_wi_in (List.all_eq_true.mp am_inis (am_ow cc) (List.mem_range.mpr yo))) rfl)
  have hrm : (am_rm (am_ht cc) (h'.length - h.length) (am_sl h' - am_sl h)).frames + 1 ≤ R.frames ∧ 8 + (am_ml cc + 11) + (am_rm (am_ht cc) (h'.length - h.length) (am_sl h' - am_sl h)).locals ≤ R.locals := by
    show am_ht cc + 1 ≤ R.frames ∧ 8 + (am_ml cc + 11) + 38 * am_ht cc ≤ R.locals
    omega
  have hfit := hroom _ _ g2 hle
  have hrest : 2 * (F0 mid pc lsJ (st.map (am_vl z))).monitorRoom + (((st.drop na).map (am_vl z)).map fun v => v.category).sum ≤ 8 := lv_room (am_rest hfv (by rw [List.length_drop]; exact b2))
  have hst : st = (st.take na).reverse.reverse ++ st.drop na := by rw [List.reverse_reverse, List.take_append_drop]
  have hlen : ((st.take na).reverse).length = na := by rw [List.length_reverse, List.length_take]; omega
  have fin : ∀ (H1 : Heap) (locs1 : List Loc), am_W z h' H1 → va_S (az_A z) s.heap H1 locs1 → W p l e R s mid args below meth c H1 locs1 (cells + (h'.length - h.length)) (slots + (am_sl h' - am_sl h)) Q (F0 mid (pc + 3) lsJ ((r.map (am_vl z)).toList ++ (st.drop na).map (am_vl z))) := by
    intro H1 locs1 w1 w2
    have h9 := K _ _ H1 locs1 g2 hle w1 w2
    rw [List.map_append] at h9
    cases r <;> exact h9
  have hpre : ∀ U : State, U.heap = H → s.WarmedH U.vm → am_Pc z (st.take na).reverse h (((st.take na).reverse.map (am_vl z)).toArray) U := fun U hU hWm => ⟨rfl, by rw [hU]; exact hW, am_Xt_go hXt hWm (by rw [hU]; exact hS)⟩
  generalize hasE : (st.take na).reverse = as at g1 hM hst hlen b4 hpre
  have nodesc : ∀ k, (parseMethodDescriptor (am_y cc).desc).map (fun d => d.parameters.length) = some k → (am_y cc).cls ≠ "java/lang/invoke/MethodHandle" ∧ (am_y cc).cls ≠ "java/lang/invoke/VarHandle" ∧ (parseMethodDescriptor (am_y cc).desc).map (fun d => d.parameters.length) = some k := fun k hk => ⟨y2, y3, hk⟩
  have S : CallFix p mid c (am_by m) (am_ml m) s args lw_G (am_cn (am_ow m)) := ⟨hx, hb, hml, hown, hts⟩
  have hnest : (kd = 3 ∨ kd = 4) → va_Nw (.methodLinkNest (am_cn (am_ow m)) x (am_y cc) "MixedRules") s := fun hk => hXt.2.1 (am_cn (am_ow m), x, am_y cc) (am_nests how hcm hk)
  unfold am_cmP at P1
  dsimp only at P1
  rcases hpl : am_lk (am_pmT (am_ow m)) x with _ | ⟨p1, p2, p3⟩
  · rw [hpl] at P1; cases P1
  · rw [hpl] at P1
    dsimp only at P1
    rcases hi with ⟨rfl, rfl⟩ | ⟨rfl | rfl, rfl⟩ | ⟨rfl | rfl, rfl⟩
    · -- an instance method
      simp only [Bool.and_eq_true] at P1
      have P2 : (Nat.blt cc 191 && decide ((parseMethodDescriptor (am_y cc).desc).map (fun d => d.parameters.length) = some (na - 1)) && Nat.ble 1 na) = true := P2
      simp only [Bool.and_eq_true] at P2
      have hdesc := of_decide_eq_true P2.1.2
      have hna : 1 ≤ na := Nat.le_of_ble_eq_true P2.2
      rcases as with _ | ⟨_ | (_ | q) | _, As⟩
      · cases b4
      · cases b4
      · cases b4
      · have b4 : (match am_kl1 h q with | some ci => Nat.beq ci (am_ow cc) | none => false) = true := b4
        cases hkl : am_kl1 h q with
        | none => rw [hkl] at b4; cases b4
        | some ci =>
          rw [hkl] at b4
          have hci := Nat.eq_of_beq_eq_true b4
          subst hci
          have recv : ∃ b, am_vl z (.inr (.inl (some q))) = .ref b ∧ ∃ cellB : Cell, H[b]? = some cellB ∧ cellB.vm.isStatics = false ∧ s.vm.findClass (am_y cc).cls = some cellB.cls := by
            unfold am_kl1 at hkl
            cases hq9 : Nat.beq q.1 99 with
            | true =>
              rw [hq9] at hkl
              dsimp only at hkl
              have hq := Nat.eq_of_beq_eq_true hq9
              cases h6 : Nat.blt q.2 6 with
              | false => rw [h6] at hkl; cases hkl
              | true =>
                rw [h6] at hkl
                have hkl := Option.some.inj hkl
                refine ⟨_, am_vl9 (by omega), ?_⟩
                rw [show am_ad z q = z.2.2.2.1 q.2 by unfold am_ad; rw [hq]; try rfl, y1, ← hkl]
                exact vk_recv hXt.2.2.1 (Nat.le_of_ble_eq_true h6) hS
            | false =>
              rw [hq9] at hkl
              dsimp only at hkl
              rcases hcell : am_hg h q with _ | ⟨c0, fs⟩ | c0
              · rw [hcell] at hkl; cases hkl
              · rw [hcell] at hkl
                have hkl := Option.some.inj hkl
                subst hkl
                obtain ⟨hk95, hat⟩ := am_hgF hcell
                refine ⟨_, am_vlw hk95, ?_⟩
                have hee := am_pi_at (z := z) hat
                obtain ⟨r0, hr0, -⟩ := hW.2 _ _ hee
                have hc10 : am_ow cc < 10 := (List.getElem?_eq_some_iff.mp hr0).1
                obtain ⟨k1, -⟩ := am_cls hc10
                rw [y1]
                exact va_recv hXt.1 hW.2 k1 hee
              · rw [hcell] at hkl; cases hkl
          obtain ⟨b, hbv, hrecv⟩ := recv
          have hAl : As.length = na - 1 := by simp at hlen; omega
          have hstk : st.map (am_vl z) = (As.map (am_vl z)).reverse ++ .ref b :: (st.drop na).map (am_vl z) := by
            conv => lhs; rw [hst]
            simp [hbv]
          refine am_call_go (va_runV (As := As.map (am_vl z)) (rest := (st.drop na).map (am_vl z)) (b := b) (C := (am_y cc).cls) S hM ⟨callB_of (na - 1) hts (am_ws_good hcc) rfl rfl rfl hini (hts _ (lw_G_in (am_wi_in P1.1.1) rfl)) (nodesc _ hdesc) hrm, hts _ (lw_G_in (am_wi_in P1.1.2) rfl), hts _ (lw_G_in (am_wi_in P1.2) rfl)⟩
            ⟨am_blind z _ h, hrecv, fun U hU hWm => by have := hpre U hU hWm; rw [List.map_cons, hbv] at this; exact this⟩ rfl (by rw [List.length_map]; exact hAl) hls hstk hrest hd hfit) hS fin
      · cases b4
    · -- a static method of the tables
      simp only [Bool.and_eq_true] at P1
      have P2 : (Nat.blt cc 191 && decide ((parseMethodDescriptor (am_y cc).desc).map (fun d => d.parameters.length) = some na) && true) = true := P2
      simp only [Bool.and_eq_true] at P2
      have hdesc := of_decide_eq_true P2.1.2
      have hstk : st.map (am_vl z) = (as.map (am_vl z)).reverse ++ (st.drop na).map (am_vl z) := by
        conv => lhs; rw [hst]
        simp
      exact am_call_go (va_runS (As := as.map (am_vl z)) (rest := (st.drop na).map (am_vl z)) S hM ⟨callB_of na hts (am_ws_good hcc) rfl rfl rfl hini (hts _ (lw_G_in (am_wi_in P1.1) rfl)) (nodesc _ hdesc) hrm, hts _ (lw_G_in (am_wi_in P1.2) rfl)⟩
            ⟨am_blind z _ h, hpre⟩ rfl (by rw [List.length_map]; exact hlen) hls hstk hrest hd hfit) hS fin
    · -- a nest mate's static method
      simp only [Bool.and_eq_true] at P1
      have P2 : (Nat.blt cc 191 && decide ((parseMethodDescriptor (am_y cc).desc).map (fun d => d.parameters.length) = some na) && true) = true := P2
      simp only [Bool.and_eq_true] at P2
      have hdesc := of_decide_eq_true P2.1.2
      have hstk : st.map (am_vl z) = (as.map (am_vl z)).reverse ++ (st.drop na).map (am_vl z) := by
        conv => lhs; rw [hst]
        simp
      exact am_call_go (va_runSN (host := "MixedRules") (As := as.map (am_vl z)) (rest := (st.drop na).map (am_vl z)) S hM ⟨va_cnB (ws' := lw_G) na hts (am_ws_good hcc) rfl rfl rfl (hnest (Or.inl rfl)) hini (nodesc _ hdesc) hrm, hts _ (lw_G_in (am_wi_in P1.2) rfl), trivial⟩
            ⟨am_blind z _ h, hpre⟩ rfl (by rw [List.length_map]; exact hlen) hls hstk hrest hd hfit) hS fin
    · -- a constructor
      simp only [Bool.and_eq_true] at P1
      have P2 : (Nat.blt cc 191 && decide ((parseMethodDescriptor (am_y cc).desc).map (fun d => d.parameters.length) = some (na - 1)) && Nat.ble 1 na) = true := P2
      simp only [Bool.and_eq_true] at P2
      have hdesc := of_decide_eq_true P2.1.2
      have hna : 1 ≤ na := Nat.le_of_ble_eq_true P2.2
      have hrt := of_decide_eq_true P1.2
      rcases as with _ | ⟨_ | (_ | q) | _, As⟩
      · cases b4
      · cases b4
      · cases b4
      · have b4 : Nat.blt q.1 95 = true := b4
        have hk95 : q.1 < 95 := Nat.le_of_ble_eq_true b4
        have hbv := am_vlw (z := z) hk95
        have hAl : As.length = na - 1 := by simp at hlen; omega
        have hstk : st.map (am_vl z) = (As.map (am_vl z)).reverse ++ .ref (z.1 + am_ps q) :: (st.drop na).map (am_vl z) := by
          conv => lhs; rw [hst]
          simp [hbv]
        have hwsn : am_ws cc = .code (am_y cc) (am_by cc) (am_ml cc) none :: lw_G := by unfold am_ws; rw [hrt]
        exact am_call_go (va_runI (As := As.map (am_vl z)) (rest := (st.drop na).map (am_vl z)) (b := z.1 + am_ps q) S hM ⟨callB_of (na - 1) hts (am_ws_good hcc) hwsn rfl rfl hini (hts _ (lw_G_in (am_wi_in P1.1.1.1) rfl)) (nodesc _ hdesc) hrm, of_decide_eq_true P1.1.2, hts _ (lw_G_in (am_wi_in P1.1.1.2) rfl)⟩
            ⟨am_blind z _ h, fun U hU hWm => by have := hpre U hU hWm; rw [List.map_cons, hbv] at this; exact this⟩ rfl (by rw [List.length_map]; exact hAl) hls hstk hrest hd hfit) hS fin
      · cases b4
    · -- a nest mate's constructor
      simp only [Bool.and_eq_true] at P1
      have P2 : (Nat.blt cc 191 && decide ((parseMethodDescriptor (am_y cc).desc).map (fun d => d.parameters.length) = some (na - 1)) && Nat.ble 1 na) = true := P2
      simp only [Bool.and_eq_true] at P2
      have hdesc := of_decide_eq_true P2.1.2
      have hna : 1 ≤ na := Nat.le_of_ble_eq_true P2.2
      have hrt := of_decide_eq_true P1.2
      rcases as with _ | ⟨_ | (_ | q) | _, As⟩
      · cases b4
      · cases b4
      · cases b4
      · have b4 : Nat.blt q.1 95 = true := b4
        have hk95 : q.1 < 95 := Nat.le_of_ble_eq_true b4
        have hbv := am_vlw (z := z) hk95
        have hAl : As.length = na - 1 := by simp at hlen; omega
        have hstk : st.map (am_vl z) = (As.map (am_vl z)).reverse ++ .ref (z.1 + am_ps q) :: (st.drop na).map (am_vl z) := by
          conv => lhs; rw [hst]
          simp [hbv]
        have hwsn : am_ws cc = .code (am_y cc) (am_by cc) (am_ml cc) none :: lw_G := by unfold am_ws; rw [hrt]
        exact am_call_go (va_runIN (host := "MixedRules") (As := As.map (am_vl z)) (rest := (st.drop na).map (am_vl z)) (b := z.1 + am_ps q) S hM ⟨va_cnB (na - 1) hts (am_ws_good hcc) hwsn rfl rfl (hnest (Or.inr rfl)) hini (nodesc _ hdesc) hrm, of_decide_eq_true P1.1.2, hts _ (lw_G_in (am_wi_in P1.1.1.2) rfl)⟩
            ⟨am_blind z _ h, fun U hU hWm => by have := hpre U hU hWm; rw [List.map_cons, hbv] at this; exact this⟩ rfl (by rw [List.length_map]; exact hAl) hls hstk hrest hd hfit) hS fin
      · cases b4
end
end
section
/-! a method's body; Met of every method by its height -/
section
variable {p : Program} {l : Launch} {e : Env} {R : Room} {s : State} {mid : MethodId} {args : Array Value} {below : List Frame} {meth : Method} {c : Code} {Q : State → Prop} {z : am_N} {m : Nat}
set_option maxHeartbeats 4000000 in
theorem am_body (hcall : ∀ c, c < 190 → am_ht c < am_ht m → am_MetC l z c) (hx : p.tables.exec = Jvm.exec) (hb : c.code = am_by m) (hm : m < 191) (hml : c.maxLocals = am_ml m) (hown : s.vm.findClass (am_cn (am_ow m)) = some mid.cls) (hts : ∀ w ∈ lw_G, w.before args s = true) (hini : am_ii m = true → meth.name = "<init>") (hXt : am_Xt z s)
    (hRf : am_ht m ≤ R.frames) (hRl : 38 * am_ht m ≤ R.locals) (hht : 0 < am_ht m) {r : Option am_V} {h' : am_H} {Cc Cs : Nat} (hCc : Cc ≤ R.cells) (hCs : Cs ≤ R.slots)
    (hret : ∀ (pc : Nat) (lsJ : Array Slot) (H : Heap) (locs : List Loc) (i : Instr), decode (am_by m) pc = .ok (i, 1) → ((i = .ireturn ∧ ∃ x, r = some (.inl x) ∧ am_rz (am_rk m) x = true) ∨ (i = .areturn ∧ (∃ x, r = some (.inr (.inl x))) ∧ am_rk m = 3) ∨ (i = .return_ ∧ r = none ∧ am_rk m = 0)) → am_W z h' H → va_S (az_A z) s.heap H locs → W p l e R s mid args below meth c H locs Cc Cs Q (F0 mid pc lsJ (r.toList.map (am_vl z)))) :
    ∀ (n pc : Nat) (ls : am_L) (st : List am_V) (h : am_H) (lsJ : Array Slot) (H : Heap) (locs : List Loc) (cells slots : Nat), am_F (am_I1 (az_E z)) (am_run (am_I1 (az_E z))) m n pc ls st h = some (r, h') → am_Lr z (am_ml m) ls lsJ → am_W z h H → va_S (az_A z) s.heap H locs → cells + (h'.length - h.length) = Cc → slots + (am_sl h' - am_sl h) = Cs → W p l e R s mid args below meth c H locs cells slots Q (F0 mid pc lsJ (st.map (am_vl z))) := by
  have hfv : az_fv z = .null ∨ ∃ a, az_fv z = .ref a := hXt.2.2.2.2.2.2.2.2.2.2.2.2.2
  have hmono : ∀ c as h r h', am_ht c < am_ht m → am_run (am_I1 (az_E z)) c as h = some (r, h') → am_le h h' := fun c as h r h' _ e => am_run_le (az_E z) (am_ht c + 1) c (Nat.lt_succ_self _) as h r h' e
  intro n
  induction n with
  | zero => intro pc ls st h lsJ H locs cells slots e0; cases e0
  | succ n ih =>
    intro pc ls st h lsJ H locs cells slots e0 hL hW hS hc1 hc2
    replace e0 : am_st (am_I1 (az_E z)) (am_run (am_I1 (az_E z))) m (am_F (am_I1 (az_E z)) (am_run (am_I1 (az_E z))) m n) pc ls st h = some (r, h') := e0
    have mono : ∀ {pc ls st h1}, am_F (am_I1 (az_E z)) (am_run (am_I1 (az_E z))) m n pc ls st h1 = some (r, h') → am_le h1 h' := fun g => am_F_mono hmono n _ _ _ _ _ g
    unfold am_st at e0
    rcases hat : am_at m pc with _ | ⟨i, k⟩
    · rw [hat] at e0; cases e0
    · rw [hat] at e0
      replace e0 : am_si (am_I1 (az_E z)) (am_run (am_I1 (az_E z))) m i k (am_F (am_I1 (az_E z)) (am_run (am_I1 (az_E z))) m n) pc ls st h = some (r, h') := e0
      have hd := am_dec hm hat
      have hl := am_lens hm hat
      have hj := am_jks hm hat
      unfold am_si at e0
      have pure0 : (match am_pu (am_ow m) i ls st with | some (ls', st') => am_F (am_I1 (az_E z)) (am_run (am_I1 (az_E z))) m n (pc + k) ls' st' h | none => none) = some (r, h') → W p l e R s mid args below meth c H locs cells slots Q (F0 mid pc lsJ (st.map (am_vl z))) := by
        intro e0
        rcases hp : am_pu (am_ow m) i ls st with _ | ⟨l', s'⟩
        · rw [hp] at e0; cases e0
        · rw [hp] at e0
          exact am_pu_W hx hb hown hts hXt hS hd hl hL hp (fun lsJ' hL' => ih _ _ _ _ _ _ _ _ _ e0 hL' hW hS hc1 hc2)
      rcases hkd : am_kd i with _ | _ | _ | _ | kd
      · rw [hkd] at e0; exact pure0 e0
      · rw [hkd] at e0
        replace e0 : am_h1 (am_I1 (az_E z)) (am_run (am_I1 (az_E z))) m i st h (fun st' h1 => am_F (am_I1 (az_E z)) (am_run (am_I1 (az_E z))) m n (pc + k) ls st' h1) = some (r, h') := e0
        cases i
        case getfield x =>
          obtain rfl : 3 = k := Nat.eq_of_beq_eq_true hl
          replace e0 : am_gF (am_I1 (az_E z)) (am_cf (am_ow m) x) st h (fun st' h1 => am_F (am_I1 (az_E z)) (am_run (am_I1 (az_E z))) m n (pc + 3) ls st' h1) = some (r, h') := e0
          rcases ht : am_cf (am_ow m) x with _ | ⟨ci, f⟩
          · rw [ht] at e0; cases e0
          · rw [ht] at e0
            rcases st with _ | ⟨_ | (_ | q) | _, rr⟩
            case cons.inr.inl.some =>
              cases hg : am_gf1 h q ci f with
              | none =>
                have e2 : am_gF (am_I1 (az_E z)) (some (ci, f)) (.inr (.inl (some q)) :: rr) h (fun st' h1 => am_F (am_I1 (az_E z)) (am_run (am_I1 (az_E z))) m n (pc + 3) ls st' h1) = none := by unfold am_gF; simp only [am_I1, hg]
                rw [e2] at e0; cases e0
              | some v =>
                have e2 : am_gF (am_I1 (az_E z)) (some (ci, f)) (.inr (.inl (some q)) :: rr) h (fun st' h1 => am_F (am_I1 (az_E z)) (am_run (am_I1 (az_E z))) m n (pc + 3) ls st' h1) = am_F (am_I1 (az_E z)) (am_run (am_I1 (az_E z))) m n (pc + 3) ls (v :: rr) h := by unfold am_gF; simp only [am_I1, hg]
                rw [e2] at e0
                exact am_gf_W hx hb hown hts hXt hS hW hd ht hg (ih _ _ _ _ _ _ _ _ _ e0 hL hW hS hc1 hc2)
            all_goals cases e0
        case putfield x =>
          obtain rfl : 3 = k := Nat.eq_of_beq_eq_true hl
          replace e0 : am_pF (am_I1 (az_E z)) m (am_cf (am_ow m) x) st h (fun st' h1 => am_F (am_I1 (az_E z)) (am_run (am_I1 (az_E z))) m n (pc + 3) ls st' h1) = some (r, h') := e0
          rcases ht : am_cf (am_ow m) x with _ | ⟨ci, f⟩
          · rw [ht] at e0; cases e0
          · rw [ht] at e0
            rcases st with _ | ⟨v, _ | ⟨_ | (_ | q) | _, rr⟩⟩
            case cons.cons.inr.inl.some =>
              obtain ⟨g1, e0⟩ := am_if_some (show am_if (am_fo m ci f) (am_if (am_pf1 h q ci f v).1 (am_F (am_I1 (az_E z)) (am_run (am_I1 (az_E z))) m n (pc + 3) ls rr (am_pf1 h q ci f v).2)) = some (r, h') from e0)
              obtain ⟨g2, e0⟩ := am_if_some e0
              obtain ⟨l1, l2⟩ := am_pf1_ln h q ci f v
              exact am_pf_W hx hb hown hts hini hXt hS hW hd ht g1 g2 (fun H1 locs1 w1 w2 => ih _ _ _ _ _ _ _ _ _ e0 hL w1 w2 (by rw [l1]; exact hc1) (by rw [l2]; exact hc2))
            all_goals cases e0
        case iaload =>
          obtain rfl : 1 = k := Nat.eq_of_beq_eq_true hl
          rcases st with _ | ⟨j | _, _ | ⟨_ | (_ | q) | _, rr⟩⟩
          case cons.inl.cons.inr.inl.some =>
            obtain ⟨g1, e0⟩ := am_if_some (show am_if (am_al1 (az_E z) h 0 q j).1 (am_F (am_I1 (az_E z)) (am_run (am_I1 (az_E z))) m n (pc + 1) ls ((am_al1 (az_E z) h 0 q j).2 :: rr) h) = some (r, h') from e0)
            exact am_al_W hx hb hXt hS hW (Or.inl ⟨rfl, rfl⟩) hd g1 (ih _ _ _ _ _ _ _ _ _ e0 hL hW hS hc1 hc2)
          all_goals cases e0
        case baload =>
          obtain rfl : 1 = k := Nat.eq_of_beq_eq_true hl
          rcases st with _ | ⟨j | _, _ | ⟨_ | (_ | q) | _, rr⟩⟩
          case cons.inl.cons.inr.inl.some =>
            obtain ⟨g1, e0⟩ := am_if_some (show am_if (am_al1 (az_E z) h 1 q j).1 (am_F (am_I1 (az_E z)) (am_run (am_I1 (az_E z))) m n (pc + 1) ls ((am_al1 (az_E z) h 1 q j).2 :: rr) h) = some (r, h') from e0)
            exact am_al_W hx hb hXt hS hW (Or.inr (Or.inl ⟨rfl, rfl⟩)) hd g1 (ih _ _ _ _ _ _ _ _ _ e0 hL hW hS hc1 hc2)
          all_goals cases e0
        case aaload =>
          obtain rfl : 1 = k := Nat.eq_of_beq_eq_true hl
          rcases st with _ | ⟨j | _, _ | ⟨_ | (_ | q) | _, rr⟩⟩
          case cons.inl.cons.inr.inl.some =>
            obtain ⟨g1, e0⟩ := am_if_some (show am_if (am_al1 (az_E z) h 2 q j).1 (am_F (am_I1 (az_E z)) (am_run (am_I1 (az_E z))) m n (pc + 1) ls ((am_al1 (az_E z) h 2 q j).2 :: rr) h) = some (r, h') from e0)
            exact am_al_W hx hb hXt hS hW (Or.inr (Or.inr ⟨rfl, rfl⟩)) hd g1 (ih _ _ _ _ _ _ _ _ _ e0 hL hW hS hc1 hc2)
          all_goals cases e0
        case iastore =>
          obtain rfl : 1 = k := Nat.eq_of_beq_eq_true hl
          rcases st with _ | ⟨v, _ | ⟨j | _, _ | ⟨_ | (_ | q) | _, rr⟩⟩⟩
          case cons.cons.inl.cons.inr.inl.some =>
            obtain ⟨g1, e0⟩ := am_if_some (show am_if (am_as1 h 0 q j v).1 (am_F (am_I1 (az_E z)) (am_run (am_I1 (az_E z))) m n (pc + 1) ls rr (am_as1 h 0 q j v).2) = some (r, h') from e0)
            obtain ⟨l1, l2⟩ := am_as1_ln h 0 q j v
            exact am_as_W hx hb hXt hS hW (Or.inl ⟨rfl, rfl⟩) hd g1 (fun H1 locs1 w1 w2 => ih _ _ _ _ _ _ _ _ _ e0 hL w1 w2 (by rw [l1]; exact hc1) (by rw [l2]; exact hc2))
          all_goals cases e0
        case bastore =>
          obtain rfl : 1 = k := Nat.eq_of_beq_eq_true hl
          rcases st with _ | ⟨v, _ | ⟨j | _, _ | ⟨_ | (_ | q) | _, rr⟩⟩⟩
          case cons.cons.inl.cons.inr.inl.some =>
            obtain ⟨g1, e0⟩ := am_if_some (show am_if (am_as1 h 1 q j v).1 (am_F (am_I1 (az_E z)) (am_run (am_I1 (az_E z))) m n (pc + 1) ls rr (am_as1 h 1 q j v).2) = some (r, h') from e0)
            obtain ⟨l1, l2⟩ := am_as1_ln h 1 q j v
            exact am_as_W hx hb hXt hS hW (Or.inr (Or.inl ⟨rfl, rfl⟩)) hd g1 (fun H1 locs1 w1 w2 => ih _ _ _ _ _ _ _ _ _ e0 hL w1 w2 (by rw [l1]; exact hc1) (by rw [l2]; exact hc2))
          all_goals cases e0
        case aastore =>
          obtain rfl : 1 = k := Nat.eq_of_beq_eq_true hl
          rcases st with _ | ⟨v, _ | ⟨j | _, _ | ⟨_ | (_ | q) | _, rr⟩⟩⟩
          case cons.cons.inl.cons.inr.inl.some =>
            obtain ⟨g1, e0⟩ := am_if_some (show am_if (am_as1 h 2 q j v).1 (am_F (am_I1 (az_E z)) (am_run (am_I1 (az_E z))) m n (pc + 1) ls rr (am_as1 h 2 q j v).2) = some (r, h') from e0)
            obtain ⟨l1, l2⟩ := am_as1_ln h 2 q j v
            exact am_as_W hx hb hXt hS hW (Or.inr (Or.inr ⟨rfl, rfl⟩)) hd g1 (fun H1 locs1 w1 w2 => ih _ _ _ _ _ _ _ _ _ e0 hL w1 w2 (by rw [l1]; exact hc1) (by rw [l2]; exact hc2))
          all_goals cases e0
        case arraylength =>
          obtain rfl : 1 = k := Nat.eq_of_beq_eq_true hl
          rcases st with _ | ⟨_ | (_ | q) | _, rr⟩
          case cons.inr.inl.some =>
            replace e0 : (match am_ln1 (az_E z) h q with | some x => am_F (am_I1 (az_E z)) (am_run (am_I1 (az_E z))) m n (pc + 1) ls (.inl x :: rr) h | none => none) = some (r, h') := e0
            cases hg : am_ln1 (az_E z) h q with
            | none => rw [hg] at e0; cases e0
            | some v =>
              rw [hg] at e0
              exact am_ln_W hx hb hXt hS hW hd hg (ih _ _ _ _ _ _ _ _ _ e0 hL hW hS hc1 hc2)
          all_goals cases e0
        case new x =>
          obtain rfl : 3 = k := Nat.eq_of_beq_eq_true hl
          replace e0 : am_nW (am_I1 (az_E z)) (am_cc (am_ow m) x) st h (fun st' h1 => am_F (am_I1 (az_E z)) (am_run (am_I1 (az_E z))) m n (pc + 3) ls st' h1) = some (r, h') := e0
          rcases ht : am_cc (am_ow m) x with _ | ci
          · rw [ht] at e0; cases e0
          · rw [ht] at e0
            rcases hg : am_nw1 h ci with _ | ⟨q, h1⟩
            · have e2 : am_nW (am_I1 (az_E z)) (some ci) st h (fun st' h1 => am_F (am_I1 (az_E z)) (am_run (am_I1 (az_E z))) m n (pc + 3) ls st' h1) = none := by unfold am_nW; simp only [am_I1, hg]
              rw [e2] at e0; cases e0
            · have e2 : am_nW (am_I1 (az_E z)) (some ci) st h (fun st' h1 => am_F (am_I1 (az_E z)) (am_run (am_I1 (az_E z))) m n (pc + 3) ls st' h1) = am_F (am_I1 (az_E z)) (am_run (am_I1 (az_E z))) m n (pc + 3) ls (.inr (.inl (some q)) :: st) h1 := by unfold am_nW; simp only [am_I1, hg]
              rw [e2] at e0
              have hm1 := mono e0
              have hh1 : h1 = h ++ [.inl (ci, am_df ci)] ∧ ci < 10 := by
                unfold am_nw1 at hg
                split at hg
                · rename_i hb9
                  cases hg
                  simp only [Bool.and_eq_true] at hb9
                  exact ⟨rfl, Nat.le_of_ble_eq_true hb9.2⟩
                · cases hg
              have hsz : am_sc (.inl (ci, am_df ci)) = am_nf ci := by
                show (am_df ci).length = am_nf ci
                unfold am_df
                rw [List.length_map]
                have h3 : ∀ ci, ci < 10 → (am_tyT ci).length = am_nf ci := by decide
                exact h3 ci hh1.2
              have hl1 : h1.length = h.length + 1 := by rw [hh1.1, List.length_append]; rfl
              have hl2 : am_sl h1 = am_sl h + am_nf ci := by rw [hh1.1, am_sl_app, hsz]
              have hmm := hm1.1
              have hmm2 := hm1.2
              exact am_nw_W hx hb hown hts hXt hS hW hd ht hg (by omega) (by omega) (fun H1 w1 w2 => ih _ _ _ _ _ _ _ _ _ e0 hL w1 w2 (by omega) (by omega))
        case newarray ty =>
          obtain rfl : 2 = k := Nat.eq_of_beq_eq_true hl
          replace e0 : am_nA (am_I1 (az_E z)) (am_aT ty) st h (fun st' h1 => am_F (am_I1 (az_E z)) (am_run (am_I1 (az_E z))) m n (pc + 2) ls st' h1) = some (r, h') := e0
          have core : ∀ t, am_aT ty = some t → ((t = 0 ∧ Instr.newarray ty = .newarray .int ∧ 2 = 2) ∨ (t = 1 ∧ Instr.newarray ty = .newarray .boolean ∧ 2 = 2)) → t < 2 → W p l e R s mid args below meth c H locs cells slots Q (F0 mid pc lsJ (st.map (am_vl z))) := by
            intro t ht hi ht2
            rw [ht] at e0
            rcases st with _ | ⟨j | _, rr⟩
            · cases e0
            · obtain ⟨g1, e0⟩ := am_if_some (show am_if (am_na1 h t j).1 (am_F (am_I1 (az_E z)) (am_run (am_I1 (az_E z))) m n (pc + 2) ls (.inr (.inl (some (am_na1 h t j).2.1)) :: rr) (am_na1 h t j).2.2) = some (r, h') from e0)
              have hm1 := mono e0
              have hsz : am_sc (am_nc1 t (am_ix j)) = am_ix j := by
                unfold am_nc1
                rw [show Nat.blt t 2 = true from Nat.ble_eq_true_of_le ht2]
                show (List.replicate (am_ix j) (0 : Int32)).length = _
                rw [List.length_replicate]
              have hl1 : (am_na1 h t j).2.2.length = h.length + 1 := by show (h ++ [am_nc1 t (am_ix j)]).length = _; rw [List.length_append]; rfl
              have hl2 : am_sl (am_na1 h t j).2.2 = am_sl h + am_ix j := by show am_sl (h ++ [am_nc1 t (am_ix j)]) = _; rw [am_sl_app, hsz]
              have hmm := hm1.1
              have hmm2 := hm1.2
              exact am_na_W hx hb hown hts hXt hS hW (by rcases hi with q | q; exact Or.inl q; exact Or.inr (Or.inl q)) hd g1 (by omega) (by omega) (fun H1 w1 w2 => ih _ _ _ _ _ _ _ _ _ e0 hL w1 w2 (by omega) (by omega))
            · cases e0
          cases ty
          case int => exact core 0 rfl (Or.inl ⟨rfl, rfl, rfl⟩) (by omega)
          case boolean => exact core 1 rfl (Or.inr ⟨rfl, rfl, rfl⟩) (by omega)
          all_goals cases e0
        case anewarray x =>
          obtain rfl : 3 = k := Nat.eq_of_beq_eq_true hl
          replace e0 : am_nA (am_I1 (az_E z)) (am_ac (am_cc (am_ow m) x)) st h (fun st' h1 => am_F (am_I1 (az_E z)) (am_run (am_I1 (az_E z))) m n (pc + 3) ls st' h1) = some (r, h') := e0
          have core : ∀ t, am_ac (am_cc (am_ow m) x) = some t → (t = 2 ∨ t = 3) → am_cc (am_ow m) x = some (am_ec t) → W p l e R s mid args below meth c H locs cells slots Q (F0 mid pc lsJ (st.map (am_vl z))) := by
            intro t ht hi hcc
            rw [ht] at e0
            rcases st with _ | ⟨j | _, rr⟩
            · cases e0
            · obtain ⟨g1, e0⟩ := am_if_some (show am_if (am_na1 h t j).1 (am_F (am_I1 (az_E z)) (am_run (am_I1 (az_E z))) m n (pc + 3) ls (.inr (.inl (some (am_na1 h t j).2.1)) :: rr) (am_na1 h t j).2.2) = some (r, h') from e0)
              have hm1 := mono e0
              have hsz : am_sc (am_nc1 t (am_ix j)) = am_ix j := by
                rcases hi with rfl | rfl
                · show (List.replicate (am_ix j) (none : Option am_K)).length = _
                  rw [List.length_replicate]
                · show (List.replicate (am_ix j) (none : Option am_K)).length = _
                  rw [List.length_replicate]
              have hl1 : (am_na1 h t j).2.2.length = h.length + 1 := by show (h ++ [am_nc1 t (am_ix j)]).length = _; rw [List.length_append]; rfl
              have hl2 : am_sl (am_na1 h t j).2.2 = am_sl h + am_ix j := by show am_sl (h ++ [am_nc1 t (am_ix j)]) = _; rw [am_sl_app, hsz]
              have hmm := hm1.1
              have hmm2 := hm1.2
              exact am_na_W hx hb hown hts hXt hS hW (Or.inr (Or.inr ⟨x, _, hi, rfl, rfl, hcc, rfl⟩)) hd g1 (by omega) (by omega) (fun H1 w1 w2 => ih _ _ _ _ _ _ _ _ _ e0 hL w1 w2 (by omega) (by omega))
            · cases e0
          rcases hcc : am_cc (am_ow m) x with _ | _ | _ | _ | ci
          · rw [hcc] at e0; cases e0
          · exact core 2 (by rw [hcc]; rfl) (Or.inl rfl) hcc
          · rw [hcc] at e0; cases e0
          · exact core 3 (by rw [hcc]; rfl) (Or.inr rfl) hcc
          · rw [hcc] at e0; cases e0
        case invokevirtual x =>
          obtain rfl : 3 = k := Nat.eq_of_beq_eq_true hl
          replace e0 : am_iv (am_I1 (az_E z)) (am_run (am_I1 (az_E z))) m (am_cm (am_ow m) x) st h (fun st' h1 => am_F (am_I1 (az_E z)) (am_run (am_I1 (az_E z))) m n (pc + 3) ls st' h1) = some (r, h') := e0
          unfold am_iv at e0
          split at e0
          · rename_i cc na hcm
            refine am_do_W hcall hx hb hm hml hown hts hXt hS hW hL.2.1.1 hRf hRl hcm (Or.inl ⟨rfl, rfl⟩) hd e0 (fun st' h1 g2 hle => ?_) (fun st' h1 H1 locs1 g2 hle w1 w2 => ih _ _ _ _ _ _ _ _ _ g2 hL w1 w2 ?_ ?_)
            · have := mono g2; have := this.1; have := (mono g2).2; have := hle.1; have := hle.2; omega
            · have := (mono g2).1; have := hle.1; omega
            · have := (mono g2).2; have := hle.2; omega
          · cases e0
        case invokestatic x =>
          obtain rfl : 3 = k := Nat.eq_of_beq_eq_true hl
          replace e0 : am_is (am_I1 (az_E z)) (am_run (am_I1 (az_E z))) m (am_cm (am_ow m) x) st h (fun st' h1 => am_F (am_I1 (az_E z)) (am_run (am_I1 (az_E z))) m n (pc + 3) ls st' h1) = some (r, h') := e0
          unfold am_is at e0
          split at e0
          · rename_i cc na hcm
            refine am_do_W hcall hx hb hm hml hown hts hXt hS hW hL.2.1.1 hRf hRl hcm (Or.inr (Or.inl ⟨Or.inl rfl, rfl⟩)) hd e0 (fun st' h1 g2 hle => ?_) (fun st' h1 H1 locs1 g2 hle w1 w2 => ih _ _ _ _ _ _ _ _ _ g2 hL w1 w2 ?_ ?_)
            · have := mono g2; have := this.1; have := (mono g2).2; have := hle.1; have := hle.2; omega
            · have := (mono g2).1; have := hle.1; omega
            · have := (mono g2).2; have := hle.2; omega
          · rename_i cc na hcm
            refine am_do_W hcall hx hb hm hml hown hts hXt hS hW hL.2.1.1 hRf hRl hcm (Or.inr (Or.inl ⟨Or.inr rfl, rfl⟩)) hd e0 (fun st' h1 g2 hle => ?_) (fun st' h1 H1 locs1 g2 hle w1 w2 => ih _ _ _ _ _ _ _ _ _ g2 hL w1 w2 ?_ ?_)
            · have := mono g2; have := this.1; have := (mono g2).2; have := hle.1; have := hle.2; omega
            · have := (mono g2).1; have := hle.1; omega
            · have := (mono g2).2; have := hle.2; omega
          · cases e0
        case invokespecial x =>
          obtain rfl : 3 = k := Nat.eq_of_beq_eq_true hl
          replace e0 : am_ip (am_I1 (az_E z)) (am_run (am_I1 (az_E z))) m (am_cm (am_ow m) x) st h (fun st' h1 => am_F (am_I1 (az_E z)) (am_run (am_I1 (az_E z))) m n (pc + 3) ls st' h1) = some (r, h') := e0
          unfold am_ip at e0
          split at e0
          · rename_i cc na hcm
            refine am_do_W hcall hx hb hm hml hown hts hXt hS hW hL.2.1.1 hRf hRl hcm (Or.inr (Or.inr ⟨Or.inl rfl, rfl⟩)) hd e0 (fun st' h1 g2 hle => ?_) (fun st' h1 H1 locs1 g2 hle w1 w2 => ih _ _ _ _ _ _ _ _ _ g2 hL w1 w2 ?_ ?_)
            · have := mono g2; have := this.1; have := (mono g2).2; have := hle.1; have := hle.2; omega
            · have := (mono g2).1; have := hle.1; omega
            · have := (mono g2).2; have := hle.2; omega
          · rename_i cc na hcm
            refine am_do_W hcall hx hb hm hml hown hts hXt hS hW hL.2.1.1 hRf hRl hcm (Or.inr (Or.inr ⟨Or.inr rfl, rfl⟩)) hd e0 (fun st' h1 g2 hle => ?_) (fun st' h1 H1 locs1 g2 hle w1 w2 => ih _ _ _ _ _ _ _ _ _ g2 hL w1 w2 ?_ ?_)
            · have := mono g2; have := this.1; have := (mono g2).2; have := hle.1; have := hle.2; omega
            · have := (mono g2).1; have := hle.1; omega
            · have := (mono g2).2; have := hle.2; omega
          · rename_i c5 na hcm
            obtain ⟨P1, -⟩ := am_cmF hcm
            unfold am_cmP at P1
            dsimp only at P1
            rcases hpl : am_lk (am_pmT (am_ow m)) x with _ | ⟨p1, p2, p3⟩
            · rw [hpl] at P1; cases P1
            · rw [hpl] at P1
              dsimp only at P1
              simp only [Bool.and_eq_true] at P1
              rcases st with _ | ⟨_ | (_ | q) | _, rr⟩
              · cases e0
              · cases e0
              · cases e0
              · obtain ⟨g1, e0⟩ := am_if_some (show am_if (Nat.blt q.1 95 && Nat.ble rr.length 4) (am_F (am_I1 (az_E z)) (am_run (am_I1 (az_E z))) m n (pc + 3) ls rr h) = some (r, h') from e0)
                simp only [Bool.and_eq_true] at g1
                rw [List.map_cons, am_vlw (Nat.le_of_ble_eq_true g1.1)]
                have hr8 := am_rest (z := z) hfv (Nat.le_of_ble_eq_true g1.2)
                exact W.objInit hx hb hown (hts _ (lw_G_in (am_wi_in P1.1.1) rfl)) (hts _ (lw_G_in (am_wi_in P1.1.2) rfl)) (hts _ (lw_G_in (am_wi_in P1.2) rfl)) rfl (by rw [hml]; exact hL.2.1.1) rfl hd (by omega) (by show 2 * 0 + _ + 12 ≤ _; omega) (ih _ _ _ _ _ _ _ _ _ e0 hL hW hS hc1 hc2)
              · cases e0
          · cases e0
        all_goals cases hkd
      · rw [hkd] at e0
        exact am_h2_W hx hb hd hl hj (show am_h2 i pc k st (fun pc' st' => am_F (am_I1 (az_E z)) (am_run (am_I1 (az_E z))) m n pc' ls st' h) = some (r, h') from e0) (fun pc' st' g2 => ih _ _ _ _ _ _ _ _ _ g2 hL hW hS hc1 hc2)
      · rw [hkd] at e0
        replace e0 : am_h3 m i st h = some (r, h') := e0
        cases i
        case ireturn =>
          obtain rfl : 1 = k := Nat.eq_of_beq_eq_true hl
          rcases st with _ | ⟨x | _, _ | _⟩
          · cases e0
          · obtain ⟨g1, e0⟩ := am_if_some (show am_if (am_rz (am_rk m) x) (some (some (.inl x), h)) = some (r, h') from e0)
            cases e0
            have h9 := hret pc lsJ H locs _ hd (Or.inl ⟨rfl, x, rfl, g1⟩) hW hS
            rw [show Cc = cells by omega, show Cs = slots by omega] at h9
            exact h9
          · cases e0
          · cases e0
          · cases e0
        case areturn =>
          obtain rfl : 1 = k := Nat.eq_of_beq_eq_true hl
          rcases st with _ | ⟨_ | x | _, _ | _⟩
          case cons.inr.inl.nil =>
            obtain ⟨g1, e0⟩ := am_if_some (show am_if (Nat.beq (am_rk m) 3) (some (some (.inr (.inl x)), h)) = some (r, h') from e0)
            cases e0
            have h9 := hret pc lsJ H locs _ hd (Or.inr (Or.inl ⟨rfl, ⟨x, rfl⟩, Nat.eq_of_beq_eq_true g1⟩)) hW hS
            rw [show Cc = cells by omega, show Cs = slots by omega] at h9
            exact h9
          all_goals cases e0
        case return_ =>
          obtain rfl : 1 = k := Nat.eq_of_beq_eq_true hl
          rcases st with _ | ⟨_, _⟩
          · obtain ⟨g1, e0⟩ := am_if_some (show am_if (Nat.beq (am_rk m) 0) (some (none, h)) = some (r, h') from e0)
            cases e0
            have h9 := hret pc lsJ H locs _ hd (Or.inr (Or.inr ⟨rfl, rfl, Nat.eq_of_beq_eq_true g1⟩)) hW hS
            rw [show Cc = cells by omega, show Cs = slots by omega] at h9
            exact h9
          · cases e0
        all_goals cases hkd
      · rw [hkd] at e0; exact pure0 e0
/-- the locals at a method's start -/
theorem am_entry {as : List am_V} (hfv : az_fv z = .null ∨ ∃ a, az_fv z = .ref a) (hn : am_nl m as = true) : am_Lr z (am_ml m) (am_en m as) ((lg_sl (as.map (am_vl z)) ++ List.replicate (am_ml m - (lg_sl (as.map (am_vl z))).length) Slot.unset).toArray) := by
  unfold am_nl at hn
  simp only [Bool.and_eq_true] at hn
  obtain ⟨hall, hlen⟩ := hn
  have hlen : as.length ≤ am_ml m := Nat.le_of_ble_eq_true hlen
  have hcat : ∀ v ∈ as, (am_vl z v).category = 1 := fun v hv => am_cat1 hfv (List.all_eq_true.mp hall v hv)
  have hsl : ∀ (vs : List am_V), (∀ v ∈ vs, (am_vl z v).category = 1) → (lg_sl (vs.map (am_vl z))).length = vs.length := by
    intro vs
    induction vs with
    | nil => intro _; rfl
    | cons v vs ih =>
      intro hv
      have h1 := hv v List.mem_cons_self
      have h2 := ih (fun w hw => hv w (List.mem_cons_of_mem _ hw))
      unfold lg_sl at h2 ⊢
      rw [List.map_cons, List.flatMap_cons, if_neg (by omega), List.length_append, h2]
      simp; omega
  have hl2 := hsl as hcat
  have hent := lv_entry (as.map (am_vl z)) (n := am_ml m) (by rw [hl2]; exact hlen)
  have hargs : ∀ (vs : List am_V) (k : Nat), (∀ v ∈ vs, (am_vl z v).category = 1) → ∀ (i : Nat) (v : am_V), vs[i]? = some v → (k + i, am_vl z v) ∈ lv_args k (vs.map (am_vl z)) := by
    intro vs
    induction vs with
    | nil => intro k _ i v hi; simp at hi
    | cons w vs ih =>
      intro k hv i v hi
      have h1 := hv w List.mem_cons_self
      show (k + i, am_vl z v) ∈ (k, am_vl z w) :: lv_args (if (am_vl z w).category = 2 then k + 2 else k + 1) (vs.map (am_vl z))
      rw [if_neg (by omega)]
      cases i with
      | zero =>
        cases hi
        exact List.mem_cons_self
      | succ i =>
        have h2 := ih (k + 1) (fun w hw => hv w (List.mem_cons_of_mem _ hw)) i v (by simpa using hi)
        rw [show k + (i + 1) = k + 1 + i by omega]
        exact List.mem_cons_of_mem _ h2
  have hget : ∀ (i : Nat) (v : am_V), (am_en m as)[i]? = some (some v) → as[i]? = some v := by
    intro i v hi
    unfold am_en at hi
    rw [List.getElem?_append] at hi
    split at hi
    · rw [List.getElem?_map] at hi
      cases h9 : as[i]? with
      | none => rw [h9] at hi; cases hi
      | some w => rw [h9] at hi; cases hi; rfl
    · rw [List.getElem?_replicate] at hi
      split at hi <;> cases hi
  refine ⟨by unfold am_en; simp; omega, ⟨hent.1, hent.2.1, fun q hq => ?_⟩, fun i v hi => hcat v (List.mem_of_getElem? (hget i v hi))⟩
  obtain ⟨v, h1, h2⟩ := am_ll_mem.mp hq
  have h3 := hargs as 0 hcat q.1 v (hget _ _ h1)
  refine hent.2.2 q ?_
  rw [Nat.zero_add, h2] at h3
  exact h3
set_option maxHeartbeats 4000000 in
/-- in(long, long, long), walked by hand -/
theorem am_in_Met (l : Launch) (z : am_N) : am_MetC l z mI_Mo_in := by
  intro as h r h' e0
  replace e0 : am_nt as h = some (r, h') := e0
  rcases as with _ | ⟨_ | _ | v, _ | ⟨_ | _ | a, _ | ⟨_ | _ | b, _ | _⟩⟩⟩
  case cons.inr.inr.cons.inr.inr.cons.inr.inr.nil =>
    cases e0
    rw [Nat.sub_self, Nat.sub_self]
    refine va_MetF (cc := am_by mI_Mo_in) (maxL := 6) (ret := some .boolean) (am_yok (c := mI_Mo_in) (by decide)).2.2.2.2.1 rfl ?_
    intro p e s mid args below meth c s₁ B hml hv
    obtain ⟨rfl, hW, hXt⟩ := hv
    have hx := B.exec
    have hb := B.bytes
    have hr := B.returns
    have hlocks := B.notSynchronized
    have hS : va_S (az_A z) s.heap s.heap [] := va_S.rf
    show W _ _ _ _ _ _ _ _ _ _ _ _ _ _ _ (entryFrame mid ([.long v, .long a, .long b] : List Value).toArray 6)
    rw [lg_entry_eq]
    have hl := lv_entry ([.long v, .long a, .long b]) (n := 6) (Nat.le_of_ble_eq_true rfl)
    generalize (lg_sl ([.long v, .long a, .long b]) ++ List.replicate (6 - (lg_sl ([.long v, .long a, .long b])).length) Slot.unset).toArray = ls at hl ⊢
    have hl : lv_has ls 6 [(0, .long v), (2, .long a), (4, .long b)] := hl
    have fin : ∀ x : Int32, (x = 0 ∨ x = 1) → x = (if v < a then 0 else if b < v then 0 else 1) → W p l e (am_rm (am_ht mI_Mo_in) 0 0) s mid (List.map (am_vl z) [.inr (.inr v), .inr (.inr a), .inr (.inr b)]).toArray below meth c s.heap [] 0 0 (MQ below (am_Qc z (some (.inl (if v < a then 0 else if b < v then 0 else 1))) h) (List.map (am_vl z) [.inr (.inr v), .inr (.inr a), .inr (.inr b)]).toArray s 0 0 (az_A z)) (F0 mid 18 ls [.int x]) := by
      intro x hx01 hxe
      exact W.zret hx hb hr (by rcases hx01 with rfl | rfl <;> rfl) (fun t ht hWm => ⟨by rw [hxe]; rfl, by rw [ht]; exact hW, hS.F ht⟩) hS.2.2 (am_dec (m := mI_Mo_in) (pc := 18) (by decide) rfl)
    refine lv_lload_n hx hb (am_dec (m := mI_Mo_in) (pc := 0) (by decide) rfl) rfl (lv_at hl 0 rfl) ?_
    refine lv_lload_n hx hb (am_dec (m := mI_Mo_in) (pc := 1) (by decide) rfl) rfl (lv_at hl 1 rfl) ?_
    refine W.lcmp hx hb (am_dec (m := mI_Mo_in) (pc := 2) (by decide) rfl) ?_
    refine lv_if_lt (tgt := 17) hx hb (am_dec (m := mI_Mo_in) (pc := 3) (by decide) rfl) (by decide) (fun c1 => ?_) (fun c1 => ?_)
    · refine lv_iconst (v := 0) hx hb (am_dec (m := mI_Mo_in) (pc := 17) (by decide) rfl) (by decide) ?_
      exact fin 0 (Or.inl rfl) (by rw [if_pos ((lg_cmp_lt _ _).mp c1)])
    · refine lv_lload_n hx hb (am_dec (m := mI_Mo_in) (pc := 6) (by decide) rfl) rfl (lv_at hl 0 rfl) ?_
      refine lv_lload hx hb (am_dec (m := mI_Mo_in) (pc := 7) (by decide) rfl) (lv_at hl 2 rfl) ?_
      refine W.lcmp hx hb (am_dec (m := mI_Mo_in) (pc := 9) (by decide) rfl) ?_
      refine lv_if_gt (tgt := 17) hx hb (am_dec (m := mI_Mo_in) (pc := 10) (by decide) rfl) (by decide) (fun c2 => ?_) (fun c2 => ?_)
      · refine lv_iconst (v := 0) hx hb (am_dec (m := mI_Mo_in) (pc := 17) (by decide) rfl) (by decide) ?_
        exact fin 0 (Or.inl rfl) (by rw [if_neg (fun w => c1 ((lg_cmp_lt _ _).mpr w)), if_pos ((lg_cmp_gt _ _).mp c2)])
      · refine lv_iconst (v := 1) hx hb (am_dec (m := mI_Mo_in) (pc := 13) (by decide) rfl) (by decide) ?_
        refine lv_goto (tgt := 18) hx hb (am_dec (m := mI_Mo_in) (pc := 14) (by decide) rfl) (by decide) ?_
        exact fin 1 (Or.inr rfl) (by rw [if_neg (fun w => c1 ((lg_cmp_lt _ _).mpr w)), if_neg (fun w => c2 ((lg_cmp_gt _ _).mpr w))])
  all_goals cases e0
set_option maxHeartbeats 4000000 in
theorem am_Mets (l : Launch) (z : am_N) : ∀ (d m : Nat), am_ht m < d → m < 190 → am_MetC l z m := by
  intro d
  induction d with
  | zero => intro m hm; exact absurd hm (Nat.not_lt_zero _)
  | succ d ih =>
    intro m hmd hm190
    cases hn : Nat.beq m mI_Mo_in with
    | true =>
      have := Nat.eq_of_beq_eq_true hn
      subst this
      exact am_in_Met l z
    | false =>
      intro as h r h' e0
      by_cases h0 : 0 < am_ht m
      · rw [am_run_eq (am_I1 (az_E z)) m h0 hn] at e0
        obtain ⟨hnl, e0⟩ := am_if_some e0
        obtain ⟨n, e0⟩ := am_X_ex e0
        obtain ⟨y1, y2, y3, y4, y5, y6⟩ := am_yok (show m < 191 by omega)
        refine va_MetF (cc := am_by m) (maxL := am_ml m) (ret := am_rt m) y5 rfl ?_
        intro p e s mid args below meth c s₁ B hml hv
        obtain ⟨rfl, hW, hXt⟩ := hv
        have hx := B.exec
        have hb := B.bytes
        have hr := B.returns
        have hlocks := B.notSynchronized
        have hts0 := atoms_spec (ws := am_ws m) B.pre
        have hts : ∀ w ∈ lw_G, w.before (as.map (am_vl z)).toArray s = true := fun w hw => hts0 w (List.mem_cons_of_mem _ hw)
        have hown : s.vm.findClass (am_cn (am_ow m)) = some mid.cls := by rw [← y1]; exact findClass_of_methodNamed B.named
        have hini : am_ii m = true → meth.name = "<init>" := by
          intro hi
          have h1 := List.all_eq_true.mp am_iis m (List.mem_range.mpr (by omega))
          rw [hi] at h1
          have h2 : (am_y m).name = "<init>" := of_decide_eq_true h1
          rw [← h2]
          exact (name_of_methodNamed B.named B.method).1
        have hS : va_S (az_A z) s.heap s.heap [] := va_S.rf
        have hfv : az_fv z = .null ∨ ∃ a, az_fv z = .ref a := hXt.2.2.2.2.2.2.2.2.2.2.2.2.2
        rw [lg_entry_eq]
        have hrk := List.all_eq_true.mp am_rks m (List.mem_range.mpr (by omega))
        unfold am_rk0 at hrk
        refine am_body (z := z) (m := m) (Cc := h'.length - h.length) (Cs := am_sl h' - am_sl h) (fun c hc hlt => ih c (by omega) hc) hx hb (by omega) hml hown hts hini hXt (Nat.le_refl _) (Nat.le_refl _) h0 (Nat.le_refl _) (Nat.le_refl _) ?_ n 0 (am_en m as) [] h _ s.heap [] 0 0 e0 (am_entry hfv hnl) hW hS (Nat.zero_add _) (Nat.zero_add _)
        intro pc lsJ H locs i hd hi hW1 hS1
        have fin : ∀ t : State, t.heap = H → s.WarmedH t.vm → am_Qc z r h' (as.map (am_vl z)).toArray s (.returned (r.map (am_vl z))) t := fun t ht hWm => ⟨rfl, by rw [ht]; exact hW1, hS1.F ht⟩
        rcases hi with ⟨rfl, x, rfl, hz⟩ | ⟨rfl, ⟨x, rfl⟩, hz⟩ | ⟨rfl, rfl, hz⟩
        · have hty : ∃ ty, am_rt m = some ty ∧ narrow ty (.int x) = .int x := by
            revert hrk hz
            rcases hq : am_rk m with _ | _ | _ | _ | _ | _ | k
            · intro _ hz; cases hz
            · intro hrk _
              rcases hrt : am_rt m with _ | ty
              · rw [hrt] at hrk; cases hrk
              · rw [hrt] at hrk
                cases ty <;> first | (cases hrk; done) | exact ⟨_, rfl, rfl⟩
            · intro hrk hz
              rcases hrt : am_rt m with _ | ty
              · rw [hrt] at hrk; cases hrk
              · rw [hrt] at hrk
                have hz : am_z x = true := hz
                cases ty <;> first | (cases hrk; done) | exact ⟨_, rfl, (am_ft_fits (z := z) (t := 1) (ty := .boolean) (v := .inl x) rfl hz).1⟩
            · intro _ hz; cases hz
            · intro hrk hz
              rcases hrt : am_rt m with _ | ty
              · rw [hrt] at hrk; cases hrk
              · rw [hrt] at hrk
                have hz : am_ch x = true := hz
                cases ty <;> first | (cases hrk; done) | exact ⟨_, rfl, of_decide_eq_true hz⟩
            · intro hrk hz
              rcases hrt : am_rt m with _ | ty
              · rw [hrt] at hrk; cases hrk
              · rw [hrt] at hrk
                have hz : am_by8 x = true := hz
                cases ty <;> first | (cases hrk; done) | exact ⟨_, rfl, of_decide_eq_true hz⟩
            · intro _ hz; cases hz
          obtain ⟨ty, t1, t2⟩ := hty
          rw [t1] at hr
          exact W.zret hx hb hr t2 fin hS1.2.2 hd
        · rw [hz] at hrk
          rcases hrt : am_rt m with _ | ty
          · rw [hrt] at hrk; cases hrk
          · rw [hrt] at hrk hr
            have hob : ∃ nn, ty = .object nn := by
              cases ty <;> first | (cases hrk; done) | exact ⟨_, rfl⟩
            exact W.aret hx hb hr (Or.inl hob) (am_vl_ref hfv x) fin hS1.2.2 hd
        · rw [hz] at hrk
          rcases hrt : am_rt m with _ | ty
          · rw [hrt] at hr
            exact W.vret hx hb hr fin hS1.2.2 hd
          · rw [hrt] at hrk; cases hrk
      · exfalso
        unfold am_run at e0
        rw [show am_ht m = 0 by omega] at e0
        cases e0
end
end
section
/-! the memory machine's runs are runs of the list machine over the heap that a memory pictures -/
/-- a reference that is in place -/
def am_vq (q : am_K) : Prop := (q.1 < 95 ∧ am_nmT[am_ps q]? = some q) ∨ (95 ≤ q.1 ∧ ((q.1 = 99 ∨ q.1 = 96) → q.2 < 6))
def am_Vv (v : am_V) : Prop := match v with
  | .inr (.inl (some q)) => am_vq q
  | _ => True
def am_VS (st : List am_V) : Prop := ∀ v ∈ st, am_Vv v
def am_VL (ls : am_L) : Prop := ∀ (i : Nat) (v : am_V), ls[i]? = some (some v) → am_Vv v
def am_fv2 (M : am_M) (q : am_K) (f : Nat) : am_V := match am_fk q.1 f with
  | some (.inr k) => .inr (.inl (some (k, q.2)))
  | some (.inl _) => .inl (M q.1 q.2 f)
  | none => .inl 0
def am_ac2 (M : am_M) (q : am_K) (a : Nat × Nat) : am_C := match a.1 with
  | 0 => .inr (.inl (0, (List.range a.2).map (M q.1 q.2)))
  | 1 => .inr (.inl (1, (List.range a.2).map (M q.1 q.2)))
  | 2 => .inr (.inr (2, (List.range a.2).map (fun i => some (4, i))))
  | _ => .inr (.inr (3, (List.range a.2).map (fun i => some (19, am_lx (M q.1 q.2 i)))))
def am_co (M : am_M) (q : am_K) : am_C := match am_kc q.1 with
  | some c => .inl (c, (List.range (am_nf c)).map (am_fv2 M q))
  | none => am_ac2 M q ((am_ka q.1).getD (0, 0))
def am_hp (M : am_M) : am_H := am_nmT.map (am_co M)
theorem am_nm_ok : ∀ q ∈ am_nmT, q.1 < 95 ∧ am_nmT[am_ps q]? = some q := by decide +kernel
theorem am_nm_ps0 : (List.range 69).all (fun i => decide ((am_nmT[i]?).map am_ps = some i)) = true := by decide +kernel
theorem am_nm_ps {i : Nat} {y : am_K} (h : am_nmT[i]? = some y) : am_ps y = i := by
  have hl : i < 69 := (List.getElem?_eq_some_iff.mp h).1
  have h1 := of_decide_eq_true (List.all_eq_true.mp am_nm_ps0 i (List.mem_range.mpr hl))
  rw [h] at h1
  exact Option.some.inj h1
theorem am_hp_at {M : am_M} {q : am_K} (h1 : q.1 < 95) (h2 : am_nmT[am_ps q]? = some q) : (am_hp M)[am_ps q]? = some (am_co M q) := by
  unfold am_hp
  rw [List.getElem?_map, h2]
  rfl
theorem am_hp_hg {M : am_M} {q : am_K} (h1 : q.1 < 95) (h2 : am_nmT[am_ps q]? = some q) : am_hg (am_hp M) q = some (am_co M q) := by
  unfold am_hg
  rw [show Nat.blt q.1 95 = true from Nat.ble_eq_true_of_le h1]
  exact am_hp_at h1 h2
theorem am_set_gen {L : List am_K} {ps : am_K → Nat} (hps : ∀ (i : Nat) (y : am_K), L[i]? = some y → ps y = i) {g g' : am_K → am_C} {q : am_K} (h2 : L[ps q]? = some q) (hm : ∀ y ∈ L, y ≠ q → g' y = g y) : (L.map g).set (ps q) (g' q) = L.map g' := by
  apply List.ext_getElem?
  intro i
  rw [List.getElem?_set, List.length_map, List.getElem?_map, List.getElem?_map]
  by_cases e : ps q = i
  · subst e
    have hl := (List.getElem?_eq_some_iff.mp h2).1
    rw [if_pos rfl, if_pos hl, h2]
    rfl
  · rw [if_neg e]
    cases hy : L[i]? with
    | none => rfl
    | some y =>
      have hne : y ≠ q := by
        intro hyq
        subst hyq
        exact e (hps _ _ hy)
      show some (g y) = some (g' y)
      rw [hm y (List.mem_of_getElem? hy) hne]
/-- a memory that differs in one cell -/
theorem am_hp_set {M M' : am_M} {q : am_K} (h2 : am_nmT[am_ps q]? = some q) (hm : ∀ y ∈ am_nmT, y ≠ q → am_co M' y = am_co M y) : (am_hp M).set (am_ps q) (am_co M' q) = am_hp M' := am_set_gen (L := am_nmT) (ps := am_ps) (g := am_co M) (g' := am_co M') (fun _ _ h => am_nm_ps h) h2 hm
theorem am_up_self (M : am_M) (a b c : Nat) (x : Int32) : am_up M a b c x a b c = x := by
  unfold am_up
  simp [Nat.beq_refl]
theorem am_up_ne {M : am_M} {a b c a' b' c' : Nat} {x : Int32} (h : a' ≠ a ∨ b' ≠ b ∨ c' ≠ c) : am_up M a b c x a' b' c' = M a' b' c' := by
  unfold am_up
  have : (Nat.beq a' a && (Nat.beq c' c && Nat.beq b' b)) = false := by
    rcases h with h | h | h
    · have : Nat.beq a' a = false := by cases hb : Nat.beq a' a with | false => rfl | true => exact absurd (Nat.eq_of_beq_eq_true hb) h
      simp [this]
    · have : Nat.beq b' b = false := by cases hb : Nat.beq b' b with | false => rfl | true => exact absurd (Nat.eq_of_beq_eq_true hb) h
      simp [this]
    · have : Nat.beq c' c = false := by cases hb : Nat.beq c' c with | false => rfl | true => exact absurd (Nat.eq_of_beq_eq_true hb) h
      simp [this]
  rw [this]
theorem am_co_up {M : am_M} {q y : am_K} {c : Nat} {x : Int32} (h : y ≠ q) : am_co (am_up M q.1 q.2 c x) y = am_co M y := by
  have hne : ∀ f, am_up M q.1 q.2 c x y.1 y.2 f = M y.1 y.2 f := fun f => am_up_ne (by
    by_cases h1 : y.1 = q.1
    · by_cases h2 : y.2 = q.2
      · exact absurd (Prod.ext h1 h2) h
      · exact Or.inr (Or.inl h2)
    · exact Or.inl h1)
  have hfun : am_up M q.1 q.2 c x y.1 y.2 = M y.1 y.2 := funext hne
  unfold am_co am_fv2 am_ac2
  rw [hfun]
theorem am_fk_ok : am_nmT.all (fun q => (List.range 41).all (fun f => match am_fk q.1 f with
  | some (.inr k) => Nat.blt k 95 && decide (am_nmT[am_ps (k, q.2)]? = some (k, q.2))
  | _ => true)) = true := by decide +kernel
def am_nfP (k c f : Nat) : Bool := match am_fk k f with
  | none => true
  | some x => Nat.blt f (am_nf c) && (Nat.beq c 12 || (match x with
    | .inl 0 => Nat.beq (am_ty c f) 0
    | .inl 1 => Nat.beq (am_ty c f) 1
    | .inl _ => false
    | .inr _ => true))
theorem am_nfs0 : (List.range 100).all (fun k => match am_kc k with
  | none => true
  | some c => (List.range 41).all (fun f => am_nfP k c f)) = true := by decide +kernel
theorem am_kc_lt {k c : Nat} (h : am_kc k = some c) : k < 100 ∧ (c = 12 ↔ k = 99) ∧ (c < 10 ∨ c = 12) := by
  unfold am_kc at h
  split at h <;> first | (cases h; decide) | cases h
theorem am_fk_lt {k f : Nat} {x : Nat ⊕ Nat} (h : am_fk k f = some x) : f < 41 := by
  unfold am_fk at h
  split at h <;> first | (have h1 := (List.getElem?_eq_some_iff.mp h).1; simp at h1; omega) | cases h
theorem am_nfs {k c f : Nat} {x : Nat ⊕ Nat} (hk : am_kc k = some c) (hf : am_fk k f = some x) : f < am_nf c ∧ (c ≠ 12 → ∀ t, x = .inl t → t < 2 ∧ am_ty c f = t) := by
  have h1 := List.all_eq_true.mp am_nfs0 k (List.mem_range.mpr (am_kc_lt hk).1)
  rw [hk] at h1
  have h2 := List.all_eq_true.mp h1 f (List.mem_range.mpr (am_fk_lt hf))
  unfold am_nfP at h2
  rw [hf] at h2
  simp only [Bool.and_eq_true, Bool.or_eq_true] at h2
  refine ⟨Nat.le_of_ble_eq_true h2.1, fun hc t hx => ?_⟩
  subst hx
  rcases h2.2 with h3 | h3
  · exact absurd (Nat.eq_of_beq_eq_true h3) hc
  · rcases t with _ | _ | t
    · exact ⟨by omega, Nat.eq_of_beq_eq_true h3⟩
    · exact ⟨by omega, Nat.eq_of_beq_eq_true h3⟩
    · cases h3
theorem am_ac20 (M : am_M) (q : am_K) (n : Nat) : am_ac2 M q (0, n) = .inr (.inl (0, (List.range n).map (M q.1 q.2))) := rfl
theorem am_ac21 (M : am_M) (q : am_K) (n : Nat) : am_ac2 M q (1, n) = .inr (.inl (1, (List.range n).map (M q.1 q.2))) := rfl
theorem am_ac22 (M : am_M) (q : am_K) (n : Nat) : am_ac2 M q (2, n) = .inr (.inr (2, (List.range n).map (fun i => some (4, i)))) := rfl
theorem am_ac23 (M : am_M) (q : am_K) (n : Nat) : am_ac2 M q (3, n) = .inr (.inr (3, (List.range n).map (fun i => some (19, am_lx (M q.1 q.2 i))))) := rfl
theorem am_kc_ka {k c : Nat} (h : am_kc k = some c) : am_ka k = none := by
  unfold am_kc at h
  split at h <;> first | rfl | cases h
theorem am_rng {α : Type} {n i : Nat} (f : Nat → α) (h : i < n) : ((List.range n).map f)[i]? = some (f i) := by
  rw [List.getElem?_map, List.getElem?_range h]
  rfl
theorem am_rngD {α : Type} {n i : Nat} (f : Nat → α) (d : α) (h : i < n) : ((List.range n).map f).getD i d = f i := by
  rw [List.getD_eq_getElem?_getD, am_rng f h]
  rfl
theorem am_rng_set {α : Type} {n i : Nat} (f g : Nat → α) (h : i < n) (hg : ∀ j, j < n → j ≠ i → g j = f j) : ((List.range n).map f).set i (g i) = (List.range n).map g := by
  apply List.ext_getElem?
  intro j
  rw [List.getElem?_set, List.length_map, List.length_range, List.getElem?_map, List.getElem?_map]
  by_cases hj : j < n
  · rw [List.getElem?_range hj]
    by_cases e : i = j
    · subst e
      rw [if_pos rfl, if_pos h]
      rfl
    · rw [if_neg e]
      show some (f j) = some (g j)
      rw [hg j hj (Ne.symm e)]
  · rw [List.getElem?_eq_none (by rw [List.length_range]; omega)]
    by_cases e : i = j
    · omega
    · rw [if_neg e]
      rfl
theorem am_gf_sim {M : am_M} {q : am_K} {ci f : Nat} {v : am_V} (hv : am_vq q) (h : am_gf2 M q ci f = some v) : am_gf1 (am_hp M) q ci f = some v ∧ am_Vv v := by
  unfold am_gf2 at h
  cases hk : am_kc q.1 with
  | none => rw [hk] at h; cases h
  | some c =>
    rw [hk] at h
    dsimp only at h
    cases hc : Nat.beq c ci with
    | false => rw [hc] at h; cases h
    | true =>
      rw [hc] at h
      dsimp only at h
      have hci := Nat.eq_of_beq_eq_true hc
      subst hci
      obtain ⟨k1, k2, k3⟩ := am_kc_lt hk
      cases hf : am_fk q.1 f with
      | none => rw [hf] at h; cases h
      | some x =>
        rw [hf] at h
        have hf41 := am_fk_lt hf
        have hnf : f < am_nf c := by
          exact (am_nfs hk hf).1
        rcases hv with ⟨h95, hat⟩ | ⟨h95, h6⟩
        · have hn99 : ¬ c = 12 := fun w => by have := k2.mp w; omega
          have hg : am_gf1 (am_hp M) q c f = some (am_fv2 M q f) := by
            unfold am_gf1
            rw [show Nat.beq q.1 99 = false from by cases hb : Nat.beq q.1 99 with | false => rfl | true => have := Nat.eq_of_beq_eq_true hb; omega]
            dsimp only
            rw [am_hp_hg h95 hat]
            unfold am_co
            rw [hk]
            dsimp only
            rw [show Nat.beq c c = true from Nat.beq_refl c]
            exact am_rng _ hnf
          have h3 := (am_nfs hk hf).2 hn99
          rcases x with x | k
          · rcases x with _ | _ | x
            · cases h
              exact ⟨by rw [hg]; unfold am_fv2; rw [hf], trivial⟩
            · cases h
              exact ⟨by rw [hg]; unfold am_fv2; rw [hf], trivial⟩
            · have := (h3 _ rfl).1; omega
          · cases h
            refine ⟨by rw [hg]; unfold am_fv2; rw [hf], Or.inl ?_⟩
            have h4 := List.all_eq_true.mp (List.all_eq_true.mp am_fk_ok q (List.mem_of_getElem? hat)) f (List.mem_range.mpr hf41)
            rw [hf] at h4
            simp only [Bool.and_eq_true] at h4
            exact ⟨Nat.le_of_ble_eq_true h4.1, of_decide_eq_true h4.2⟩
        · have hq99 : q.1 = 99 := by
            unfold am_kc at hk
            split at hk <;> first | omega | cases hk
          have hc12 := k2.mpr hq99
          subst hc12
          have hq6 := h6 (Or.inl hq99)
          rw [hq99] at hf
          unfold am_gf1
          rw [hq99, show Nat.beq 99 99 = true from rfl]
          dsimp only
          rw [show (Nat.beq 12 12 && Nat.blt q.2 6) = true by rw [show Nat.blt q.2 6 = true from Nat.ble_eq_true_of_le hq6]; rfl]
          dsimp only
          rcases f with _ | _ | f
          · cases hf
            cases h
            exact ⟨rfl, Or.inr ⟨by show 95 ≤ 96; omega, fun _ => hq6⟩⟩
          · cases hf
            cases h
            exact ⟨rfl, trivial⟩
          · cases hf
theorem am_pf_sim {M : am_M} {q : am_K} {ci f : Nat} {v : am_V} (hv : am_vq q) (h : (am_pf2 M q ci f v).1 = true) : (am_pf1 (am_hp M) q ci f v).1 = true ∧ (am_pf1 (am_hp M) q ci f v).2 = am_hp (am_pf2 M q ci f v).2 := by
  unfold am_pf2 at h ⊢
  cases hk : am_kc q.1 with
  | none => rw [hk] at h; cases h
  | some c =>
    rw [hk] at h
    dsimp only at h ⊢
    cases hc : Nat.beq c ci with
    | false => rw [hc] at h; cases h
    | true =>
      rw [hc] at h
      dsimp only at h ⊢
      have hci := Nat.eq_of_beq_eq_true hc
      subst hci
      obtain ⟨k1, k2, k3⟩ := am_kc_lt hk
      have core : ∀ (t : Nat) (x : Int32), am_fk q.1 f = some (.inl t) → t < 2 → v = .inl x → am_ft t (.inl x) = true → (am_pf1 (am_hp M) q c f (.inl x)).1 = true ∧ (am_pf1 (am_hp M) q c f (.inl x)).2 = am_hp (am_up M q.1 q.2 f x) := by
        intro t x hf ht hvx hft
        have hf41 := am_fk_lt hf
        have hnf : f < am_nf c := by
          exact (am_nfs hk hf).1
        rcases hv with ⟨h95, hat⟩ | ⟨h95, h6⟩
        · have hn99 : ¬ c = 12 := fun w => by have := k2.mp w; omega
          have hty : am_ty c f = t := ((am_nfs hk hf).2 hn99 t rfl).2
          have hco : am_co (am_up M q.1 q.2 f x) q = .inl (c, ((List.range (am_nf c)).map (am_fv2 M q)).set f (.inl x)) := by
            have hx2 : am_fv2 (am_up M q.1 q.2 f x) q f = .inl x := by unfold am_fv2; rw [hf]; show Sum.inl (am_up M q.1 q.2 f x q.1 q.2 f) = _; rw [am_up_self]
            have h9 := am_rng_set (am_fv2 M q) (am_fv2 (am_up M q.1 q.2 f x) q) hnf (fun j hj hji => by
              unfold am_fv2
              rw [am_up_ne (Or.inr (Or.inr hji))])
            rw [hx2] at h9
            unfold am_co
            rw [hk]
            dsimp only
            rw [h9]
          unfold am_pf1
          rw [am_hp_hg h95 hat, show am_co M q = .inl (c, (List.range (am_nf c)).map (am_fv2 M q)) by unfold am_co; rw [hk]]
          dsimp only
          refine ⟨?_, ?_⟩
          · rw [show Nat.beq c c = true from Nat.beq_refl c, hty, hft, List.length_map, List.length_range, show Nat.blt f (am_nf c) = true from Nat.ble_eq_true_of_le hnf]
            rfl
          · rw [← hco]
            exact am_hp_set hat (fun y _ hy => am_co_up hy)
        · exfalso
          have hq99 : q.1 = 99 := by
            unfold am_kc at hk
            split at hk <;> first | omega | cases hk
          rw [hq99] at hf
          rcases f with _ | _ | f
          · cases hf
          · cases hf; omega
          · cases hf
      rcases hf : am_fk q.1 f with _ | (_ | _ | t) | k
      · rw [hf] at h; cases h
      · rw [hf] at h
        rcases v with x | v
        · exact core 0 x hf (by omega) rfl rfl
        · cases h
      · rw [hf] at h
        rcases v with x | v
        · exact core 1 x hf (by omega) rfl h
        · cases h
      · rw [hf] at h; cases h
      · rw [hf] at h; cases h
theorem am_ka_lt {k : Nat} {a : Nat × Nat} (h : am_ka k = some a) : k < 95 ∧ am_kc k = none ∧ a.1 < 4 ∧ (a.1 = 2 → a.2 = 3) := by
  unfold am_ka at h
  split at h <;> first | (cases h; decide) | cases h
theorem am_co_ka {M : am_M} {q : am_K} {a : Nat × Nat} (h : am_ka q.1 = some a) : am_co M q = am_ac2 M q a := by
  unfold am_co
  rw [(am_ka_lt h).2.1, h]
  rfl
theorem am_vq_w {q : am_K} (hv : am_vq q) (h : q.1 < 95) : am_nmT[am_ps q]? = some q := by
  rcases hv with ⟨-, h1⟩ | ⟨h1, -⟩
  · exact h1
  · omega
theorem am_lx_lt (x : Int32) : am_lx x < 12 := Nat.mod_lt _ (by omega)
theorem am_v4 : ∀ i, i < 3 → am_nmT[am_ps (4, i)]? = some (4, i) := by decide
theorem am_v19 : ∀ i, i < 12 → am_nmT[am_ps (19, i)]? = some (19, i) := by decide
theorem am_al_sim {E : am_E} {M : am_M} {ty : Nat} {q : am_K} {j : Int32} (hv : am_vq q) (h : (am_al2 E M ty q j).1 = true) : (am_al1 E (am_hp M) ty q j).1 = true ∧ (am_al1 E (am_hp M) ty q j).2 = (am_al2 E M ty q j).2 ∧ am_Vv (am_al2 E M ty q j).2 := by
  by_cases h98 : q.1 = 98
  · have e1 : am_al1 E (am_hp M) ty q j = am_al2 E M ty q j := by unfold am_al1 am_al2; rw [h98]; try rfl
    rw [e1]
    refine ⟨h, rfl, ?_⟩
    unfold am_al2; rw [h98]; exact trivial
  by_cases h97 : q.1 = 97
  · have e1 : am_al1 E (am_hp M) ty q j = am_al2 E M ty q j := by unfold am_al1 am_al2; rw [h97]; try rfl
    rw [e1]
    refine ⟨h, rfl, ?_⟩
    unfold am_al2; rw [h97]; exact trivial
  by_cases h96 : q.1 = 96
  · have hq6 : q.2 < 6 := by
      rcases hv with ⟨h1, -⟩ | ⟨-, h1⟩
      · omega
      · exact h1 (Or.inr h96)
    have e1 : am_al1 E (am_hp M) ty q j = am_al2 E M ty q j := by
      unfold am_al1 am_al2; rw [h96]
      show (Nat.blt q.2 6 && _, _) = _
      rw [show Nat.blt q.2 6 = true from Nat.ble_eq_true_of_le hq6]
      rfl
    rw [e1]
    refine ⟨h, rfl, ?_⟩
    unfold am_al2; rw [h96]; exact trivial
  have e2 : am_al2 E M ty q j = (match am_ka q.1 with
    | some (0, n) => (Nat.beq ty 0 && am_in j n, .inl (M q.1 q.2 (am_ix j)))
    | some (1, n) => (Nat.beq ty 1 && am_in j n, .inl (M q.1 q.2 (am_ix j)))
    | some (2, n) => (Nat.beq ty 2 && am_in j n, .inr (.inl (some (4, am_ix j))))
    | some (3, n) => (Nat.beq ty 2 && am_in j n, .inr (.inl (some (19, am_lx (M q.1 q.2 (am_ix j))))))
    | _ => (false, .inl 0)) := by
    unfold am_al2
    split <;> first | omega | rfl
  have e1 : am_al1 E (am_hp M) ty q j = (match am_hg (am_hp M) q with
    | some (.inr (.inl (t, l))) => (Nat.blt t 2 && (Nat.beq ty t && am_in j l.length), .inl (l.getD (am_ix j) 0))
    | some (.inr (.inr (t, l))) => (Nat.beq ty 2 && (am_in j l.length && ((Nat.beq t 2 || Nat.beq t 3) && am_kq (l.getD (am_ix j) none))), .inr (.inl (l.getD (am_ix j) none)))
    | _ => (false, .inl 0)) := by
    unfold am_al1
    split <;> first | omega | rfl
  rw [e2] at h ⊢
  rw [e1]
  rcases ha : am_ka q.1 with _ | ⟨t, n⟩
  · rw [ha] at h; cases h
  · obtain ⟨a1, a2, a3, a4⟩ := am_ka_lt ha
    have hat := am_vq_w hv a1
    rw [am_hp_hg a1 hat, am_co_ka ha]
    rw [ha] at h
    rcases t with _ | _ | _ | _ | t
    · rw [show am_ac2 M q (0, n) = _ from am_ac20 M q n]
      dsimp only at h ⊢
      simp only [Bool.and_eq_true] at h
      have hlt := am_in_lt h.2
      rw [List.length_map, List.length_range, h.1, h.2, am_rngD _ _ hlt]
      exact ⟨rfl, rfl, trivial⟩
    · rw [show am_ac2 M q (0 + 1, n) = _ from am_ac21 M q n]
      dsimp only at h ⊢
      simp only [Bool.and_eq_true] at h
      have hlt := am_in_lt h.2
      rw [List.length_map, List.length_range, h.1, h.2, am_rngD _ _ hlt]
      exact ⟨rfl, rfl, trivial⟩
    · rw [show am_ac2 M q (0 + 1 + 1, n) = _ from am_ac22 M q n]
      dsimp only at h ⊢
      simp only [Bool.and_eq_true] at h
      have hlt := am_in_lt h.2
      have hn3 : n = 3 := a4 rfl
      rw [List.length_map, List.length_range, h.1, h.2, am_rngD _ _ hlt]
      exact ⟨rfl, rfl, Or.inl ⟨by show 4 < 95; omega, am_v4 _ (by omega)⟩⟩
    · rw [show am_ac2 M q (0 + 1 + 1 + 1, n) = _ from am_ac23 M q n]
      dsimp only at h ⊢
      simp only [Bool.and_eq_true] at h
      have hlt := am_in_lt h.2
      rw [List.length_map, List.length_range, h.1, h.2, am_rngD _ _ hlt]
      exact ⟨rfl, rfl, Or.inl ⟨by show 19 < 95; omega, am_v19 _ (am_lx_lt _)⟩⟩
    · omega
theorem am_as_sim {M : am_M} {ty : Nat} {q : am_K} {j : Int32} {v : am_V} (hv : am_vq q) (hvv : am_Vv v) (h : (am_as2 M ty q j v).1 = true) : (am_as1 (am_hp M) ty q j v).1 = true ∧ (am_as1 (am_hp M) ty q j v).2 = am_hp (am_as2 M ty q j v).2 := by
  unfold am_as2 at h ⊢
  rcases ha : am_ka q.1 with _ | ⟨t, n⟩
  · rw [ha] at h; cases h
  · rw [ha] at h
    obtain ⟨a1, a2, a3, a4⟩ := am_ka_lt ha
    have hat := am_vq_w hv a1
    have hup : ∀ (x : Int32), am_ix j < n → ((List.range n).map (M q.1 q.2)).set (am_ix j) x = (List.range n).map ((am_up M q.1 q.2 (am_ix j) x) q.1 q.2) := by
      intro x hlt
      have h9 := am_rng_set (M q.1 q.2) ((am_up M q.1 q.2 (am_ix j) x) q.1 q.2) hlt (fun i _ hi => am_up_ne (Or.inr (Or.inr hi)))
      rw [am_up_self] at h9
      exact h9
    unfold am_as1
    rw [am_hp_hg a1 hat, am_co_ka ha]
    rcases t with _ | _ | _ | _ | t
    · rcases v with x | v
      · rw [show am_ac2 M q (0, n) = _ from am_ac20 M q n]
        dsimp only at h ⊢
        simp only [Bool.and_eq_true] at h
        have hlt := am_in_lt h.2
        rw [List.length_map, List.length_range, h.1, h.2]
        refine ⟨rfl, ?_⟩
        rw [hup x hlt]
        show _ = am_hp (am_up M q.1 q.2 (am_ix j) x)
        rw [← am_hp_set (M' := am_up M q.1 q.2 (am_ix j) x) hat (fun y _ hy => am_co_up hy), am_co_ka ha]
        rfl
      · cases h
    · rcases v with x | v
      · rw [show am_ac2 M q (0 + 1, n) = _ from am_ac21 M q n]
        dsimp only at h ⊢
        simp only [Bool.and_eq_true] at h
        have hlt := am_in_lt h.2.1
        rw [List.length_map, List.length_range, h.1, h.2.1, show am_ft (0 + 1) (.inl x) = true from h.2.2]
        refine ⟨rfl, ?_⟩
        rw [hup x hlt]
        show _ = am_hp (am_up M q.1 q.2 (am_ix j) x)
        rw [← am_hp_set (M' := am_up M q.1 q.2 (am_ix j) x) hat (fun y _ hy => am_co_up hy), am_co_ka ha]
        rfl
      · cases h
    · cases h
    · rcases v with x | (_ | ⟨ky, iy⟩) | x
      · cases h
      · cases h
      · have hky : ky = 19 := by
          by_cases hk : ky = 19
          · exact hk
          · exfalso
            have h : (match (Sum.inr (Sum.inl (some (ky, iy))) : am_V) with | .inr (.inl (some (19, j'))) => (Nat.beq ty 2 && am_in j n, am_up M q.1 q.2 (am_ix j) (Int32.ofNat j')) | _ => (false, M)).1 = true := h
            revert h
            split
            · rename_i e; cases e; exact fun _ => hk rfl
            · intro h; cases h
        subst hky
        rw [show am_ac2 M q (0 + 1 + 1 + 1, n) = _ from am_ac23 M q n]
        dsimp only at h ⊢
        simp only [Bool.and_eq_true] at h
        have hlt := am_in_lt h.2
        have hyv : am_vq (19, iy) := hvv
        have hyat := am_vq_w hyv (by show 19 < 95; omega)
        have hiy : iy < 12 := by
          have hmem := List.mem_of_getElem? hyat
          have : ∀ q ∈ am_nmT, q.1 = 19 → q.2 < 12 := by decide
          exact this _ hmem rfl
        have hoc : am_oc (am_hp M) (19, iy) (am_ec (0 + 1 + 1 + 1)) = true := by
          unfold am_oc
          rw [am_hp_hg (by show 19 < 95; omega) hyat]
          rfl
        rw [List.length_map, List.length_range, h.1, h.2, hoc]
        refine ⟨rfl, ?_⟩
        have hlx : am_lx (Int32.ofNat iy) = iy := by
          unfold am_lx
          rw [Int32.toNatClampNeg_ofNat_of_lt (by omega)]
          omega
        have h9 : ((List.range n).map (fun i => some ((19 : Nat), am_lx (M q.1 q.2 i)))).set (am_ix j) (some (19, iy)) = (List.range n).map (fun i => some ((19 : Nat), am_lx ((am_up M q.1 q.2 (am_ix j) (Int32.ofNat iy)) q.1 q.2 i))) := by
          have h8 := am_rng_set (fun i => some ((19 : Nat), am_lx (M q.1 q.2 i))) (fun i => some ((19 : Nat), am_lx ((am_up M q.1 q.2 (am_ix j) (Int32.ofNat iy)) q.1 q.2 i))) hlt (fun i _ hi => by rw [am_up_ne (Or.inr (Or.inr hi))])
          rw [am_up_self, hlx] at h8
          exact h8
        rw [h9]
        show _ = am_hp (am_up M q.1 q.2 (am_ix j) (Int32.ofNat iy))
        rw [← am_hp_set (M' := am_up M q.1 q.2 (am_ix j) (Int32.ofNat iy)) hat (fun y _ hy => am_co_up hy), am_co_ka ha]
        rfl
      · cases h
    · omega
theorem am_ln_sim {E : am_E} {M : am_M} {q : am_K} {x : Int32} (hv : am_vq q) (h : am_ln2 E M q = some x) : am_ln1 E (am_hp M) q = some x := by
  by_cases h98 : q.1 = 98
  · unfold am_ln2 at h; unfold am_ln1; rw [h98] at h ⊢; exact h
  by_cases h97 : q.1 = 97
  · unfold am_ln2 at h; unfold am_ln1; rw [h97] at h ⊢; exact h
  by_cases h96 : q.1 = 96
  · have hq6 : q.2 < 6 := by
      rcases hv with ⟨h1, -⟩ | ⟨-, h1⟩
      · omega
      · exact h1 (Or.inr h96)
    unfold am_ln2 at h; unfold am_ln1; rw [h96] at h ⊢
    show (match Nat.blt q.2 6 with | true => some (Int32.ofNat (am_wd.getD q.2 []).length) | false => none) = _
    rw [show Nat.blt q.2 6 = true from Nat.ble_eq_true_of_le hq6]
    exact h
  have e2 : am_ln2 E M q = (match am_ka q.1 with
    | some (_, n) => some (Int32.ofNat n)
    | none => none) := by
    unfold am_ln2
    split <;> first | omega | rfl
  have e1 : am_ln1 E (am_hp M) q = (match am_hg (am_hp M) q with
    | some (.inr (.inl (t, l))) => (match Nat.blt t 2 with
      | true => some (Int32.ofNat l.length)
      | false => none)
    | some (.inr (.inr (t, l))) => (match Nat.beq t 2 || Nat.beq t 3 with
      | true => some (Int32.ofNat l.length)
      | false => none)
    | _ => none) := by
    unfold am_ln1
    split <;> first | omega | rfl
  rw [e2] at h
  rw [e1]
  rcases ha : am_ka q.1 with _ | ⟨t, n⟩
  · rw [ha] at h; cases h
  · rw [ha] at h
    cases h
    obtain ⟨a1, a2, a3, a4⟩ := am_ka_lt ha
    rw [am_hp_hg a1 (am_vq_w hv a1), am_co_ka ha]
    rcases t with _ | _ | _ | _ | t
    · rw [show am_ac2 M q (0, n) = _ from am_ac20 M q n]; dsimp only; rw [List.length_map, List.length_range]; rfl
    · rw [show am_ac2 M q (0 + 1, n) = _ from am_ac21 M q n]; dsimp only; rw [List.length_map, List.length_range]; rfl
    · rw [show am_ac2 M q (0 + 1 + 1, n) = _ from am_ac22 M q n]; dsimp only; rw [List.length_map, List.length_range]; rfl
    · rw [show am_ac2 M q (0 + 1 + 1 + 1, n) = _ from am_ac23 M q n]; dsimp only; rw [List.length_map, List.length_range]; rfl
    · omega
theorem am_kl_sim {M : am_M} {q : am_K} {ci : Nat} (hv : am_vq q) (h : am_kl2 M q = some ci) : am_kl1 (am_hp M) q = some ci := by
  have h : am_kc q.1 = some ci := h
  obtain ⟨k1, k2, k3⟩ := am_kc_lt h
  unfold am_kl1
  by_cases h99 : q.1 = 99
  · have hq6 : q.2 < 6 := by
      rcases hv with ⟨h1, -⟩ | ⟨-, h1⟩
      · omega
      · exact h1 (Or.inl h99)
    rw [h99, show Nat.beq 99 99 = true from rfl]
    dsimp only
    rw [show Nat.blt q.2 6 = true from Nat.ble_eq_true_of_le hq6, k2.mpr h99]
  · rw [show Nat.beq q.1 99 = false from by cases hb : Nat.beq q.1 99 with | false => rfl | true => exact absurd (Nat.eq_of_beq_eq_true hb) h99]
    dsimp only
    have h95 : q.1 < 95 := by
      unfold am_kc at h
      split at h <;> first | omega | cases h
    rw [am_hp_hg h95 (am_vq_w hv h95)]
    unfold am_co
    rw [h]
end
section
/-! the machine over a memory and over the list heap that it pictures go alike -/
theorem am_VS_cons {v : am_V} {st : List am_V} : am_VS (v :: st) ↔ am_Vv v ∧ am_VS st := List.forall_mem_cons
theorem am_VS_i {x : Int32} {st : List am_V} (h : am_VS st) : am_VS (.inl x :: st) := am_VS_cons.mpr ⟨trivial, h⟩
theorem am_VL_get {ls : am_L} {j : Nat} {v : am_V} (h : am_VL ls) (e : ls.getD j none = some v) : am_Vv v := by
  rw [List.getD_eq_getElem?_getD] at e
  cases h1 : ls[j]? with
  | none => rw [h1] at e; cases e
  | some o => rw [h1] at e; simp only [Option.getD_some] at e; subst e; exact h j v h1
theorem am_VL_set {ls : am_L} {j : Nat} {v : am_V} (h : am_VL ls) (hv : am_Vv v) : am_VL (ls.set j (some v)) := by
  intro i w hw
  rw [List.getElem?_set] at hw
  by_cases e : j = i
  · rw [if_pos e] at hw
    by_cases hl : j < ls.length
    · rw [if_pos hl] at hw; cases hw; exact hv
    · rw [if_neg hl] at hw; cases hw
  · rw [if_neg e] at hw; exact h i w hw
theorem am_pu_V {own : Nat} {i : Instr} {ls ls' : am_L} {st st' : List am_V} (he : am_pu own i ls st = some (ls', st')) (hL : am_VL ls) (hS : am_VS st) : am_VL ls' ∧ am_VS st' := by
  have b2 : ∀ {f : Int32 → Int32 → Int32}, am_b2 f ls st = some (ls', st') → am_VL ls' ∧ am_VS st' := by
    intro f h
    obtain ⟨y, x, r, rfl, rfl, rfl⟩ := am_b2_some h
    exact ⟨hL, am_VS_i (am_VS_cons.mp (am_VS_cons.mp hS).2).2⟩
  have ldi : ∀ {j : Nat}, am_ldi ls j st = some (ls', st') → am_VL ls' ∧ am_VS st' := by
    intro j h
    obtain ⟨x, h1, rfl, rfl⟩ := am_ldi_some h
    exact ⟨hL, am_VS_i hS⟩
  have lda : ∀ {j : Nat}, am_lda ls j st = some (ls', st') → am_VL ls' ∧ am_VS st' := by
    intro j h
    obtain ⟨x, h1, rfl, rfl⟩ := am_lda_some h
    exact ⟨hL, am_VS_cons.mpr ⟨am_VL_get hL h1, hS⟩⟩
  have sti : ∀ {j : Nat}, am_sti ls j st = some (ls', st') → am_VL ls' ∧ am_VS st' := by
    intro j h
    obtain ⟨x, rfl, h2, rfl⟩ := am_sti_some h
    exact ⟨am_VL_set hL trivial, (am_VS_cons.mp hS).2⟩
  have sta : ∀ {j : Nat}, am_sta ls j st = some (ls', st') → am_VL ls' ∧ am_VS st' := by
    intro j h
    obtain ⟨x, rfl, h2, rfl⟩ := am_sta_some h
    exact ⟨am_VL_set hL (am_VS_cons.mp hS).1, (am_VS_cons.mp hS).2⟩
  cases i
  case iconst a => cases he; exact ⟨hL, am_VS_i hS⟩
  case bipush a =>
    have he : (match decide (-128 ≤ a ∧ a ≤ 127) with | true => some (ls, .inl (am_ci a) :: st) | false => none) = some (ls', st') := he
    split at he
    · cases he; exact ⟨hL, am_VS_i hS⟩
    · cases he
  case sipush a =>
    have he : (match decide (-32768 ≤ a ∧ a ≤ 32767) with | true => some (ls, .inl (am_ci a) :: st) | false => none) = some (ls', st') := he
    split at he
    · cases he; exact ⟨hL, am_VS_i hS⟩
    · cases he
  case lconst a => cases he; exact ⟨hL, am_VS_cons.mpr ⟨trivial, hS⟩⟩
  case aconst_null => cases he; exact ⟨hL, am_VS_cons.mpr ⟨trivial, hS⟩⟩
  case iload_n j => exact ldi he
  case iload j => exact ldi he
  case aload_n j => exact lda he
  case aload j => exact lda he
  case istore_n j => exact sti he
  case istore j => exact sti he
  case astore_n j => exact sta he
  case astore j => exact sta he
  case iinc j a =>
    have he : (match ls.getD j none with | some (.inl x) => am_if (Nat.blt j ls.length) (some (ls.set j (some (.inl (x + am_ci a))), st)) | _ => none) = some (ls', st') := he
    split at he
    · obtain ⟨-, g2⟩ := am_if_some he
      cases g2
      exact ⟨am_VL_set hL trivial, hS⟩
    · cases he
  case iadd => exact b2 he
  case isub => exact b2 he
  case imul => exact b2 he
  case iand => exact b2 he
  case ior => exact b2 he
  case ixor => exact b2 he
  case ishl => exact b2 he
  case ishr => exact b2 he
  case iushr => exact b2 he
  case i2l =>
    rcases st with _ | ⟨x | x, r⟩
    · cases he
    · cases he; exact ⟨hL, am_VS_cons.mpr ⟨trivial, (am_VS_cons.mp hS).2⟩⟩
    · cases he
  case i2c =>
    rcases st with _ | ⟨x | x, r⟩
    · cases he
    · cases he; exact ⟨hL, am_VS_i (am_VS_cons.mp hS).2⟩
    · cases he
  case dup =>
    rcases st with _ | ⟨x | x | x, r⟩
    · cases he
    · cases he; exact ⟨hL, am_VS_i hS⟩
    · cases he; exact ⟨hL, am_VS_cons.mpr ⟨(am_VS_cons.mp hS).1, hS⟩⟩
    · cases he
  case dup2 =>
    rcases st with _ | ⟨y | y, _ | ⟨x | x | x, r⟩⟩
    case cons.inl.cons.inr.inl => cases he; exact ⟨hL, am_VS_i (am_VS_cons.mpr ⟨(am_VS_cons.mp (am_VS_cons.mp hS).2).1, hS⟩)⟩
    all_goals cases he
  case pop =>
    rcases st with _ | ⟨x | x, r⟩
    · cases he
    · cases he; exact ⟨hL, (am_VS_cons.mp hS).2⟩
    · cases he
  case ldc j =>
    have he : (match am_ck own j with | some (.inl x) => some (ls, .inl x :: st) | some (.inr q) => some (ls, .inr (.inl (some (99, q))) :: st) | none => none) = some (ls', st') := he
    rcases hq : am_ck own j with _ | x | x
    · rw [hq] at he; cases he
    · rw [hq] at he; cases he; exact ⟨hL, am_VS_i hS⟩
    · rw [hq] at he
      cases he
      obtain ⟨-, q, h2, -⟩ := am_ckS hq
      have h6 : x < 6 := (List.getElem?_eq_some_iff.mp h2).1
      exact ⟨hL, am_VS_cons.mpr ⟨Or.inr ⟨by show 95 ≤ 99; omega, fun _ => h6⟩, hS⟩⟩
  case ldc_w j =>
    have he : (match am_ck own j with | some (.inl x) => some (ls, .inl x :: st) | _ => none) = some (ls', st') := he
    rcases hq : am_ck own j with _ | x | x
    · rw [hq] at he; cases he
    · rw [hq] at he; cases he; exact ⟨hL, am_VS_i hS⟩
    · rw [hq] at he; cases he
  case ldc2_w j =>
    have he : (match am_cl own j with | some x => some (ls, .inr (.inr x) :: st) | none => none) = some (ls', st') := he
    rcases hq : am_cl own j with _ | x
    · rw [hq] at he; cases he
    · rw [hq] at he; cases he; exact ⟨hL, am_VS_cons.mpr ⟨trivial, hS⟩⟩
  case getstatic j =>
    have he : (match am_gs own j with | some (.inl x) => some (ls, .inl x :: st) | some (.inr q) => some (ls, .inr (.inl (some (q, 0))) :: st) | none => none) = some (ls', st') := he
    rcases hq : am_gs own j with _ | v
    · rw [hq] at he; cases he
    · rw [hq] at he
      rcases am_gsF hq with ⟨-, rfl, -⟩ | ⟨-, rfl, -⟩ | ⟨-, rfl, -⟩
      · cases he; exact ⟨hL, am_VS_cons.mpr ⟨Or.inr ⟨by show 95 ≤ 98; omega, fun w => by rcases w with w | w <;> cases w⟩, hS⟩⟩
      · cases he; exact ⟨hL, am_VS_i hS⟩
      · cases he; exact ⟨hL, am_VS_cons.mpr ⟨Or.inr ⟨by show 95 ≤ 95; omega, fun w => by rcases w with w | w <;> cases w⟩, hS⟩⟩
  all_goals cases he
/-- a jump, over any heap: where it goes -/
def am_Lp (st : List am_V) (f : ∀ R : Type, (Nat → List am_V → Option R) → Option R) : Prop := (∀ R k, f R k = none) ∨ ∃ a b, (∀ v ∈ b, v ∈ st) ∧ ∀ R k, f R k = k a b
theorem am_Lp_0 {st : List am_V} : am_Lp st (fun _ _ => none) := Or.inl fun _ _ => rfl
theorem am_Lp_1 {st : List am_V} (a : Nat) (b : List am_V) (h : ∀ v ∈ b, v ∈ st) : am_Lp st (fun _ k => k a b) := Or.inr ⟨a, b, h, fun _ _ => rfl⟩
theorem am_Lp_if {st : List am_V} (c : Bool) (a : Nat) (b : List am_V) (h : ∀ v ∈ b, v ∈ st) : am_Lp st (fun _ k => am_if c (k a b)) := by
  cases c
  · exact Or.inl fun _ _ => rfl
  · exact Or.inr ⟨a, b, h, fun _ _ => rfl⟩
theorem am_Lp_br {st : List am_V} (pc : Nat) (off : Int) (r : List am_V) (h : ∀ v ∈ r, v ∈ st) : am_Lp st (fun _ k => am_br pc off (fun t => k t r)) := by
  unfold am_br
  generalize (pc : Int) + off = z
  cases z
  · exact am_Lp_1 _ _ h
  · exact am_Lp_0
theorem am_Lp_ite {st : List am_V} {f g : ∀ R : Type, (Nat → List am_V → Option R) → Option R} (c : Prop) [Decidable c] (hf : am_Lp st f) (hg : am_Lp st g) : am_Lp st (fun R k => if c then f R k else g R k) := by
  by_cases h : c
  · simp only [if_pos h]; exact hf
  · simp only [if_neg h]; exact hg
theorem am_Lp_h2 (i : Instr) (pc n : Nat) (st : List am_V) : am_Lp st (fun R k => match i with
  | .goto off => am_br pc off (fun t => k t st)
  | .ifCond c off => (match st with
    | .inl x :: r => am_c1 c x (am_br pc off (fun t => k t r)) (k (pc + n) r)
    | _ => none)
  | .if_icmp c off => (match st with
    | .inl y :: .inl x :: r => am_c2 c x y (am_br pc off (fun t => k t r)) (k (pc + n) r)
    | _ => none)
  | .ifnull off => (match st with
    | .inr (.inl none) :: r => am_br pc off (fun t => k t r)
    | .inr (.inl (some q)) :: r => am_if (Nat.blt q.1 95) (k (pc + n) r)
    | _ => none)
  | .ifnonnull off => (match st with
    | .inr (.inl none) :: r => k (pc + n) r
    | .inr (.inl (some q)) :: r => am_if (Nat.blt q.1 95) (am_br pc off (fun t => k t r))
    | _ => none)
  | .tableswitch d lo hi offs => (match st with
    | .inl x :: r => am_if (decide (-1000 ≤ lo ∧ lo ≤ 0 ∧ hi ≤ 1000 ∧ (offs.toList.length : Int) = hi - lo + 1)) (am_ts x pc d (fun t => k t r) offs.toList lo)
    | _ => none)
  | _ => none) := by
  cases i
  case goto off => exact am_Lp_br pc off st (fun v hv => hv)
  case ifCond c off =>
    rcases st with _ | ⟨x | _, r⟩
    · exact am_Lp_0
    · have hr : ∀ v ∈ r, v ∈ (.inl x :: r : List am_V) := fun v hv => List.mem_cons_of_mem _ hv
      cases c
      · exact am_Lp_ite (x = 0) (am_Lp_br pc off r hr) (am_Lp_1 _ _ hr)
      · exact am_Lp_ite (x = 0) (am_Lp_1 _ _ hr) (am_Lp_br pc off r hr)
      · exact am_Lp_ite (x < 0) (am_Lp_br pc off r hr) (am_Lp_1 _ _ hr)
      · exact am_Lp_ite (x < 0) (am_Lp_1 _ _ hr) (am_Lp_br pc off r hr)
      · exact am_Lp_ite (x ≤ 0) (am_Lp_1 _ _ hr) (am_Lp_br pc off r hr)
      · exact am_Lp_ite (x ≤ 0) (am_Lp_br pc off r hr) (am_Lp_1 _ _ hr)
    · exact am_Lp_0
  case if_icmp c off =>
    rcases st with _ | ⟨y | _, _ | ⟨x | _, r⟩⟩
    case cons.inl.cons.inl =>
      have hr : ∀ v ∈ r, v ∈ (.inl y :: .inl x :: r : List am_V) := fun v hv => List.mem_cons_of_mem _ (List.mem_cons_of_mem _ hv)
      cases c
      · exact am_Lp_ite (x = y) (am_Lp_br pc off r hr) (am_Lp_1 _ _ hr)
      · exact am_Lp_ite (x = y) (am_Lp_1 _ _ hr) (am_Lp_br pc off r hr)
      · exact am_Lp_ite (x < y) (am_Lp_br pc off r hr) (am_Lp_1 _ _ hr)
      · exact am_Lp_ite (x < y) (am_Lp_1 _ _ hr) (am_Lp_br pc off r hr)
      · exact am_Lp_ite (x ≤ y) (am_Lp_1 _ _ hr) (am_Lp_br pc off r hr)
      · exact am_Lp_ite (x ≤ y) (am_Lp_br pc off r hr) (am_Lp_1 _ _ hr)
    all_goals exact am_Lp_0
  case ifnull off =>
    rcases st with _ | ⟨_ | (_ | q) | _, r⟩
    · exact am_Lp_0
    · exact am_Lp_0
    · exact am_Lp_br pc off r (fun v hv => List.mem_cons_of_mem _ hv)
    · exact am_Lp_if _ _ _ (fun v hv => List.mem_cons_of_mem _ hv)
    · exact am_Lp_0
  case ifnonnull off =>
    rcases st with _ | ⟨_ | (_ | q) | _, r⟩
    · exact am_Lp_0
    · exact am_Lp_0
    · exact am_Lp_1 _ _ (fun v hv => List.mem_cons_of_mem _ hv)
    · exact am_Lp_ite _ (am_Lp_br pc off r (fun v hv => List.mem_cons_of_mem _ hv)) am_Lp_0
    · exact am_Lp_0
  case tableswitch d lo hi offs =>
    rcases st with _ | ⟨x | _, r⟩
    · exact am_Lp_0
    · have hr : ∀ v ∈ r, v ∈ (.inl x :: r : List am_V) := fun v hv => List.mem_cons_of_mem _ hv
      refine am_Lp_ite _ ?_ am_Lp_0
      generalize offs.toList = l
      induction l generalizing lo with
      | nil => exact am_Lp_br pc d r hr
      | cons o os ih => exact am_Lp_ite (x = am_ci lo) (am_Lp_br pc o r hr) (ih (lo + 1))
    · exact am_Lp_0
  all_goals exact am_Lp_0
theorem am_h2_sim {H1 H2 : Type} {i : Instr} {pc n : Nat} {st : List am_V} {k : Nat → List am_V → am_R H2} {R : Option am_V × H2} (he : am_h2 i pc n st k = some R) : ∃ a b, (∀ v ∈ b, v ∈ st) ∧ k a b = some R ∧ ∀ k' : Nat → List am_V → am_R H1, am_h2 i pc n st k' = k' a b := by
  rcases am_Lp_h2 i pc n st with h | ⟨a, b, hb, h⟩
  · have h1 : am_h2 i pc n st k = none := h _ k
    rw [h1] at he
    cases he
  · have h1 : am_h2 i pc n st k = k a b := h _ k
    rw [h1] at he
    exact ⟨a, b, hb, he, fun k' => h _ k'⟩
theorem am_do_some2 {I : am_O am_M} {call : Nat → List am_V → am_M → am_R am_M} {m kd c na : Nat} {k : List am_V → am_M → am_R am_M} {st : List am_V} {h : am_M} {R : Option am_V × am_M} (e : am_do I call m k kd c na st h = some R) :
    na ≤ st.length ∧ st.length - na ≤ 4 ∧ am_ht c < am_ht m ∧ am_rcv I h kd c (st.take na).reverse = true ∧ ∃ r h', call c (st.take na).reverse h = some (r, h') ∧ k (r.toList ++ st.drop na) h' = some R ∧ ∀ {H1 : Type} (h1 : H1) (k' : List am_V → H1 → am_R H1), am_bd (am_rk c) (some (r, h1)) (fun vs h' => k' (vs ++ st.drop na) h') = k' (r.toList ++ st.drop na) h1 := by
  unfold am_do at e
  cases hb : (Nat.ble na st.length && (Nat.ble (st.length - na) 4 && (Nat.blt (am_ht c) (am_ht m) && am_rcv I h kd c (st.take na).reverse))) with
  | false => rw [hb] at e; cases e
  | true =>
    rw [hb] at e
    simp only [Bool.and_eq_true] at hb
    obtain ⟨b1, b2, b3, b4⟩ := hb
    refine ⟨Nat.le_of_ble_eq_true b1, Nat.le_of_ble_eq_true b2, Nat.le_of_ble_eq_true b3, b4, ?_⟩
    generalize am_rk c = rk at e
    generalize call c (st.take na).reverse h = x at e
    rcases rk with _ | _ | _ | _ | rk
    · rcases x with _ | ⟨_ | v, h'⟩
      · cases e
      · exact ⟨none, h', rfl, e, fun _ _ => rfl⟩
      · cases e
    · rcases x with _ | ⟨_ | v | v, h'⟩
      · cases e
      · cases e
      · exact ⟨_, h', rfl, e, fun _ _ => rfl⟩
      · cases e
    · rcases x with _ | ⟨_ | v | v, h'⟩
      · cases e
      · cases e
      · exact ⟨_, h', rfl, e, fun _ _ => rfl⟩
      · cases e
    · rcases x with _ | ⟨_ | v | v | v, h'⟩
      · cases e
      · cases e
      · cases e
      · exact ⟨_, h', rfl, e, fun _ _ => rfl⟩
      · cases e
    · rcases x with _ | ⟨_ | v | v, h'⟩
      · cases e
      · cases e
      · exact ⟨_, h', rfl, e, fun _ _ => rfl⟩
      · cases e
def am_Vr (r : Option am_V) : Prop := ∀ v, r = some v → am_Vv v
def am_Sim (call2 : Nat → List am_V → am_M → am_R am_M) (call1 : Nat → List am_V → am_H → am_R am_H) (c : Nat) : Prop := ∀ as M r M', am_VS as → call2 c as M = some (r, M') → call1 c as (am_hp M) = some (r, am_hp M') ∧ am_Vr r
section
variable {E : am_E} {call2 : Nat → List am_V → am_M → am_R am_M} {call1 : Nat → List am_V → am_H → am_R am_H} {m : Nat}
theorem am_do_sim (hcall : ∀ c, am_ht c < am_ht m → am_Sim call2 call1 c) {kd c na : Nat} {st : List am_V} {M : am_M} {k : List am_V → am_M → am_R am_M} {R : Option am_V × am_M} (hS : am_VS st) (e : am_do (am_I2 E) call2 m k kd c na st M = some R) :
    ∃ st' M', am_VS st' ∧ k st' M' = some R ∧ ∀ k' : List am_V → am_H → am_R am_H, am_do (am_I1 E) call1 m k' kd c na st (am_hp M) = k' st' (am_hp M') := by
  obtain ⟨b1, b2, b3, b4, r, M', g1, g2, g3⟩ := am_do_some2 e
  have hVas : am_VS (st.take na).reverse := fun v hv => hS v (List.mem_of_mem_take (List.mem_reverse.mp hv))
  obtain ⟨s1, s2⟩ := hcall c b3 _ _ _ _ hVas g1
  refine ⟨r.toList ++ st.drop na, M', fun v hv => ?_, g2, fun k' => ?_⟩
  · rcases List.mem_append.mp hv with h | h
    · exact s2 v (by cases r with | none => cases h | some w => cases h with | head => rfl | tail _ h => cases h)
    · exact hS v (List.mem_of_mem_drop h)
  · have hrc : am_rcv (am_I1 E) (am_hp M) kd c (st.take na).reverse = true := by
      revert b4 hVas
      generalize (st.take na).reverse = as
      intro b4 hVas
      rcases kd with _ | _ | _ | _ | _ | kd
      · rcases as with _ | ⟨_ | (_ | q) | _, As⟩
        · cases b4
        · cases b4
        · cases b4
        · have b4 : (match am_kl2 M q with | some ci => Nat.beq ci (am_ow c) | none => false) = true := b4
          show (match am_kl1 (am_hp M) q with | some ci => Nat.beq ci (am_ow c) | none => false) = true
          cases hk : am_kl2 M q with
          | none => rw [hk] at b4; cases b4
          | some ci =>
            rw [hk] at b4
            rw [am_kl_sim (am_VS_cons.mp hVas).1 hk]
            exact b4
        · cases b4
      · rfl
      · exact b4
      · rfl
      · exact b4
      · rfl
    unfold am_do
    rw [show (Nat.ble na st.length && (Nat.ble (st.length - na) 4 && (Nat.blt (am_ht c) (am_ht m) && am_rcv (am_I1 E) (am_hp M) kd c (st.take na).reverse))) = true by
      rw [hrc, show Nat.ble na st.length = true from Nat.ble_eq_true_of_le b1, show Nat.ble (st.length - na) 4 = true from Nat.ble_eq_true_of_le b2, show Nat.blt (am_ht c) (am_ht m) = true from Nat.ble_eq_true_of_le b3]; rfl]
    show am_bd (am_rk c) (call1 c (st.take na).reverse (am_hp M)) _ = _
    rw [s1]
    exact g3 _ k'
theorem am_h1_sim (hcall : ∀ c, am_ht c < am_ht m → am_Sim call2 call1 c) {i : Instr} {st : List am_V} {M : am_M} {k : List am_V → am_M → am_R am_M} {R : Option am_V × am_M} (hS : am_VS st) (e : am_h1 (am_I2 E) call2 m i st M k = some R) :
    ∃ st' M', am_VS st' ∧ k st' M' = some R ∧ ∀ k' : List am_V → am_H → am_R am_H, am_h1 (am_I1 E) call1 m i st (am_hp M) k' = k' st' (am_hp M') := by
  cases i
  case getfield x =>
    have e : am_gF (am_I2 E) (am_cf (am_ow m) x) st M k = some R := e
    have K : ∀ k', am_h1 (am_I1 E) call1 m (.getfield x) st (am_hp M) k' = am_gF (am_I1 E) (am_cf (am_ow m) x) st (am_hp M) k' := fun _ => rfl
    rcases ht : am_cf (am_ow m) x with _ | ⟨ci, f⟩
    · rw [ht] at e; cases e
    · rw [ht] at e
      rcases st with _ | ⟨_ | (_ | q) | _, r⟩
      case cons.inr.inl.some =>
        have hq := (am_VS_cons.mp hS).1
        have hr := (am_VS_cons.mp hS).2
        cases hg : am_gf2 M q ci f with
        | none =>
          have e2 : am_gF (am_I2 E) (some (ci, f)) (.inr (.inl (some q)) :: r) M k = none := by unfold am_gF; simp only [am_I2, hg]
          rw [e2] at e; cases e
        | some v =>
          have e2 : am_gF (am_I2 E) (some (ci, f)) (.inr (.inl (some q)) :: r) M k = k (v :: r) M := by unfold am_gF; simp only [am_I2, hg]
          rw [e2] at e
          obtain ⟨s1, s2⟩ := am_gf_sim hq hg
          refine ⟨_, M, am_VS_cons.mpr ⟨s2, hr⟩, e, fun k' => ?_⟩
          rw [K, ht]
          unfold am_gF
          simp only [am_I1, s1]
      all_goals cases e
  case putfield x =>
    have e : am_pF (am_I2 E) m (am_cf (am_ow m) x) st M k = some R := e
    have K : ∀ k', am_h1 (am_I1 E) call1 m (.putfield x) st (am_hp M) k' = am_pF (am_I1 E) m (am_cf (am_ow m) x) st (am_hp M) k' := fun _ => rfl
    rcases ht : am_cf (am_ow m) x with _ | ⟨ci, f⟩
    · rw [ht] at e; cases e
    · rw [ht] at e
      rcases st with _ | ⟨v, _ | ⟨_ | (_ | q) | _, r⟩⟩
      case cons.cons.inr.inl.some =>
        obtain ⟨g1, e⟩ := am_if_some (show am_if (am_fo m ci f) (am_if (am_pf2 M q ci f v).1 (k r (am_pf2 M q ci f v).2)) = some R from e)
        obtain ⟨g2, e⟩ := am_if_some e
        have hq := (am_VS_cons.mp (am_VS_cons.mp hS).2).1
        obtain ⟨s1, s2⟩ := am_pf_sim hq g2
        refine ⟨_, _, (am_VS_cons.mp (am_VS_cons.mp hS).2).2, e, fun k' => ?_⟩
        rw [K, ht]
        show am_if (am_fo m ci f) (am_if (am_pf1 (am_hp M) q ci f v).1 (k' r (am_pf1 (am_hp M) q ci f v).2)) = _
        rw [g1, s1, s2]
        rfl
      all_goals cases e
  case iaload =>
    rcases st with _ | ⟨j | _, _ | ⟨_ | (_ | q) | _, r⟩⟩
    case cons.inl.cons.inr.inl.some =>
      obtain ⟨g1, e⟩ := am_if_some (show am_if (am_al2 E M 0 q j).1 (k ((am_al2 E M 0 q j).2 :: r) M) = some R from e)
      obtain ⟨s1, s2, s3⟩ := am_al_sim (am_VS_cons.mp (am_VS_cons.mp hS).2).1 g1
      refine ⟨_, M, am_VS_cons.mpr ⟨s3, (am_VS_cons.mp (am_VS_cons.mp hS).2).2⟩, e, fun k' => ?_⟩
      show am_if (am_al1 E (am_hp M) 0 q j).1 (k' ((am_al1 E (am_hp M) 0 q j).2 :: r) (am_hp M)) = _
      rw [s1, s2]; rfl
    all_goals cases e
  case baload =>
    rcases st with _ | ⟨j | _, _ | ⟨_ | (_ | q) | _, r⟩⟩
    case cons.inl.cons.inr.inl.some =>
      obtain ⟨g1, e⟩ := am_if_some (show am_if (am_al2 E M 1 q j).1 (k ((am_al2 E M 1 q j).2 :: r) M) = some R from e)
      obtain ⟨s1, s2, s3⟩ := am_al_sim (am_VS_cons.mp (am_VS_cons.mp hS).2).1 g1
      refine ⟨_, M, am_VS_cons.mpr ⟨s3, (am_VS_cons.mp (am_VS_cons.mp hS).2).2⟩, e, fun k' => ?_⟩
      show am_if (am_al1 E (am_hp M) 1 q j).1 (k' ((am_al1 E (am_hp M) 1 q j).2 :: r) (am_hp M)) = _
      rw [s1, s2]; rfl
    all_goals cases e
  case aaload =>
    rcases st with _ | ⟨j | _, _ | ⟨_ | (_ | q) | _, r⟩⟩
    case cons.inl.cons.inr.inl.some =>
      obtain ⟨g1, e⟩ := am_if_some (show am_if (am_al2 E M 2 q j).1 (k ((am_al2 E M 2 q j).2 :: r) M) = some R from e)
      obtain ⟨s1, s2, s3⟩ := am_al_sim (am_VS_cons.mp (am_VS_cons.mp hS).2).1 g1
      refine ⟨_, M, am_VS_cons.mpr ⟨s3, (am_VS_cons.mp (am_VS_cons.mp hS).2).2⟩, e, fun k' => ?_⟩
      show am_if (am_al1 E (am_hp M) 2 q j).1 (k' ((am_al1 E (am_hp M) 2 q j).2 :: r) (am_hp M)) = _
      rw [s1, s2]; rfl
    all_goals cases e
  case iastore =>
    rcases st with _ | ⟨v, _ | ⟨j | _, _ | ⟨_ | (_ | q) | _, r⟩⟩⟩
    case cons.cons.inl.cons.inr.inl.some =>
      obtain ⟨g1, e⟩ := am_if_some (show am_if (am_as2 M 0 q j v).1 (k r (am_as2 M 0 q j v).2) = some R from e)
      have h3 := (am_VS_cons.mp (am_VS_cons.mp hS).2).2
      obtain ⟨s1, s2⟩ := am_as_sim (am_VS_cons.mp h3).1 (am_VS_cons.mp hS).1 g1
      refine ⟨_, _, (am_VS_cons.mp h3).2, e, fun k' => ?_⟩
      show am_if (am_as1 (am_hp M) 0 q j v).1 (k' r (am_as1 (am_hp M) 0 q j v).2) = _
      rw [s1, s2]; rfl
    all_goals cases e
  case bastore =>
    rcases st with _ | ⟨v, _ | ⟨j | _, _ | ⟨_ | (_ | q) | _, r⟩⟩⟩
    case cons.cons.inl.cons.inr.inl.some =>
      obtain ⟨g1, e⟩ := am_if_some (show am_if (am_as2 M 1 q j v).1 (k r (am_as2 M 1 q j v).2) = some R from e)
      have h3 := (am_VS_cons.mp (am_VS_cons.mp hS).2).2
      obtain ⟨s1, s2⟩ := am_as_sim (am_VS_cons.mp h3).1 (am_VS_cons.mp hS).1 g1
      refine ⟨_, _, (am_VS_cons.mp h3).2, e, fun k' => ?_⟩
      show am_if (am_as1 (am_hp M) 1 q j v).1 (k' r (am_as1 (am_hp M) 1 q j v).2) = _
      rw [s1, s2]; rfl
    all_goals cases e
  case aastore =>
    rcases st with _ | ⟨v, _ | ⟨j | _, _ | ⟨_ | (_ | q) | _, r⟩⟩⟩
    case cons.cons.inl.cons.inr.inl.some =>
      obtain ⟨g1, e⟩ := am_if_some (show am_if (am_as2 M 2 q j v).1 (k r (am_as2 M 2 q j v).2) = some R from e)
      have h3 := (am_VS_cons.mp (am_VS_cons.mp hS).2).2
      obtain ⟨s1, s2⟩ := am_as_sim (am_VS_cons.mp h3).1 (am_VS_cons.mp hS).1 g1
      refine ⟨_, _, (am_VS_cons.mp h3).2, e, fun k' => ?_⟩
      show am_if (am_as1 (am_hp M) 2 q j v).1 (k' r (am_as1 (am_hp M) 2 q j v).2) = _
      rw [s1, s2]; rfl
    all_goals cases e
  case arraylength =>
    rcases st with _ | ⟨_ | (_ | q) | _, r⟩
    case cons.inr.inl.some =>
      have e : (match am_ln2 E M q with | some x => k (.inl x :: r) M | none => none) = some R := e
      cases hg : am_ln2 E M q with
      | none => rw [hg] at e; cases e
      | some v =>
        rw [hg] at e
        refine ⟨_, M, am_VS_i (am_VS_cons.mp hS).2, e, fun k' => ?_⟩
        show (match am_ln1 E (am_hp M) q with | some x => k' (.inl x :: r) (am_hp M) | none => none) = _
        rw [am_ln_sim (am_VS_cons.mp hS).1 hg]
    all_goals cases e
  case new x =>
    have e : am_nW (am_I2 E) (am_cc (am_ow m) x) st M k = some R := e
    exfalso
    generalize am_cc (am_ow m) x = t at e
    rcases t with _ | ci <;> cases e
  case newarray x =>
    have e : am_nA (am_I2 E) (am_aT x) st M k = some R := e
    exfalso
    generalize am_aT x = t at e
    rcases t with _ | ci
    · cases e
    · rcases st with _ | ⟨_ | _, _⟩ <;> cases e
  case anewarray x =>
    have e : am_nA (am_I2 E) (am_ac (am_cc (am_ow m) x)) st M k = some R := e
    exfalso
    generalize am_ac (am_cc (am_ow m) x) = t at e
    rcases t with _ | ci
    · cases e
    · rcases st with _ | ⟨_ | _, _⟩ <;> cases e
  case invokevirtual x =>
    have e : am_iv (am_I2 E) call2 m (am_cm (am_ow m) x) st M k = some R := e
    have K : ∀ k', am_h1 (am_I1 E) call1 m (.invokevirtual x) st (am_hp M) k' = am_iv (am_I1 E) call1 m (am_cm (am_ow m) x) st (am_hp M) k' := fun _ => rfl
    unfold am_iv at e
    split at e
    · rename_i cc na hcm
      obtain ⟨st', M', g1, g2, g3⟩ := am_do_sim hcall hS e
      exact ⟨st', M', g1, g2, fun k' => by rw [K, hcm]; exact g3 k'⟩
    · cases e
  case invokestatic x =>
    have e : am_is (am_I2 E) call2 m (am_cm (am_ow m) x) st M k = some R := e
    have K : ∀ k', am_h1 (am_I1 E) call1 m (.invokestatic x) st (am_hp M) k' = am_is (am_I1 E) call1 m (am_cm (am_ow m) x) st (am_hp M) k' := fun _ => rfl
    unfold am_is at e
    split at e
    · rename_i cc na hcm
      obtain ⟨st', M', g1, g2, g3⟩ := am_do_sim hcall hS e
      exact ⟨st', M', g1, g2, fun k' => by rw [K, hcm]; exact g3 k'⟩
    · rename_i cc na hcm
      obtain ⟨st', M', g1, g2, g3⟩ := am_do_sim hcall hS e
      exact ⟨st', M', g1, g2, fun k' => by rw [K, hcm]; exact g3 k'⟩
    · cases e
  case invokespecial x =>
    have e : am_ip (am_I2 E) call2 m (am_cm (am_ow m) x) st M k = some R := e
    have K : ∀ k', am_h1 (am_I1 E) call1 m (.invokespecial x) st (am_hp M) k' = am_ip (am_I1 E) call1 m (am_cm (am_ow m) x) st (am_hp M) k' := fun _ => rfl
    unfold am_ip at e
    split at e
    · rename_i cc na hcm
      obtain ⟨st', M', g1, g2, g3⟩ := am_do_sim hcall hS e
      exact ⟨st', M', g1, g2, fun k' => by rw [K, hcm]; exact g3 k'⟩
    · rename_i cc na hcm
      obtain ⟨st', M', g1, g2, g3⟩ := am_do_sim hcall hS e
      exact ⟨st', M', g1, g2, fun k' => by rw [K, hcm]; exact g3 k'⟩
    · rename_i c5 na hcm
      rcases st with _ | ⟨_ | (_ | q) | _, r⟩
      · cases e
      · cases e
      · cases e
      · obtain ⟨g1, e⟩ := am_if_some (show am_if (Nat.blt q.1 95 && Nat.ble r.length 4) (k r M) = some R from e)
        refine ⟨r, M, (am_VS_cons.mp hS).2, e, fun k' => ?_⟩
        rw [K, hcm]
        show am_if (Nat.blt q.1 95 && Nat.ble r.length 4) (k' r (am_hp M)) = _
        rw [g1]; rfl
      · cases e
    · cases e
  all_goals cases e
theorem am_F_sim (hcall : ∀ c, am_ht c < am_ht m → am_Sim call2 call1 c) : ∀ (n pc : Nat) (ls : am_L) (st : List am_V) (M : am_M) (r : Option am_V) (M' : am_M), am_VL ls → am_VS st → am_F (am_I2 E) call2 m n pc ls st M = some (r, M') → am_F (am_I1 E) call1 m n pc ls st (am_hp M) = some (r, am_hp M') ∧ am_Vr r := by
  intro n
  induction n with
  | zero => intro pc ls st M r M' _ _ e; cases e
  | succ n ih =>
    intro pc ls st M r M' hL hS e
    have e : am_st (am_I2 E) call2 m (am_F (am_I2 E) call2 m n) pc ls st M = some (r, M') := e
    show am_st (am_I1 E) call1 m (am_F (am_I1 E) call1 m n) pc ls st (am_hp M) = some (r, am_hp M') ∧ am_Vr r
    unfold am_st at e ⊢
    rcases hat : am_at m pc with _ | ⟨i, k⟩
    · rw [hat] at e; cases e
    · rw [hat] at e
      have e : am_si (am_I2 E) call2 m i k (am_F (am_I2 E) call2 m n) pc ls st M = some (r, M') := e
      show am_si (am_I1 E) call1 m i k (am_F (am_I1 E) call1 m n) pc ls st (am_hp M) = some (r, am_hp M') ∧ am_Vr r
      unfold am_si at e ⊢
      have pure0 : (match am_pu (am_ow m) i ls st with | some (ls', st') => am_F (am_I2 E) call2 m n (pc + k) ls' st' M | none => none) = some (r, M') → (match am_pu (am_ow m) i ls st with | some (ls', st') => am_F (am_I1 E) call1 m n (pc + k) ls' st' (am_hp M) | none => none) = some (r, am_hp M') ∧ am_Vr r := by
        intro e
        rcases hp : am_pu (am_ow m) i ls st with _ | ⟨l', s'⟩
        · rw [hp] at e; cases e
        · rw [hp] at e
          obtain ⟨v1, v2⟩ := am_pu_V hp hL hS
          exact ih _ _ _ _ _ _ v1 v2 e
      generalize am_kd i = kd at e ⊢
      rcases kd with _ | _ | _ | _ | kd
      · exact pure0 e
      · obtain ⟨st', M1, g1, g2, g3⟩ := am_h1_sim hcall hS e
        have h9 := g3 (fun st' h' => am_F (am_I1 E) call1 m n (pc + k) ls st' h')
        show am_h1 (am_I1 E) call1 m i st (am_hp M) (fun st' h' => am_F (am_I1 E) call1 m n (pc + k) ls st' h') = _ ∧ _
        rw [h9]
        exact ih _ _ _ _ _ _ hL g1 g2
      · obtain ⟨a, b, g1, g2, g3⟩ := am_h2_sim (H1 := am_H) e
        have h9 := g3 (fun pc' st' => am_F (am_I1 E) call1 m n pc' ls st' (am_hp M))
        show am_h2 i pc k st (fun pc' st' => am_F (am_I1 E) call1 m n pc' ls st' (am_hp M)) = _ ∧ _
        rw [h9]
        exact ih _ _ _ _ _ _ hL (fun v hv => hS v (g1 v hv)) g2
      · have e : am_h3 m i st M = some (r, M') := e
        show am_h3 m i st (am_hp M) = some (r, am_hp M') ∧ am_Vr r
        cases i
        case ireturn =>
          rcases st with _ | ⟨x | _, _ | _⟩
          · cases e
          · obtain ⟨g1, e⟩ := am_if_some (show am_if (am_rz (am_rk m) x) (some (some (.inl x), M)) = some (r, M') from e)
            cases e
            exact ⟨by show am_if (am_rz (am_rk m) x) (some (some (Sum.inl x : am_V), am_hp M)) = _; rw [g1]; rfl, fun v hv => by cases hv; exact trivial⟩
          · cases e
          · cases e
          · cases e
        case areturn =>
          rcases st with _ | ⟨_ | x | _, _ | _⟩
          case cons.inr.inl.nil =>
            obtain ⟨g1, e⟩ := am_if_some (show am_if (Nat.beq (am_rk m) 3) (some (some (.inr (.inl x)), M)) = some (r, M') from e)
            cases e
            exact ⟨by show am_if (Nat.beq (am_rk m) 3) (some (some (Sum.inr (Sum.inl x) : am_V), am_hp M)) = _; rw [g1]; rfl, fun v hv => by cases hv; exact (am_VS_cons.mp hS).1⟩
          all_goals cases e
        case return_ =>
          rcases st with _ | ⟨_, _⟩
          · obtain ⟨g1, e⟩ := am_if_some (show am_if (Nat.beq (am_rk m) 0) (some (none, M)) = some (r, M') from e)
            cases e
            exact ⟨by show am_if (Nat.beq (am_rk m) 0) (some (none, am_hp M)) = _; rw [g1]; rfl, fun v hv => by cases hv⟩
          · cases e
        all_goals cases e
      · exact pure0 e
end
theorem am_VL_en {m : Nat} {as : List am_V} (h : am_VS as) : am_VL (am_en m as) := by
  intro i v hi
  unfold am_en at hi
  rw [List.getElem?_append] at hi
  split at hi
  · rw [List.getElem?_map] at hi
    cases h9 : as[i]? with
    | none => rw [h9] at hi; cases hi
    | some w => rw [h9] at hi; cases hi; exact h _ (List.mem_of_getElem? h9)
  · rw [List.getElem?_replicate] at hi
    split at hi <;> cases hi
/-- A RUN OVER THE MEMORY IS A RUN OVER THE HEAP IT PICTURES -/
theorem am_run_sim (E : am_E) : ∀ (d m : Nat), am_ht m < d → am_Sim (am_run (am_I2 E)) (am_run (am_I1 E)) m := by
  intro d
  induction d with
  | zero => intro m hm; exact absurd hm (Nat.not_lt_zero _)
  | succ d ih =>
    intro m hmd as M r M' hV e
    by_cases h0 : 0 < am_ht m
    · cases hn : Nat.beq m mI_Mo_in with
      | true =>
        have := Nat.eq_of_beq_eq_true hn
        subst this
        have e : am_nt as M = some (r, M') := e
        show am_nt as (am_hp M) = some (r, am_hp M') ∧ am_Vr r
        unfold am_nt at e ⊢
        split at e
        · cases e
          exact ⟨rfl, fun v hv => by cases hv; exact trivial⟩
        · cases e
      | false =>
        rw [am_run_eq (am_I2 E) m h0 hn] at e
        obtain ⟨g1, e⟩ := am_if_some e
        obtain ⟨n, e⟩ := am_X_ex e
        obtain ⟨s1, s2⟩ := am_F_sim (m := m) (E := E) (call1 := am_run (am_I1 E)) (fun c hc => ih c (by omega)) n _ _ _ _ _ _ (am_VL_en hV) (fun v hv => by cases hv) e
        refine ⟨?_, s2⟩
        rw [am_run_eq (am_I1 E) m h0 hn, g1]
        exact am_X_of s1
    · exfalso
      unfold am_run at e
      rw [show am_ht m = 0 by omega] at e
      cases e
end
section
/-! the law's entry: what the Statement gives of the start makes a place z (the skeleton's own rows first) -/
def R_law : String := "MixedRulesLaw"
def lw_P (b : Addr) (xs : List Int32) (args : Array Value) (s : State) : Prop := args = #[.ref b] ∧ s.IntsAt b xs ∧ xs.length ≤ 2048 ∧ (Jvm.Cond.and given_1 narrow_1).before args s = true
def lw_Q (_ : Array Value) (s : State) (o : Outcome) (t : State) : Prop := o = .returned (some (.int 1)) ∧ Framed s o t [] 600000 7302250
def lw_Z (below : List Frame) (a : Array Value) (s : State) : State → Prop := fun t => ∃ o, t.status = .running ∧ Ended t below o ∧ lw_Q a s o t
/-- the law's own end, with 1 on the stack, nothing written that was there before, its room as the claim has it -/
theorem lw_ret {p : Program} {l : Launch} {e : Env} {s : State} {m : MethodId} {below : List Frame} {meth : Method} {c : Code} {b : Nat} (hx : p.tables.exec = Jvm.exec) (hb : c.code = code) (hr : meth.sig.returnType = ret) (hlocks : meth.locks = false) {pc : Nat} {H : Heap} {ls : Array Slot} (hdg : decode code pc = .ok (.ireturn, 1)) : W p l e room_1 s m #[Value.ref b] below meth c H [] 600000 7302250 (lw_Z below #[Value.ref b] s) (F0 m pc ls [.int 1]) := by
  intro T hT X
  obtain ⟨fs, hret, hrun, hended, hW, hframe⟩ := X.leave (v := some (.int 1)) (hlocks := hlocks) (fun h => by rw [hr] at h; cases h)
  have hmeth' : T.vm.method? m = some meth := X.method'
  refine ⟨T.setFrames fs, ?_, .returned (some (.int 1)), hrun, hended, rfl, ⟨_, rfl⟩, hW, hframe⟩
  jvm_step X.here [X.here.top, hx, hb, hdg, hmeth', hr, ret, narrow_b1]
  (try refine ⟨rfl, ?_⟩); (try refine ⟨rfl, ?_⟩)
  first | (intro acts; rw [hret _ acts rfl rfl rfl]) | rw [hret _ _ rfl rfl rfl]
  exact Steps.refl _
/-- what holds at the law's entry: the machine, the code, the tables' words (any of lw_tbl by 'hts w (by decide +kernel)'), the script of L ints xs at the cell b, what the Statement gives of the start (any of its parts by flat_of_before) -/
def lw_At (p : Program) (s : State) (m : MethodId) (meth : Method) (c : Code) (b L : Nat) (xs : Nat → Int32) : Prop :=
  p.tables.exec = Jvm.exec ∧ c.code = code ∧ meth.sig.returnType = ret ∧ c.maxLocals = 4 ∧ s.vm.findClass R_law = some m.cls ∧ (∀ w ∈ lw_tbl, w.before #[Value.ref b] s = true) ∧ va_X b L xs s s.heap ∧ b < s.heap.size ∧ meth.locks = false ∧ (Jvm.Cond.and given_1 narrow_1).before #[Value.ref b] s = true

def am_stm (i : Nat) : Term := .string "MixedRules$Reader" ((am_six.getD i (0, "")).1)
set_option maxRecDepth 100000 in
set_option maxHeartbeats 4000000 in
theorem am_start {p : Program} {s : State} {m : MethodId} {meth : Method} {c : Code} {b L : Nat} {xs : Nat → Int32} (C0 : lw_At p s m meth c b L xs) : ∃ z : am_N, z.1 = s.heap.size ∧ z.2.2.1 = b ∧ az_E z = (L, xs) ∧ am_Xt z s := by
  obtain ⟨hx, hb, hr, hml, hown, hts, hX, hbl, hlocks, hgv⟩ := C0
  have hs := flat_of_before _ hgv
  have hA : ∀ a : Nat, a < s.heap.size → ¬ (fun q : Nat => s.heap.size ≤ q) a := fun a h => Nat.not_le.mpr h
  have htG : ∀ w ∈ lw_G, w.before #[Value.ref b] s = true := fun w h => hts w (List.mem_filter.mp h).1
  have hk0 : ∀ ci : Nat, ∃ x : ClassId × (Nat → Nat), ci < 10 → u_Kn s (am_cn ci) (am_T ci) (am_nf ci) x.1 x.2 := by
    intro ci
    by_cases hc : ci < 10
    · obtain ⟨k1, k2, -⟩ := am_cls hc
      obtain ⟨cC, iS, hK⟩ := u_known (C := am_cn ci) (T := am_T ci) (N := am_nf ci) (n := am_nf ci) htG k2 (hts _ (am_wi_in (List.all_eq_true.mp am_insts ci (List.mem_range.mpr hc))))
      exact ⟨(cC, iS), fun _ => hK⟩
    · exact ⟨(0, fun _ => 0), fun h => absurd h hc⟩
  obtain ⟨fD, hfD⟩ := Classical.axiomOfChoice hk0
  obtain ⟨cI, kI, compI, i1, i2, i3⟩ := Cond.arrayClass_spec (hts _ am_arI)
  obtain ⟨cZ, kZ, compZ, z1, z2, z3⟩ := Cond.arrayClass_spec (hts _ am_arZ)
  have hAF : va_AO "MixedRules$Flow" s := va_AO.of (hts (.arrayOver (.object "MixedRules$Flow")) (List.mem_of_getElem? (i := 67) (by decide +kernel)))
  have hAL : va_AO "MixedRules$Letter" s := va_AO.of (hts (.arrayOver (.object "MixedRules$Letter")) (List.mem_of_getElem? (i := 238) (by decide +kernel)))
  obtain ⟨compF, cF, kF, f1, f2, f3, f4, f5⟩ := Cond.arrayOver_spec hAF
  obtain ⟨compL, cL, kL, l1, l2, l3, l4, l5⟩ := Cond.arrayOver_spec hAL
  have sEx : ∀ i : Nat, i < 6 → (Cond.exactly (am_stm i) "java/lang/String").before #[Value.ref b] s = true := by
    intro i hi
    match i, hi with
    | 0, _ => exact hs (.exactly (.string "MixedRules$Reader" 116) "java/lang/String") (by decide +kernel)
    | 1, _ => exact hs (.exactly (.string "MixedRules$Reader" 117) "java/lang/String") (by decide +kernel)
    | 2, _ => exact hs (.exactly (.string "MixedRules$Reader" 119) "java/lang/String") (by decide +kernel)
    | 3, _ => exact hs (.exactly (.string "MixedRules$Reader" 121) "java/lang/String") (by decide +kernel)
    | 4, _ => exact hs (.exactly (.string "MixedRules$Reader" 123) "java/lang/String") (by decide +kernel)
    | 5, _ => exact hs (.exactly (.string "MixedRules$Reader" 125) "java/lang/String") (by decide +kernel)
    | n + 6, h => exact absurd h (by omega)
  have sCo : ∀ i : Nat, i < 6 → (Cond.eq (.field (am_stm i) "java/lang/String" "coder" "B") (.int 0)).before #[Value.ref b] s = true := by
    intro i hi
    match i, hi with
    | 0, _ => exact hs (.eq (.field (.string "MixedRules$Reader" 116) "java/lang/String" "coder" "B") (.int 0)) (by decide +kernel)
    | 1, _ => exact hs (.eq (.field (.string "MixedRules$Reader" 117) "java/lang/String" "coder" "B") (.int 0)) (by decide +kernel)
    | 2, _ => exact hs (.eq (.field (.string "MixedRules$Reader" 119) "java/lang/String" "coder" "B") (.int 0)) (by decide +kernel)
    | 3, _ => exact hs (.eq (.field (.string "MixedRules$Reader" 121) "java/lang/String" "coder" "B") (.int 0)) (by decide +kernel)
    | 4, _ => exact hs (.eq (.field (.string "MixedRules$Reader" 123) "java/lang/String" "coder" "B") (.int 0)) (by decide +kernel)
    | 5, _ => exact hs (.eq (.field (.string "MixedRules$Reader" 125) "java/lang/String" "coder" "B") (.int 0)) (by decide +kernel)
    | n + 6, h => exact absurd h (by omega)
  have sAr : ∀ i : Nat, i < 6 → (Cond.arrayOf (.field (am_stm i) "java/lang/String" "value" "[B") .byte).before #[Value.ref b] s = true := by
    intro i hi
    match i, hi with
    | 0, _ => exact hs (.arrayOf (.field (.string "MixedRules$Reader" 116) "java/lang/String" "value" "[B") .byte) (by decide +kernel)
    | 1, _ => exact hs (.arrayOf (.field (.string "MixedRules$Reader" 117) "java/lang/String" "value" "[B") .byte) (by decide +kernel)
    | 2, _ => exact hs (.arrayOf (.field (.string "MixedRules$Reader" 119) "java/lang/String" "value" "[B") .byte) (by decide +kernel)
    | 3, _ => exact hs (.arrayOf (.field (.string "MixedRules$Reader" 121) "java/lang/String" "value" "[B") .byte) (by decide +kernel)
    | 4, _ => exact hs (.arrayOf (.field (.string "MixedRules$Reader" 123) "java/lang/String" "value" "[B") .byte) (by decide +kernel)
    | 5, _ => exact hs (.arrayOf (.field (.string "MixedRules$Reader" 125) "java/lang/String" "value" "[B") .byte) (by decide +kernel)
    | n + 6, h => exact absurd h (by omega)
  have sLe : ∀ i : Nat, i < 6 → (Cond.eq (.length (.field (am_stm i) "java/lang/String" "value" "[B")) (.int (Int32.ofNat (am_wl.getD i 0)))).before #[Value.ref b] s = true := by
    intro i hi
    match i, hi with
    | 0, _ => exact hs (.eq (.length (.field (.string "MixedRules$Reader" 116) "java/lang/String" "value" "[B")) (.int 3)) (by decide +kernel)
    | 1, _ => exact hs (.eq (.length (.field (.string "MixedRules$Reader" 117) "java/lang/String" "value" "[B")) (.int 4)) (by decide +kernel)
    | 2, _ => exact hs (.eq (.length (.field (.string "MixedRules$Reader" 119) "java/lang/String" "value" "[B")) (.int 4)) (by decide +kernel)
    | 3, _ => exact hs (.eq (.length (.field (.string "MixedRules$Reader" 121) "java/lang/String" "value" "[B")) (.int 4)) (by decide +kernel)
    | 4, _ => exact hs (.eq (.length (.field (.string "MixedRules$Reader" 123) "java/lang/String" "value" "[B")) (.int 3)) (by decide +kernel)
    | 5, _ => exact hs (.eq (.length (.field (.string "MixedRules$Reader" 125) "java/lang/String" "value" "[B")) (.int 3)) (by decide +kernel)
    | n + 6, h => exact absurd h (by omega)
  have sEl : ∀ i : Nat, i < 6 → ∀ j : Nat, j < am_wl.getD i 0 → (Cond.eq (.elem (.field (am_stm i) "java/lang/String" "value" "[B") (.int (Int32.ofNat j))) (.int ((am_wd.getD i []).getD j 0))).before #[Value.ref b] s = true := by
    intro i hi j hj
    match i, hi, j, hj with
    | 0, _, 0, _ => exact hs (.eq (.elem (.field (.string "MixedRules$Reader" 116) "java/lang/String" "value" "[B") (.int 0)) (.int 110)) (by decide +kernel)
    | 0, _, 1, _ => exact hs (.eq (.elem (.field (.string "MixedRules$Reader" 116) "java/lang/String" "value" "[B") (.int 1)) (.int 101)) (by decide +kernel)
    | 0, _, 2, _ => exact hs (.eq (.elem (.field (.string "MixedRules$Reader" 116) "java/lang/String" "value" "[B") (.int 2)) (.int 116)) (by decide +kernel)
    | 0, _, n + 3, h => exact absurd h (by simp [am_wl])
    | 1, _, 0, _ => exact hs (.eq (.elem (.field (.string "MixedRules$Reader" 117) "java/lang/String" "value" "[B") (.int 0)) (.int 108)) (by decide +kernel)
    | 1, _, 1, _ => exact hs (.eq (.elem (.field (.string "MixedRules$Reader" 117) "java/lang/String" "value" "[B") (.int 1)) (.int 105)) (by decide +kernel)
    | 1, _, 2, _ => exact hs (.eq (.elem (.field (.string "MixedRules$Reader" 117) "java/lang/String" "value" "[B") (.int 2)) (.int 110)) (by decide +kernel)
    | 1, _, 3, _ => exact hs (.eq (.elem (.field (.string "MixedRules$Reader" 117) "java/lang/String" "value" "[B") (.int 3)) (.int 107)) (by decide +kernel)
    | 1, _, n + 4, h => exact absurd h (by simp [am_wl])
    | 2, _, 0, _ => exact hs (.eq (.elem (.field (.string "MixedRules$Reader" 119) "java/lang/String" "value" "[B") (.int 0)) (.int 102)) (by decide +kernel)
    | 2, _, 1, _ => exact hs (.eq (.elem (.field (.string "MixedRules$Reader" 119) "java/lang/String" "value" "[B") (.int 1)) (.int 108)) (by decide +kernel)
    | 2, _, 2, _ => exact hs (.eq (.elem (.field (.string "MixedRules$Reader" 119) "java/lang/String" "value" "[B") (.int 2)) (.int 111)) (by decide +kernel)
    | 2, _, 3, _ => exact hs (.eq (.elem (.field (.string "MixedRules$Reader" 119) "java/lang/String" "value" "[B") (.int 3)) (.int 119)) (by decide +kernel)
    | 2, _, n + 4, h => exact absurd h (by simp [am_wl])
    | 3, _, 0, _ => exact hs (.eq (.elem (.field (.string "MixedRules$Reader" 121) "java/lang/String" "value" "[B") (.int 0)) (.int 112)) (by decide +kernel)
    | 3, _, 1, _ => exact hs (.eq (.elem (.field (.string "MixedRules$Reader" 121) "java/lang/String" "value" "[B") (.int 1)) (.int 111)) (by decide +kernel)
    | 3, _, 2, _ => exact hs (.eq (.elem (.field (.string "MixedRules$Reader" 121) "java/lang/String" "value" "[B") (.int 2)) (.int 115)) (by decide +kernel)
    | 3, _, 3, _ => exact hs (.eq (.elem (.field (.string "MixedRules$Reader" 121) "java/lang/String" "value" "[B") (.int 3)) (.int 116)) (by decide +kernel)
    | 3, _, n + 4, h => exact absurd h (by simp [am_wl])
    | 4, _, 0, _ => exact hs (.eq (.elem (.field (.string "MixedRules$Reader" 123) "java/lang/String" "value" "[B") (.int 0)) (.int 111)) (by decide +kernel)
    | 4, _, 1, _ => exact hs (.eq (.elem (.field (.string "MixedRules$Reader" 123) "java/lang/String" "value" "[B") (.int 1)) (.int 108)) (by decide +kernel)
    | 4, _, 2, _ => exact hs (.eq (.elem (.field (.string "MixedRules$Reader" 123) "java/lang/String" "value" "[B") (.int 2)) (.int 100)) (by decide +kernel)
    | 4, _, n + 3, h => exact absurd h (by simp [am_wl])
    | 5, _, 0, _ => exact hs (.eq (.elem (.field (.string "MixedRules$Reader" 125) "java/lang/String" "value" "[B") (.int 0)) (.int 110)) (by decide +kernel)
    | 5, _, 1, _ => exact hs (.eq (.elem (.field (.string "MixedRules$Reader" 125) "java/lang/String" "value" "[B") (.int 1)) (.int 101)) (by decide +kernel)
    | 5, _, 2, _ => exact hs (.eq (.elem (.field (.string "MixedRules$Reader" 125) "java/lang/String" "value" "[B") (.int 2)) (.int 119)) (by decide +kernel)
    | 5, _, n + 3, h => exact absurd h (by simp [am_wl])
    | n + 6, h, _, _ => exact absurd h (by omega)
  have sNe : ∀ i j : Nat, i < 6 → j < 6 → i ≠ j → (Cond.not (Cond.eq (am_stm i) (am_stm j))).before #[Value.ref b] s = true ∨ (Cond.not (Cond.eq (am_stm j) (am_stm i))).before #[Value.ref b] s = true := by
    intro i j hi hj hij
    match i, hi, j, hj with
    | 0, _, 0, _ => exact absurd rfl hij
    | 0, _, 1, _ => exact Or.inl (hs (.not (.eq (.string "MixedRules$Reader" 116) (.string "MixedRules$Reader" 117))) (by decide +kernel))
    | 0, _, 2, _ => exact Or.inl (hs (.not (.eq (.string "MixedRules$Reader" 116) (.string "MixedRules$Reader" 119))) (by decide +kernel))
    | 0, _, 3, _ => exact Or.inl (hs (.not (.eq (.string "MixedRules$Reader" 116) (.string "MixedRules$Reader" 121))) (by decide +kernel))
    | 0, _, 4, _ => exact Or.inl (hs (.not (.eq (.string "MixedRules$Reader" 116) (.string "MixedRules$Reader" 123))) (by decide +kernel))
    | 0, _, 5, _ => exact Or.inl (hs (.not (.eq (.string "MixedRules$Reader" 116) (.string "MixedRules$Reader" 125))) (by decide +kernel))
    | 0, _, n + 6, h => exact absurd h (by omega)
    | 1, _, 0, _ => exact Or.inr (hs (.not (.eq (.string "MixedRules$Reader" 116) (.string "MixedRules$Reader" 117))) (by decide +kernel))
    | 1, _, 1, _ => exact absurd rfl hij
    | 1, _, 2, _ => exact Or.inl (hs (.not (.eq (.string "MixedRules$Reader" 117) (.string "MixedRules$Reader" 119))) (by decide +kernel))
    | 1, _, 3, _ => exact Or.inl (hs (.not (.eq (.string "MixedRules$Reader" 117) (.string "MixedRules$Reader" 121))) (by decide +kernel))
    | 1, _, 4, _ => exact Or.inl (hs (.not (.eq (.string "MixedRules$Reader" 117) (.string "MixedRules$Reader" 123))) (by decide +kernel))
    | 1, _, 5, _ => exact Or.inl (hs (.not (.eq (.string "MixedRules$Reader" 117) (.string "MixedRules$Reader" 125))) (by decide +kernel))
    | 1, _, n + 6, h => exact absurd h (by omega)
    | 2, _, 0, _ => exact Or.inr (hs (.not (.eq (.string "MixedRules$Reader" 116) (.string "MixedRules$Reader" 119))) (by decide +kernel))
    | 2, _, 1, _ => exact Or.inr (hs (.not (.eq (.string "MixedRules$Reader" 117) (.string "MixedRules$Reader" 119))) (by decide +kernel))
    | 2, _, 2, _ => exact absurd rfl hij
    | 2, _, 3, _ => exact Or.inl (hs (.not (.eq (.string "MixedRules$Reader" 119) (.string "MixedRules$Reader" 121))) (by decide +kernel))
    | 2, _, 4, _ => exact Or.inl (hs (.not (.eq (.string "MixedRules$Reader" 119) (.string "MixedRules$Reader" 123))) (by decide +kernel))
    | 2, _, 5, _ => exact Or.inl (hs (.not (.eq (.string "MixedRules$Reader" 119) (.string "MixedRules$Reader" 125))) (by decide +kernel))
    | 2, _, n + 6, h => exact absurd h (by omega)
    | 3, _, 0, _ => exact Or.inr (hs (.not (.eq (.string "MixedRules$Reader" 116) (.string "MixedRules$Reader" 121))) (by decide +kernel))
    | 3, _, 1, _ => exact Or.inr (hs (.not (.eq (.string "MixedRules$Reader" 117) (.string "MixedRules$Reader" 121))) (by decide +kernel))
    | 3, _, 2, _ => exact Or.inr (hs (.not (.eq (.string "MixedRules$Reader" 119) (.string "MixedRules$Reader" 121))) (by decide +kernel))
    | 3, _, 3, _ => exact absurd rfl hij
    | 3, _, 4, _ => exact Or.inl (hs (.not (.eq (.string "MixedRules$Reader" 121) (.string "MixedRules$Reader" 123))) (by decide +kernel))
    | 3, _, 5, _ => exact Or.inl (hs (.not (.eq (.string "MixedRules$Reader" 121) (.string "MixedRules$Reader" 125))) (by decide +kernel))
    | 3, _, n + 6, h => exact absurd h (by omega)
    | 4, _, 0, _ => exact Or.inr (hs (.not (.eq (.string "MixedRules$Reader" 116) (.string "MixedRules$Reader" 123))) (by decide +kernel))
    | 4, _, 1, _ => exact Or.inr (hs (.not (.eq (.string "MixedRules$Reader" 117) (.string "MixedRules$Reader" 123))) (by decide +kernel))
    | 4, _, 2, _ => exact Or.inr (hs (.not (.eq (.string "MixedRules$Reader" 119) (.string "MixedRules$Reader" 123))) (by decide +kernel))
    | 4, _, 3, _ => exact Or.inr (hs (.not (.eq (.string "MixedRules$Reader" 121) (.string "MixedRules$Reader" 123))) (by decide +kernel))
    | 4, _, 4, _ => exact absurd rfl hij
    | 4, _, 5, _ => exact Or.inl (hs (.not (.eq (.string "MixedRules$Reader" 123) (.string "MixedRules$Reader" 125))) (by decide +kernel))
    | 4, _, n + 6, h => exact absurd h (by omega)
    | 5, _, 0, _ => exact Or.inr (hs (.not (.eq (.string "MixedRules$Reader" 116) (.string "MixedRules$Reader" 125))) (by decide +kernel))
    | 5, _, 1, _ => exact Or.inr (hs (.not (.eq (.string "MixedRules$Reader" 117) (.string "MixedRules$Reader" 125))) (by decide +kernel))
    | 5, _, 2, _ => exact Or.inr (hs (.not (.eq (.string "MixedRules$Reader" 119) (.string "MixedRules$Reader" 125))) (by decide +kernel))
    | 5, _, 3, _ => exact Or.inr (hs (.not (.eq (.string "MixedRules$Reader" 121) (.string "MixedRules$Reader" 125))) (by decide +kernel))
    | 5, _, 4, _ => exact Or.inr (hs (.not (.eq (.string "MixedRules$Reader" 123) (.string "MixedRules$Reader" 125))) (by decide +kernel))
    | 5, _, 5, _ => exact absurd rfl hij
    | 5, _, n + 6, h => exact absurd h (by omega)
    | n + 6, h, _, _ => exact absurd h (by omega)
  have sN : ∀ i : Nat, i < 6 → am_wl.getD i 0 < 2 ^ 31 := by decide
  obtain ⟨adK, adV, hSt, hStv⟩ := vk_Sof (N := 6) (tm := am_stm) (len := am_wl) (byt := am_wd) (A := fun q : Nat => s.heap.size ≤ q) sN sEx sCo sAr sLe sEl sNe hA
  have hRs : ∀ (i : Nat) (q : Nat × String), am_six[i]? = some q → vk_R "MixedRules$Reader" q.1 q.2 (adK i) s := by
    intro i q hq
    match i, hq with
    | 0, hq => cases hq; exact vk_R.of (hts (.stringRef "MixedRules$Reader" 116 "net") (List.mem_of_getElem? (i := 414) (by decide +kernel))) (hStv 0 (by omega))
    | 1, hq => cases hq; exact vk_R.of (hts (.stringRef "MixedRules$Reader" 117 "link") (List.mem_of_getElem? (i := 415) (by decide +kernel))) (hStv 1 (by omega))
    | 2, hq => cases hq; exact vk_R.of (hts (.stringRef "MixedRules$Reader" 119 "flow") (List.mem_of_getElem? (i := 416) (by decide +kernel))) (hStv 2 (by omega))
    | 3, hq => cases hq; exact vk_R.of (hts (.stringRef "MixedRules$Reader" 121 "post") (List.mem_of_getElem? (i := 417) (by decide +kernel))) (hStv 3 (by omega))
    | 4, hq => cases hq; exact vk_R.of (hts (.stringRef "MixedRules$Reader" 123 "old") (List.mem_of_getElem? (i := 418) (by decide +kernel))) (hStv 4 (by omega))
    | 5, hq => cases hq; exact vk_R.of (hts (.stringRef "MixedRules$Reader" 125 "new") (List.mem_of_getElem? (i := 419) (by decide +kernel))) (hStv 5 (by omega))
    | n + 6, hq => cases hq
  have oEl : ∀ j : Nat, j < 18 → (Term.elem (.static "MixedRules" "ORDERS" "[I") (.int (Int32.ofNat j))).eval #[Value.ref b] s none [] s = some (.int (am_or.getD j 0)) := by
    intro j hj
    match j, hj with
    | 0, _ => exact va_eqt (hs (.eq (.elem (.static "MixedRules" "ORDERS" "[I") (.int 0)) (.int 0)) (by decide +kernel))
    | 1, _ => exact va_eqt (hs (.eq (.elem (.static "MixedRules" "ORDERS" "[I") (.int 1)) (.int 1)) (by decide +kernel))
    | 2, _ => exact va_eqt (hs (.eq (.elem (.static "MixedRules" "ORDERS" "[I") (.int 2)) (.int 2)) (by decide +kernel))
    | 3, _ => exact va_eqt (hs (.eq (.elem (.static "MixedRules" "ORDERS" "[I") (.int 3)) (.int 0)) (by decide +kernel))
    | 4, _ => exact va_eqt (hs (.eq (.elem (.static "MixedRules" "ORDERS" "[I") (.int 4)) (.int 2)) (by decide +kernel))
    | 5, _ => exact va_eqt (hs (.eq (.elem (.static "MixedRules" "ORDERS" "[I") (.int 5)) (.int 1)) (by decide +kernel))
    | 6, _ => exact va_eqt (hs (.eq (.elem (.static "MixedRules" "ORDERS" "[I") (.int 6)) (.int 1)) (by decide +kernel))
    | 7, _ => exact va_eqt (hs (.eq (.elem (.static "MixedRules" "ORDERS" "[I") (.int 7)) (.int 0)) (by decide +kernel))
    | 8, _ => exact va_eqt (hs (.eq (.elem (.static "MixedRules" "ORDERS" "[I") (.int 8)) (.int 2)) (by decide +kernel))
    | 9, _ => exact va_eqt (hs (.eq (.elem (.static "MixedRules" "ORDERS" "[I") (.int 9)) (.int 1)) (by decide +kernel))
    | 10, _ => exact va_eqt (hs (.eq (.elem (.static "MixedRules" "ORDERS" "[I") (.int 10)) (.int 2)) (by decide +kernel))
    | 11, _ => exact va_eqt (hs (.eq (.elem (.static "MixedRules" "ORDERS" "[I") (.int 11)) (.int 0)) (by decide +kernel))
    | 12, _ => exact va_eqt (hs (.eq (.elem (.static "MixedRules" "ORDERS" "[I") (.int 12)) (.int 2)) (by decide +kernel))
    | 13, _ => exact va_eqt (hs (.eq (.elem (.static "MixedRules" "ORDERS" "[I") (.int 13)) (.int 0)) (by decide +kernel))
    | 14, _ => exact va_eqt (hs (.eq (.elem (.static "MixedRules" "ORDERS" "[I") (.int 14)) (.int 1)) (by decide +kernel))
    | 15, _ => exact va_eqt (hs (.eq (.elem (.static "MixedRules" "ORDERS" "[I") (.int 15)) (.int 2)) (by decide +kernel))
    | 16, _ => exact va_eqt (hs (.eq (.elem (.static "MixedRules" "ORDERS" "[I") (.int 16)) (.int 1)) (by decide +kernel))
    | 17, _ => exact va_eqt (hs (.eq (.elem (.static "MixedRules" "ORDERS" "[I") (.int 17)) (.int 0)) (by decide +kernel))
    | n + 18, h => exact absurd h (by omega)
  obtain ⟨tO, hOv, hOT⟩ := va_Tof (tm := .static "MixedRules" "ORDERS" "[I") (ty := .int) (N := 18) (f := fun j => .int (am_or.getD j 0)) (A := fun q : Nat => s.heap.size ≤ q) (by decide) (hs (.arrayOf (.static "MixedRules" "ORDERS" "[I") .int) (by decide +kernel)) (va_eqt (hs (.eq (.length (.static "MixedRules" "ORDERS" "[I")) (.int 18)) (by decide +kernel))) oEl hA
  have hOZ := va_Zof (C := "MixedRules") (n := "ORDERS") (d := "[I") (A := fun q : Nat => s.heap.size ≤ q) (hts (.laysStatic "MixedRules" "ORDERS" "[I") (List.mem_of_getElem? (i := 834) (by decide +kernel))) (hts (.initialized "MixedRules") (List.mem_of_getElem? (i := 36) (by decide +kernel))) hOv hA
  have hCZ := va_Zof (C := "java/lang/String") (n := "COMPACT_STRINGS") (d := "Z") (A := fun q : Nat => s.heap.size ≤ q) (hts (.laysStatic "java/lang/String" "COMPACT_STRINGS" "Z") (List.mem_of_getElem? (i := 433) (by decide +kernel))) (hts (.initialized "java/lang/String") (List.mem_of_getElem? (i := 46) (by decide +kernel))) (va_eqi (hs (.eq (.static "java/lang/String" "COMPACT_STRINGS" "Z") (.int 1)) (by decide +kernel))) hA
  have hFZ := va_Zqof (C := "jdk/internal/util/Preconditions") (n := "SIOOBE_FORMATTER") (d := "Ljava/util/function/BiFunction;") (A := fun q : Nat => s.heap.size ≤ q) (hts (.laysStatic "jdk/internal/util/Preconditions" "SIOOBE_FORMATTER" "Ljava/util/function/BiFunction;") (List.mem_of_getElem? (i := 449) (by decide +kernel))) (hts (.initialized "jdk/internal/util/Preconditions") (List.mem_of_getElem? (i := 48) (by decide +kernel))) (hs (.isRef (.static "jdk/internal/util/Preconditions" "SIOOBE_FORMATTER" "Ljava/util/function/BiFunction;")) (by decide +kernel)) hA
  obtain ⟨fv, hfv, hfz⟩ : ∃ fv : Value, (fv = .null ∨ ∃ a, fv = .ref a) ∧ va_Z "jdk/internal/util/Preconditions" "SIOOBE_FORMATTER" "Ljava/util/function/BiFunction;" fv (fun q : Nat => s.heap.size ≤ q) s s.heap := by
    rcases hFZ with h | ⟨t, h⟩
    · exact ⟨_, Or.inl rfl, h⟩
    · exact ⟨_, Or.inr ⟨t, rfl⟩, h⟩
  refine ⟨(s.heap.size, tO, b, adK, adV, fv, (fun t => match t with | 0 => cI | 1 => cZ | 2 => cF | _ => cL), ((fun k => (fD k).1, fun k => (fD k).2) : va_G), (L, xs)), rfl, rfl, rfl, ?_, ?_, hSt, hRs, hOZ, hOT, hCZ, hfz, hAF, hAL, hX, hbl, Nat.le_refl _, hfv⟩
  · refine ⟨fun k q hq => ?_, fun k q hq => ?_⟩
    · have hk : k < 10 := (List.getElem?_eq_some_iff.mp hq).1
      obtain ⟨k1, -⟩ := am_cls hk
      cases hq.symm.trans k1
      exact hfD k hk
    · match k, hq with
      | 0, hq => cases hq; exact ⟨fun n z => ⟨fun k h => (by cases h), kI, i2, compI, i3⟩, i1⟩
      | 1, hq => cases hq; exact ⟨fun n z => ⟨fun k h => (by cases h), kZ, z2, compZ, z3⟩, z1⟩
      | 2, hq => cases hq; exact ⟨fun n z => ⟨fun k h => (by cases h), kF, f3, compF, f4⟩, kF, compF, f3, f4, f1, f5⟩
      | 3, hq => cases hq; exact ⟨fun n z => ⟨fun k h => (by cases h), kL, l3, compL, l4⟩, kL, compL, l3, l4, l1, l5⟩
      | n + 4, hq => cases hq
  · intro w hw
    simp only [am_nest, List.mem_cons, List.not_mem_nil, or_false] at hw
    rcases hw with rfl | rfl | rfl | rfl | rfl | rfl
    · exact va_Nw.of rfl (hts (.methodLinkNest "MixedRules$Flow" 50 ⟨"MixedRules", "isPlace", "(II)Z"⟩ "MixedRules") (List.mem_of_getElem? (i := 530) (by decide +kernel)))
    · exact va_Nw.of rfl (hts (.methodLinkNest "MixedRules$Mail" 21 ⟨"MixedRules$Letter", "<init>", "()V"⟩ "MixedRules") (List.mem_of_getElem? (i := 240) (by decide +kernel)))
    · exact va_Nw.of rfl (hts (.methodLinkNest "MixedRules$Mail" 38 ⟨"MixedRules", "isPlace", "(II)Z"⟩ "MixedRules") (List.mem_of_getElem? (i := 765) (by decide +kernel)))
    · exact va_Nw.of rfl (hts (.methodLinkNest "MixedRules$Net" 39 ⟨"MixedRules", "isPlace", "(II)Z"⟩ "MixedRules") (List.mem_of_getElem? (i := 391) (by decide +kernel)))
    · exact va_Nw.of rfl (hts (.methodLinkNest "MixedRules$Planner" 66 ⟨"MixedRules", "isPlace", "(II)Z"⟩ "MixedRules") (List.mem_of_getElem? (i := 699) (by decide +kernel)))
    · exact va_Nw.of rfl (hts (.methodLinkNest "MixedRules$Reader" 32 ⟨"MixedRules", "isPlace", "(II)Z"⟩ "MixedRules") (List.mem_of_getElem? (i := 368) (by decide +kernel)))
end
section
/-! the claim out of a run of the law's rows over the list machine -/
set_option maxHeartbeats 4000000 in
theorem am_whole_of (hpure : ∀ E : am_E, E.1 ≤ 2048 → ∃ h' : am_H, am_ex (am_I1 E) mI_Law_law 0 (am_en mI_Law_law [.inr (.inl (some (97, 0)))]) [] [] = some (some (.inl 1), h') ∧ h'.length ≤ 600000 ∧ am_sl h' ≤ 7302250)
    {p : Program} {e : Env} {s : State} {m : MethodId} {below : List Frame} {meth : Method} {c : Code} (l : Launch) {b L : Nat} {xs : Nat → Int32} (hL : L ≤ 2048) (C0 : lw_At p s m meth c b L xs) : W p l e room_1 s m #[Value.ref b] below meth c s.heap [] 0 0 (lw_Z below #[Value.ref b] s) (entryFrame m ([Value.ref b] : List Value).toArray 4) := by
  obtain ⟨z, z1, z2, z3, hXt⟩ := am_start C0
  obtain ⟨h', hr, hc1, hc2⟩ := hpure (az_E z) (by rw [z3]; exact hL)
  obtain ⟨n, e0⟩ := am_X_ex hr
  obtain ⟨hx, hb, hret, hml, hown, hts, hX, hbl, hlocks, hgv⟩ := C0
  have hfv : az_fv z = .null ∨ ∃ a, az_fv z = .ref a := hXt.2.2.2.2.2.2.2.2.2.2.2.2.2
  have htG : ∀ w ∈ lw_G, w.before #[Value.ref b] s = true := fun w h => hts w (List.mem_filter.mp h).1
  have hval : ([Value.ref b] : List Value) = ([.inr (.inl (some (97, 0)))] : List am_V).map (am_vl z) := by
    show [Value.ref b] = [Value.ref z.2.2.1]
    rw [z2]
  have hent := am_entry (z := z) (m := mI_Law_law) (as := [.inr (.inl (some (97, 0)))]) hfv rfl
  have hS : va_S (az_A z) s.heap s.heap [] := va_S.rf
  have hW : am_W z [] s.heap := ⟨by rw [z1]; rfl, fun k q h => by simp [am_pi1] at h⟩
  rw [lg_entry_eq]
  rw [← hval] at hent
  refine am_body (z := z) (m := mI_Law_law) (R := room_1) (Cc := h'.length) (Cs := am_sl h') (fun c hc hlt => am_Mets l z (am_ht c + 1) c (Nat.lt_succ_self _) hc) hx hb (by decide) hml hown htG (fun h => by cases h) hXt (by decide) (by decide) (by decide) hc1 hc2 ?_ n 0 _ [] [] _ s.heap [] 0 0 e0 hent hW hS (by simp) (by simp [am_sl])
  intro pc lsJ H locs i hd hi hW1 hS1
  rcases hi with ⟨rfl, x, hx1, hz⟩ | ⟨rfl, ⟨x, hx1⟩, hz⟩ | ⟨rfl, hx1, hz⟩
  · cases hx1
    refine va_forget (fun q hq => by have := hS1.2.2 q hq; rw [← z1]; exact this) ?_
    refine W.widen (k := 600000) (n := 7302250) hc1 hc2 ?_
    exact lw_ret hx hb hret hlocks hd
  · cases hx1
  · cases hx1
/-! callees by computing, over a machine that never asks the script -/
def am_E0 : am_E := (0, fun _ => 0)
def am_al0 (h : am_H) (ty : Nat) (q : am_K) (i : Int32) : Bool × am_V := match Nat.beq q.1 97 with
  | true => (false, .inl 0)
  | false => am_al1 am_E0 h ty q i
def am_ln0 (h : am_H) (q : am_K) : Option Int32 := match Nat.beq q.1 97 with
  | true => none
  | false => am_ln1 am_E0 h q
def am_I0 : am_O am_H := (am_gf1, am_pf1, am_al0, am_as1, am_ln0, am_kl1, am_nw1, am_na1)
theorem am_al0_eq {E : am_E} {h : am_H} {ty : Nat} {q : am_K} {i : Int32} (e : (am_al0 h ty q i).1 = true) : am_al1 E h ty q i = am_al0 h ty q i := by
  unfold am_al0 at e ⊢
  cases hb : Nat.beq q.1 97 with
  | true => rw [hb] at e; cases e
  | false =>
    have hne : q.1 ≠ 97 := fun w => by rw [w] at hb; cases hb
    show am_al1 E h ty q i = am_al1 am_E0 h ty q i
    unfold am_al1
    split
    · rfl
    · rename_i w; exact absurd w hne
    · rfl
    · rfl
theorem am_ln0_eq {E : am_E} {h : am_H} {q : am_K} {x : Int32} (e : am_ln0 h q = some x) : am_ln1 E h q = some x := by
  unfold am_ln0 at e
  cases hb : Nat.beq q.1 97 with
  | true => rw [hb] at e; cases e
  | false =>
    rw [hb] at e
    have hne : q.1 ≠ 97 := fun w => by rw [w] at hb; cases hb
    have e : am_ln1 am_E0 h q = some x := e
    rw [← e]
    unfold am_ln1
    split
    · rfl
    · rename_i w; exact absurd w hne
    · rfl
    · rfl
theorem am_do_up {E : am_E} {call call' : Nat → List am_V → am_H → am_R am_H} {m kd c na : Nat} {st : List am_V} {h : am_H} {k : List am_V → am_H → am_R am_H} {R : Option am_V × am_H} (hc : ∀ c as h r, call c as h = some r → call' c as h = some r) (e : am_do am_I0 call m k kd c na st h = some R) : am_do (am_I1 E) call' m k kd c na st h = some R := by
  have hrc : am_rcv am_I0 h kd c (st.take na).reverse = am_rcv (am_I1 E) h kd c (st.take na).reverse := rfl
  unfold am_do at e ⊢
  rw [hrc] at e
  cases hb : (Nat.ble na st.length && (Nat.ble (st.length - na) 4 && (Nat.blt (am_ht c) (am_ht m) && am_rcv (am_I1 E) h kd c (st.take na).reverse))) with
  | false => rw [hb] at e; cases e
  | true =>
    rw [hb] at e
    have e : am_bd (am_rk c) (call c (st.take na).reverse h) (fun vs h' => k (vs ++ st.drop na) h') = some R := e
    show am_bd (am_rk c) (call' c (st.take na).reverse h) (fun vs h' => k (vs ++ st.drop na) h') = some R
    cases hcc : call c (st.take na).reverse h with
    | none =>
      rw [hcc] at e
      obtain ⟨_, _, g, _⟩ := am_bd_some e
      cases g
    | some r => rw [hcc] at e; rw [hc _ _ _ _ hcc]; exact e
theorem am_aL_up {E : am_E} {ty : Nat} {st : List am_V} {h : am_H} {k : List am_V → am_H → am_R am_H} {R : Option am_V × am_H} (e : am_aL am_I0 ty st h k = some R) : am_aL (am_I1 E) ty st h k = some R := by
  rcases st with _ | ⟨j | _, _ | ⟨_ | (_ | q) | _, r⟩⟩
  case cons.inl.cons.inr.inl.some =>
    obtain ⟨g1, g2⟩ := am_if_some (show am_if (am_al0 h ty q j).1 (k ((am_al0 h ty q j).2 :: r) h) = some R from e)
    show am_if (am_al1 E h ty q j).1 (k ((am_al1 E h ty q j).2 :: r) h) = some R
    rw [am_al0_eq g1, g1]
    exact g2
  all_goals cases e
theorem am_st_up {E : am_E} {call call' : Nat → List am_V → am_H → am_R am_H} {m : Nat} (hc : ∀ c as h r, call c as h = some r → call' c as h = some r) {k : Nat → am_L → List am_V → am_H → am_R am_H} {pc : Nat} {ls : am_L} {st : List am_V} {h : am_H} {R : Option am_V × am_H} (e : am_st am_I0 call m k pc ls st h = some R) : am_st (am_I1 E) call' m k pc ls st h = some R := by
  unfold am_st at e ⊢
  rcases hat : am_at m pc with _ | ⟨i, n⟩
  · rw [hat] at e; cases e
  · rw [hat] at e
    replace e : am_si am_I0 call m i n k pc ls st h = some R := e
    show am_si (am_I1 E) call' m i n k pc ls st h = some R
    unfold am_si at e ⊢
    generalize hkd : am_kd i = kd at e ⊢
    rcases kd with _ | _ | _ | _ | kd
    · exact e
    · replace e : am_h1 am_I0 call m i st h (fun st' h' => k (pc + n) ls st' h') = some R := e
      show am_h1 (am_I1 E) call' m i st h (fun st' h' => k (pc + n) ls st' h') = some R
      clear hkd hat
      cases i
      case iaload => exact am_aL_up e
      case baload => exact am_aL_up e
      case aaload => exact am_aL_up e
      case arraylength =>
        rcases st with _ | ⟨_ | (_ | q) | _, r⟩
        case cons.inr.inl.some =>
          replace e : (match am_ln0 h q with | some x => k (pc + n) ls (.inl x :: r) h | none => none) = some R := e
          show (match am_ln1 E h q with | some x => k (pc + n) ls (.inl x :: r) h | none => none) = some R
          cases hg : am_ln0 h q with
          | none => rw [hg] at e; cases e
          | some x => rw [hg] at e; rw [am_ln0_eq hg]; exact e
        all_goals cases e
      case invokevirtual x =>
        replace e : am_iv am_I0 call m (am_cm (am_ow m) x) st h (fun st' h' => k (pc + n) ls st' h') = some R := e
        show am_iv (am_I1 E) call' m (am_cm (am_ow m) x) st h (fun st' h' => k (pc + n) ls st' h') = some R
        unfold am_iv at e ⊢
        split at e
        · exact am_do_up hc e
        · cases e
      case invokestatic x =>
        replace e : am_is am_I0 call m (am_cm (am_ow m) x) st h (fun st' h' => k (pc + n) ls st' h') = some R := e
        show am_is (am_I1 E) call' m (am_cm (am_ow m) x) st h (fun st' h' => k (pc + n) ls st' h') = some R
        unfold am_is at e ⊢
        split at e
        · exact am_do_up hc e
        · exact am_do_up hc e
        · cases e
      case invokespecial x =>
        replace e : am_ip am_I0 call m (am_cm (am_ow m) x) st h (fun st' h' => k (pc + n) ls st' h') = some R := e
        show am_ip (am_I1 E) call' m (am_cm (am_ow m) x) st h (fun st' h' => k (pc + n) ls st' h') = some R
        unfold am_ip at e ⊢
        split at e
        · exact am_do_up hc e
        · exact am_do_up hc e
        · exact e
        · cases e
      all_goals exact e
    · exact e
    · exact e
    · exact e
theorem am_F_call {E : am_E} {call call' : Nat → List am_V → am_H → am_R am_H} {m : Nat} (hc : ∀ c as h r, call c as h = some r → call' c as h = some r) : ∀ (n pc : Nat) (ls : am_L) (st : List am_V) (h : am_H) (R : Option am_V × am_H), am_F am_I0 call m n pc ls st h = some R → am_F (am_I1 E) call' m n pc ls st h = some R := by
  intro n
  induction n with
  | zero => intro pc ls st h R e; cases e
  | succ n ih =>
    intro pc ls st h R e
    have e : am_st am_I0 call m (am_F am_I0 call m n) pc ls st h = some R := e
    show am_st (am_I1 E) call' m (am_F (am_I1 E) call' m n) pc ls st h = some R
    have e2 := am_st_up (E := E) hc e
    rcases am_lin (am_I1 E) call' m pc ls st h with ⟨q, hq⟩ | ⟨a, b, c, d, hq⟩
    · rw [hq] at e2 ⊢; exact e2
    · rw [hq] at e2 ⊢; exact ih _ _ _ _ _ e2
def am_cr (f : Nat) : Nat → Nat → List am_V → am_H → am_R am_H
  | 0 => fun _ _ _ => none
  | d + 1 => fun m as h => match Nat.beq (am_ht m) 0 || Nat.beq m mI_Mo_in with
    | true => none
    | false => am_if (am_nl m as) (am_F am_I0 (am_cr f d) m f 0 (am_en m as) [] h)
theorem am_cr_run (E : am_E) (f : Nat) : ∀ (d m : Nat) (as : List am_V) (h : am_H) (r : Option am_V × am_H), am_cr f d m as h = some r → am_run (am_I1 E) m as h = some r := by
  intro d
  induction d with
  | zero => intro m as h r e; cases e
  | succ d ih =>
    intro m as h r e
    have e : (match Nat.beq (am_ht m) 0 || Nat.beq m mI_Mo_in with | true => none | false => am_if (am_nl m as) (am_F am_I0 (am_cr f d) m f 0 (am_en m as) [] h)) = some r := e
    cases hb : (Nat.beq (am_ht m) 0 || Nat.beq m mI_Mo_in) with
    | true => rw [hb] at e; cases e
    | false =>
      rw [hb] at e
      rw [Bool.or_eq_false_iff] at hb
      have h0 : 0 < am_ht m := by
        rcases Nat.eq_zero_or_pos (am_ht m) with h | h
        · rw [h] at hb; cases hb.1
        · exact h
      obtain ⟨g1, e⟩ := am_if_some e
      rw [am_run_eq (am_I1 E) m h0 hb.2, g1]
      exact am_X_of (am_F_call (fun c as h r hh => ih c as h r hh) _ _ _ _ _ _ e)
/-- the memory at first -/
def am_w0 : List Int32 := [110, 101, 116, 0, 108, 105, 110, 107, 102, 108, 111, 119, 112, 111, 115, 116, 111, 108, 100, 0, 110, 101, 119, 0]
def am_M0 : am_M := fun k i s => match k with
  | 1 => ([2, 15, 6] : List Int32).getD s 0
  | 4 => ([0, 1, 1, -1] : List Int32).getD s 0
  | 5 => -1
  | 6 => -1
  | 18 => Int32.ofNat s
  | 25 => match s with
    | 0 => 2
    | 8 => 15
    | 9 => 6
    | _ => 0
  | 28 => 1
  | 29 => 1
  | 30 => -1
  | 31 => -1
  | 32 => -1
  | 43 => am_w0.getD s 0
  | _ => 0
def am_h44 : am_H := (am_hp am_M0).take 44
def am_eC (a b : am_C) : Bool := match a, b with
  | .inl x, .inl y => decide (x = y)
  | .inr (.inl x), .inr (.inl y) => decide (x = y)
  | .inr (.inr x), .inr (.inr y) => decide (x = y)
  | _, _ => false
theorem am_eC_eq {a b : am_C} (h : am_eC a b = true) : a = b := by
  rcases a with a | a | a <;> rcases b with b | b | b <;> first | (cases h; done) | exact congrArg _ (of_decide_eq_true h) | exact congrArg (fun q => Sum.inr (Sum.inl q)) (of_decide_eq_true h) | exact congrArg (fun q => Sum.inr (Sum.inr q)) (of_decide_eq_true h)
def am_eH : am_H → am_H → Bool
  | [], [] => true
  | a :: l, b :: k => am_eC a b && am_eH l k
  | _, _ => false
theorem am_eH_eq : ∀ {a b : am_H}, am_eH a b = true → a = b
  | [], [], _ => rfl
  | a :: l, b :: k, h => by
    have h : (am_eC a b && am_eH l k) = true := h
    rw [Bool.and_eq_true] at h
    rw [am_eC_eq h.1, am_eH_eq h.2]
  | [], _ :: _, h => by cases h
  | _ :: _, [], h => by cases h
def am_eR (a : am_R am_H) (b : am_H) : Bool := match a with
  | some (none, h) => am_eH h b
  | _ => false
theorem am_eR_eq {a : am_R am_H} {b : am_H} (h : am_eR a b = true) : a = some (none, b) := by
  rcases a with _ | ⟨_ | v, h'⟩
  · cases h
  · rw [am_eH_eq (show am_eH h' b = true from h)]
  · cases h
set_option maxRecDepth 1000000 in
theorem am_Mx0 : am_eR (am_cr 400 9 mI_Mx_init [.inr (.inl (some (0, 0)))] [.inl (8, am_df 8)]) am_h44 = true := by decide +kernel
set_option maxRecDepth 1000000 in
theorem am_Mo0 : am_eR (am_cr 3000 9 mI_Mo_init [.inr (.inl (some (25, 0)))] (am_h44 ++ [.inl (9, am_df 9)])) (am_hp am_M0) = true := by decide +kernel
theorem am_Mx1 (E : am_E) : am_run (am_I1 E) mI_Mx_init [.inr (.inl (some (0, 0)))] [.inl (8, am_df 8)] = some (none, am_h44) := am_cr_run E _ _ _ _ _ _ (am_eR_eq am_Mx0)
theorem am_Mo1 (E : am_E) : am_run (am_I1 E) mI_Mo_init [.inr (.inl (some (25, 0)))] (am_h44 ++ [.inl (9, am_df 9)]) = some (none, am_hp am_M0) := am_cr_run E _ _ _ _ _ _ (am_eR_eq am_Mo0)
theorem am_h44_nw : am_nw1 am_h44 9 = some ((25, 0), am_h44 ++ [.inl (9, am_df 9)]) := by
  unfold am_nw1
  rw [show (am_fr am_h44 && Nat.blt 9 10) = true by decide +kernel]
  show some (am_nm am_h44.length, am_h44 ++ [.inl (9, am_df 9)]) = _
  rw [show am_nm am_h44.length = (25, 0) by decide +kernel]
/-- the law comes to its loop with both objects made -/
theorem am_law0 (E : am_E) : am_ex (am_I1 E) mI_Law_law 0 (am_en mI_Law_law [.inr (.inl (some (97, 0)))]) [] [] = am_ex (am_I1 E) mI_Law_law 18 [some (.inr (.inl (some (97, 0)))), some (.inr (.inl (some (0, 0)))), some (.inr (.inl (some (25, 0)))), some (.inl 0)] [] (am_hp am_M0) := by
  have e1 : am_ex (am_I1 E) mI_Law_law 0 (am_en mI_Law_law [.inr (.inl (some (97, 0)))]) [] [] = am_bV (am_run (am_I1 E) mI_Mx_init [.inr (.inl (some (0, 0)))] [.inl (8, am_df 8)]) (fun h => am_ex (am_I1 E) mI_Law_law 7 [some (.inr (.inl (some (97, 0)))), none, none, none] [.inr (.inl (some (0, 0)))] h) := (am_ex_k _ _ (fun p => Nat.beq p 7) 5 _ _ _ _).trans rfl
  have e2 : ∀ h, am_ex (am_I1 E) mI_Law_law 7 [some (.inr (.inl (some (97, 0)))), none, none, none] [.inr (.inl (some (0, 0)))] h = am_nW (am_I1 E) (some 9) [] h (fun st' h' => am_ex (am_I1 E) mI_Law_law 11 [some (.inr (.inl (some (97, 0)))), some (.inr (.inl (some (0, 0)))), none, none] st' h') := fun h => (am_ex_k _ _ (fun p => Nat.beq p 11) 5 _ _ _ _).trans rfl
  have e3 : ∀ h, am_ex (am_I1 E) mI_Law_law 11 [some (.inr (.inl (some (97, 0)))), some (.inr (.inl (some (0, 0)))), none, none] [.inr (.inl (some (25, 0)))] h = am_bV (am_run (am_I1 E) mI_Mo_init [.inr (.inl (some (25, 0)))] h) (fun h' => am_ex (am_I1 E) mI_Law_law 18 [some (.inr (.inl (some (97, 0)))), some (.inr (.inl (some (0, 0)))), some (.inr (.inl (some (25, 0)))), some (.inl 0)] [] h') := fun h => (am_ex_k _ _ (fun p => Nat.beq p 18) 9 _ _ _ _).trans rfl
  rw [e1, am_Mx1]
  show am_ex (am_I1 E) mI_Law_law 7 _ _ am_h44 = _
  rw [e2]
  have e4 : am_nW (am_I1 E) (some 9) [] am_h44 (fun st' h' => am_ex (am_I1 E) mI_Law_law 11 [some (.inr (.inl (some (97, 0)))), some (.inr (.inl (some (0, 0)))), none, none] st' h') = am_ex (am_I1 E) mI_Law_law 11 [some (.inr (.inl (some (97, 0)))), some (.inr (.inl (some (0, 0)))), none, none] [.inr (.inl (some (25, 0)))] (am_h44 ++ [.inl (9, am_df 9)]) := by
    unfold am_nW
    simp only [am_I1, am_h44_nw]
  rw [e4, e3, am_Mo1]
  rfl
theorem am_hp_len (M : am_M) : (am_hp M).length ≤ 600000 := by
  unfold am_hp
  rw [List.length_map]
  decide
theorem am_sl_gen {L : List am_K} {g g' : am_K → am_C} (h : ∀ q, am_sc (g q) = am_sc (g' q)) : am_sl (L.map g) = am_sl (L.map g') := by
  unfold am_sl
  rw [List.map_map, List.map_map]
  congr 1
  apply List.map_congr_left
  intro q _
  exact h q
theorem am_ac2_sc (M M' : am_M) (q : am_K) (a : Nat × Nat) : am_sc (am_ac2 M q a) = am_sc (am_ac2 M' q a) := by
  obtain ⟨t, n⟩ := a
  rcases t with _ | _ | _ | t
  · rw [am_ac20, am_ac20]; simp only [am_sc, List.length_map]
  · rw [show am_ac2 M q (0 + 1, n) = _ from am_ac21 M q n, show am_ac2 M' q (0 + 1, n) = _ from am_ac21 M' q n]; simp only [am_sc, List.length_map]
  · rw [show am_ac2 M q (0 + 1 + 1, n) = _ from am_ac22 M q n, show am_ac2 M' q (0 + 1 + 1, n) = _ from am_ac22 M' q n]
  · have e : ∀ M : am_M, am_ac2 M q (t + 1 + 1 + 1, n) = .inr (.inr (3, (List.range n).map (fun i => some (19, am_lx (M q.1 q.2 i))))) := fun _ => rfl
    rw [e, e]; simp only [am_sc, List.length_map]
theorem am_co_sc (M M' : am_M) (q : am_K) : am_sc (am_co M q) = am_sc (am_co M' q) := by
  unfold am_co
  generalize (am_ka q.1).getD (0, 0) = a
  generalize am_kc q.1 = o
  cases o with
  | some c => simp only [am_sc, List.length_map]
  | none => exact am_ac2_sc M M' q a
theorem am_sl0 : am_sl (am_hp am_M0) ≤ 7302250 := by decide +kernel
theorem am_hp_sl1 (M M' : am_M) : am_sl (am_hp M) = am_sl (am_hp M') := by
  unfold am_hp
  exact am_sl_gen (am_co_sc M M')
theorem am_hp_sl (M : am_M) : am_sl (am_hp M) ≤ 7302250 := by
  rw [am_hp_sl1 M am_M0]
  exact am_sl0
/-- WHAT IS LEFT: the law's loop over the memory machine -/
theorem am_whole_mem (hloop : ∀ E : am_E, E.1 ≤ 2048 → ∃ M' : am_M, am_ex (am_I2 E) mI_Law_law 18 [some (.inr (.inl (some (97, 0)))), some (.inr (.inl (some (0, 0)))), some (.inr (.inl (some (25, 0)))), some (.inl 0)] [] am_M0 = some (some (.inl 1), M')) :
    ∀ E : am_E, E.1 ≤ 2048 → ∃ h' : am_H, am_ex (am_I1 E) mI_Law_law 0 (am_en mI_Law_law [.inr (.inl (some (97, 0)))]) [] [] = some (some (.inl 1), h') ∧ h'.length ≤ 600000 ∧ am_sl h' ≤ 7302250 := by
  intro E hE
  obtain ⟨M', e⟩ := hloop E hE
  refine ⟨am_hp M', ?_, am_hp_len M', am_hp_sl M'⟩
  rw [am_law0]
  obtain ⟨n, e⟩ := am_X_ex e
  have hV : am_VL [some (.inr (.inl (some (97, 0)))), some (.inr (.inl (some (0, 0)))), some (.inr (.inl (some (25, 0)))), some (.inl 0)] := by
    intro i v hi
    match i, hi with
    | 0, hi => cases hi; exact Or.inr ⟨by show 95 ≤ 97; omega, fun w => by rcases w with w | w <;> cases w⟩
    | 1, hi => cases hi; exact Or.inl ⟨by show 0 < 95; omega, rfl⟩
    | 2, hi => cases hi; exact Or.inl ⟨by show 25 < 95; omega, rfl⟩
    | 3, hi => cases hi; exact trivial
    | n + 4, hi => cases hi
  exact am_X_of (am_F_sim (m := mI_Law_law) (E := E) (fun c _ => am_run_sim E (am_ht c + 1) c (Nat.lt_succ_self _)) n _ _ _ _ _ _ hV (fun v hv => by cases hv) e).1
end

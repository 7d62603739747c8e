/-! the tables' words (SKELETON part A), class names and fields: begun from the printed texts -/
-- ===== PART A: goes FIRST, ahead of the names: the tables' words, and 'selects' of the private methods out of them =====
/-- a private method of a class that the tables say can be made, by its rows of tables_1 -/
def lw_okq (q : MethodName × Nat) : Prop := (q.1.cls ≠ "java/lang/invoke/MethodHandle" ∧ q.1.cls ≠ "java/lang/invoke/VarHandle") ∧ Cond.instantiable q.1.cls q.2 ∈ tables_1 ∧ Cond.privateMethod q.1 ∈ tables_1 ∧ Cond.instanceMethod q.1 ∈ tables_1
theorem lw_p0 : lw_okq (⟨"MixedRulesModel", "begins", "(I)V"⟩, 41) := ⟨⟨by decide +kernel, by decide +kernel⟩, List.mem_of_getElem? (i := 823) (by decide +kernel), List.mem_of_getElem? (i := 829) (by decide +kernel), List.mem_of_getElem? (i := 830) (by decide +kernel)⟩
theorem lw_p1 : lw_okq (⟨"MixedRulesModel", "flows", "(IIII)V"⟩, 41) := ⟨⟨by decide +kernel, by decide +kernel⟩, List.mem_of_getElem? (i := 823) (by decide +kernel), List.mem_of_getElem? (i := 833) (by decide +kernel), List.mem_of_getElem? (i := 834) (by decide +kernel)⟩
theorem lw_p2 : lw_okq (⟨"MixedRulesModel", "reads", "(Z)Z"⟩, 41) := ⟨⟨by decide +kernel, by decide +kernel⟩, List.mem_of_getElem? (i := 823) (by decide +kernel), List.mem_of_getElem? (i := 977) (by decide +kernel), List.mem_of_getElem? (i := 978) (by decide +kernel)⟩
theorem lw_p3 : lw_okq (⟨"MixedRulesModel", "nextToken", "()V"⟩, 41) := ⟨⟨by decide +kernel, by decide +kernel⟩, List.mem_of_getElem? (i := 823) (by decide +kernel), List.mem_of_getElem? (i := 981) (by decide +kernel), List.mem_of_getElem? (i := 982) (by decide +kernel)⟩
theorem lw_p4 : lw_okq (⟨"MixedRulesModel", "readsClause", "()Z"⟩, 41) := ⟨⟨by decide +kernel, by decide +kernel⟩, List.mem_of_getElem? (i := 823) (by decide +kernel), List.mem_of_getElem? (i := 995) (by decide +kernel), List.mem_of_getElem? (i := 996) (by decide +kernel)⟩
theorem lw_p5 : lw_okq (⟨"MixedRulesModel", "wordHere", "()I"⟩, 41) := ⟨⟨by decide +kernel, by decide +kernel⟩, List.mem_of_getElem? (i := 823) (by decide +kernel), List.mem_of_getElem? (i := 999) (by decide +kernel), List.mem_of_getElem? (i := 1000) (by decide +kernel)⟩
theorem lw_p6 : lw_okq (⟨"MixedRulesModel", "readsRest", "(I)Z"⟩, 41) := ⟨⟨by decide +kernel, by decide +kernel⟩, List.mem_of_getElem? (i := 823) (by decide +kernel), List.mem_of_getElem? (i := 1003) (by decide +kernel), List.mem_of_getElem? (i := 1004) (by decide +kernel)⟩
theorem lw_p7 : lw_okq (⟨"MixedRulesModel", "number", "(IIIII)Z"⟩, 41) := ⟨⟨by decide +kernel, by decide +kernel⟩, List.mem_of_getElem? (i := 823) (by decide +kernel), List.mem_of_getElem? (i := 1007) (by decide +kernel), List.mem_of_getElem? (i := 1008) (by decide +kernel)⟩
theorem lw_p8 : lw_okq (⟨"MixedRulesModel", "node", "(III)Z"⟩, 41) := ⟨⟨by decide +kernel, by decide +kernel⟩, List.mem_of_getElem? (i := 823) (by decide +kernel), List.mem_of_getElem? (i := 1011) (by decide +kernel), List.mem_of_getElem? (i := 1012) (by decide +kernel)⟩
theorem lw_p9 : lw_okq (⟨"MixedRulesModel", "does", "(I)V"⟩, 41) := ⟨⟨by decide +kernel, by decide +kernel⟩, List.mem_of_getElem? (i := 823) (by decide +kernel), List.mem_of_getElem? (i := 1015) (by decide +kernel), List.mem_of_getElem? (i := 1016) (by decide +kernel)⟩
theorem lw_p10 : lw_okq (⟨"MixedRulesModel", "isNode", "(I)Z"⟩, 41) := ⟨⟨by decide +kernel, by decide +kernel⟩, List.mem_of_getElem? (i := 823) (by decide +kernel), List.mem_of_getElem? (i := 1027) (by decide +kernel), List.mem_of_getElem? (i := 1028) (by decide +kernel)⟩
theorem lw_p11 : lw_okq (⟨"MixedRulesModel", "asTurned", "()V"⟩, 41) := ⟨⟨by decide +kernel, by decide +kernel⟩, List.mem_of_getElem? (i := 823) (by decide +kernel), List.mem_of_getElem? (i := 1035) (by decide +kernel), List.mem_of_getElem? (i := 1036) (by decide +kernel)⟩
theorem lw_p12 : lw_okq (⟨"MixedRulesModel", "needsOf", "(II)V"⟩, 41) := ⟨⟨by decide +kernel, by decide +kernel⟩, List.mem_of_getElem? (i := 823) (by decide +kernel), List.mem_of_getElem? (i := 1039) (by decide +kernel), List.mem_of_getElem? (i := 1040) (by decide +kernel)⟩
theorem lw_p13 : lw_okq (⟨"MixedRulesModel", "walks", "(II)V"⟩, 41) := ⟨⟨by decide +kernel, by decide +kernel⟩, List.mem_of_getElem? (i := 823) (by decide +kernel), List.mem_of_getElem? (i := 1043) (by decide +kernel), List.mem_of_getElem? (i := 1044) (by decide +kernel)⟩
theorem lw_p14 : lw_okq (⟨"MixedRulesModel", "ruleBy", "(III)I"⟩, 41) := ⟨⟨by decide +kernel, by decide +kernel⟩, List.mem_of_getElem? (i := 823) (by decide +kernel), List.mem_of_getElem? (i := 1047) (by decide +kernel), List.mem_of_getElem? (i := 1048) (by decide +kernel)⟩
theorem lw_p15 : lw_okq (⟨"MixedRulesModel", "movers", "(I)I"⟩, 41) := ⟨⟨by decide +kernel, by decide +kernel⟩, List.mem_of_getElem? (i := 823) (by decide +kernel), List.mem_of_getElem? (i := 1062) (by decide +kernel), List.mem_of_getElem? (i := 1063) (by decide +kernel)⟩
def lw_privs_1 : List (MethodName × Nat) := [(⟨"MixedRulesModel", "begins", "(I)V"⟩, 41), (⟨"MixedRulesModel", "flows", "(IIII)V"⟩, 41), (⟨"MixedRulesModel", "reads", "(Z)Z"⟩, 41), (⟨"MixedRulesModel", "nextToken", "()V"⟩, 41), (⟨"MixedRulesModel", "readsClause", "()Z"⟩, 41), (⟨"MixedRulesModel", "wordHere", "()I"⟩, 41), (⟨"MixedRulesModel", "readsRest", "(I)Z"⟩, 41), (⟨"MixedRulesModel", "number", "(IIIII)Z"⟩, 41), (⟨"MixedRulesModel", "node", "(III)Z"⟩, 41), (⟨"MixedRulesModel", "does", "(I)V"⟩, 41), (⟨"MixedRulesModel", "isNode", "(I)Z"⟩, 41), (⟨"MixedRulesModel", "asTurned", "()V"⟩, 41), (⟨"MixedRulesModel", "needsOf", "(II)V"⟩, 41), (⟨"MixedRulesModel", "walks", "(II)V"⟩, 41), (⟨"MixedRulesModel", "ruleBy", "(III)I"⟩, 41), (⟨"MixedRulesModel", "movers", "(I)I"⟩, 41)]
theorem lw_r1 : ∀ q ∈ lw_privs_1, lw_okq q := List.forall_mem_cons.mpr ⟨lw_p0, List.forall_mem_cons.mpr ⟨lw_p1, List.forall_mem_cons.mpr ⟨lw_p2, List.forall_mem_cons.mpr ⟨lw_p3, List.forall_mem_cons.mpr ⟨lw_p4, List.forall_mem_cons.mpr ⟨lw_p5, List.forall_mem_cons.mpr ⟨lw_p6, List.forall_mem_cons.mpr ⟨lw_p7, List.forall_mem_cons.mpr ⟨lw_p8, List.forall_mem_cons.mpr ⟨lw_p9, List.forall_mem_cons.mpr ⟨lw_p10, List.forall_mem_cons.mpr ⟨lw_p11, List.forall_mem_cons.mpr ⟨lw_p12, List.forall_mem_cons.mpr ⟨lw_p13, List.forall_mem_cons.mpr ⟨lw_p14, List.forall_mem_cons.mpr ⟨lw_p15, fun _ h => absurd h List.not_mem_nil⟩⟩⟩⟩⟩⟩⟩⟩⟩⟩⟩⟩⟩⟩⟩⟩
theorem lw_p16 : lw_okq (⟨"MixedRulesModel", "tableWith", "(II)I"⟩, 41) := ⟨⟨by decide +kernel, by decide +kernel⟩, List.mem_of_getElem? (i := 823) (by decide +kernel), List.mem_of_getElem? (i := 1074) (by decide +kernel), List.mem_of_getElem? (i := 1075) (by decide +kernel)⟩
theorem lw_p17 : lw_okq (⟨"MixedRulesModel", "isRound", "(II)Z"⟩, 41) := ⟨⟨by decide +kernel, by decide +kernel⟩, List.mem_of_getElem? (i := 823) (by decide +kernel), List.mem_of_getElem? (i := 1097) (by decide +kernel), List.mem_of_getElem? (i := 1098) (by decide +kernel)⟩
theorem lw_p18 : lw_okq (⟨"MixedRulesModel", "isStale", "(I)Z"⟩, 41) := ⟨⟨by decide +kernel, by decide +kernel⟩, List.mem_of_getElem? (i := 823) (by decide +kernel), List.mem_of_getElem? (i := 1101) (by decide +kernel), List.mem_of_getElem? (i := 1102) (by decide +kernel)⟩
theorem lw_p19 : lw_okq (⟨"MixedRulesModel", "leastUnsound", "(II)I"⟩, 41) := ⟨⟨by decide +kernel, by decide +kernel⟩, List.mem_of_getElem? (i := 823) (by decide +kernel), List.mem_of_getElem? (i := 1105) (by decide +kernel), List.mem_of_getElem? (i := 1106) (by decide +kernel)⟩
theorem lw_p20 : lw_okq (⟨"MixedRulesModel", "isSound", "(II)Z"⟩, 41) := ⟨⟨by decide +kernel, by decide +kernel⟩, List.mem_of_getElem? (i := 823) (by decide +kernel), List.mem_of_getElem? (i := 1109) (by decide +kernel), List.mem_of_getElem? (i := 1110) (by decide +kernel)⟩
theorem lw_p21 : lw_okq (⟨"MixedRulesModel", "holds", "(II)I"⟩, 41) := ⟨⟨by decide +kernel, by decide +kernel⟩, List.mem_of_getElem? (i := 823) (by decide +kernel), List.mem_of_getElem? (i := 1113) (by decide +kernel), List.mem_of_getElem? (i := 1114) (by decide +kernel)⟩
theorem lw_p22 : lw_okq (⟨"MixedRulesModel", "isRing", "(II)Z"⟩, 41) := ⟨⟨by decide +kernel, by decide +kernel⟩, List.mem_of_getElem? (i := 823) (by decide +kernel), List.mem_of_getElem? (i := 1117) (by decide +kernel), List.mem_of_getElem? (i := 1118) (by decide +kernel)⟩
theorem lw_p23 : lw_okq (⟨"MixedRulesModel", "isRoom", "(I)Z"⟩, 41) := ⟨⟨by decide +kernel, by decide +kernel⟩, List.mem_of_getElem? (i := 823) (by decide +kernel), List.mem_of_getElem? (i := 1121) (by decide +kernel), List.mem_of_getElem? (i := 1122) (by decide +kernel)⟩
theorem lw_p24 : lw_okq (⟨"MixedRulesModel", "turns", "(II)V"⟩, 41) := ⟨⟨by decide +kernel, by decide +kernel⟩, List.mem_of_getElem? (i := 823) (by decide +kernel), List.mem_of_getElem? (i := 1125) (by decide +kernel), List.mem_of_getElem? (i := 1126) (by decide +kernel)⟩
theorem lw_p25 : lw_okq (⟨"MixedRulesModel", "plansNow", "(I)V"⟩, 41) := ⟨⟨by decide +kernel, by decide +kernel⟩, List.mem_of_getElem? (i := 823) (by decide +kernel), List.mem_of_getElem? (i := 1137) (by decide +kernel), List.mem_of_getElem? (i := 1138) (by decide +kernel)⟩
theorem lw_p26 : lw_okq (⟨"MixedRulesModel", "plans", "(I)V"⟩, 41) := ⟨⟨by decide +kernel, by decide +kernel⟩, List.mem_of_getElem? (i := 823) (by decide +kernel), List.mem_of_getElem? (i := 1141) (by decide +kernel), List.mem_of_getElem? (i := 1142) (by decide +kernel)⟩
theorem lw_p27 : lw_okq (⟨"MixedRulesModel", "firstOf", "(III)I"⟩, 41) := ⟨⟨by decide +kernel, by decide +kernel⟩, List.mem_of_getElem? (i := 823) (by decide +kernel), List.mem_of_getElem? (i := 1145) (by decide +kernel), List.mem_of_getElem? (i := 1146) (by decide +kernel)⟩
theorem lw_p28 : lw_okq (⟨"MixedRulesModel", "isSafe", "(II)Z"⟩, 41) := ⟨⟨by decide +kernel, by decide +kernel⟩, List.mem_of_getElem? (i := 823) (by decide +kernel), List.mem_of_getElem? (i := 1149) (by decide +kernel), List.mem_of_getElem? (i := 1150) (by decide +kernel)⟩
theorem lw_p29 : lw_okq (⟨"MixedRulesModel", "greatestTable", "(I)I"⟩, 41) := ⟨⟨by decide +kernel, by decide +kernel⟩, List.mem_of_getElem? (i := 823) (by decide +kernel), List.mem_of_getElem? (i := 1161) (by decide +kernel), List.mem_of_getElem? (i := 1162) (by decide +kernel)⟩
theorem lw_p30 : lw_okq (⟨"MixedRulesModel", "lettersOf", "(II)I"⟩, 41) := ⟨⟨by decide +kernel, by decide +kernel⟩, List.mem_of_getElem? (i := 823) (by decide +kernel), List.mem_of_getElem? (i := 1169) (by decide +kernel), List.mem_of_getElem? (i := 1170) (by decide +kernel)⟩
theorem lw_p31 : lw_okq (⟨"MixedRulesModel", "hops", "(I)Z"⟩, 41) := ⟨⟨by decide +kernel, by decide +kernel⟩, List.mem_of_getElem? (i := 823) (by decide +kernel), List.mem_of_getElem? (i := 1189) (by decide +kernel), List.mem_of_getElem? (i := 1190) (by decide +kernel)⟩
def lw_privs_2 : List (MethodName × Nat) := [(⟨"MixedRulesModel", "tableWith", "(II)I"⟩, 41), (⟨"MixedRulesModel", "isRound", "(II)Z"⟩, 41), (⟨"MixedRulesModel", "isStale", "(I)Z"⟩, 41), (⟨"MixedRulesModel", "leastUnsound", "(II)I"⟩, 41), (⟨"MixedRulesModel", "isSound", "(II)Z"⟩, 41), (⟨"MixedRulesModel", "holds", "(II)I"⟩, 41), (⟨"MixedRulesModel", "isRing", "(II)Z"⟩, 41), (⟨"MixedRulesModel", "isRoom", "(I)Z"⟩, 41), (⟨"MixedRulesModel", "turns", "(II)V"⟩, 41), (⟨"MixedRulesModel", "plansNow", "(I)V"⟩, 41), (⟨"MixedRulesModel", "plans", "(I)V"⟩, 41), (⟨"MixedRulesModel", "firstOf", "(III)I"⟩, 41), (⟨"MixedRulesModel", "isSafe", "(II)Z"⟩, 41), (⟨"MixedRulesModel", "greatestTable", "(I)I"⟩, 41), (⟨"MixedRulesModel", "lettersOf", "(II)I"⟩, 41), (⟨"MixedRulesModel", "hops", "(I)Z"⟩, 41)]
theorem lw_r2 : ∀ q ∈ lw_privs_2, lw_okq q := List.forall_mem_cons.mpr ⟨lw_p16, List.forall_mem_cons.mpr ⟨lw_p17, List.forall_mem_cons.mpr ⟨lw_p18, List.forall_mem_cons.mpr ⟨lw_p19, List.forall_mem_cons.mpr ⟨lw_p20, List.forall_mem_cons.mpr ⟨lw_p21, List.forall_mem_cons.mpr ⟨lw_p22, List.forall_mem_cons.mpr ⟨lw_p23, List.forall_mem_cons.mpr ⟨lw_p24, List.forall_mem_cons.mpr ⟨lw_p25, List.forall_mem_cons.mpr ⟨lw_p26, List.forall_mem_cons.mpr ⟨lw_p27, List.forall_mem_cons.mpr ⟨lw_p28, List.forall_mem_cons.mpr ⟨lw_p29, List.forall_mem_cons.mpr ⟨lw_p30, List.forall_mem_cons.mpr ⟨lw_p31, fun _ h => absurd h List.not_mem_nil⟩⟩⟩⟩⟩⟩⟩⟩⟩⟩⟩⟩⟩⟩⟩⟩
theorem lw_p32 : lw_okq (⟨"MixedRulesModel", "isOfMovers", "(II)Z"⟩, 41) := ⟨⟨by decide +kernel, by decide +kernel⟩, List.mem_of_getElem? (i := 823) (by decide +kernel), List.mem_of_getElem? (i := 1197) (by decide +kernel), List.mem_of_getElem? (i := 1198) (by decide +kernel)⟩
theorem lw_p33 : lw_okq (⟨"MixedRulesModel", "canGo", "(II)Z"⟩, 41) := ⟨⟨by decide +kernel, by decide +kernel⟩, List.mem_of_getElem? (i := 823) (by decide +kernel), List.mem_of_getElem? (i := 1221) (by decide +kernel), List.mem_of_getElem? (i := 1222) (by decide +kernel)⟩
theorem lw_p34 : lw_okq (⟨"MixedRulesModel", "links", "()I"⟩, 41) := ⟨⟨by decide +kernel, by decide +kernel⟩, List.mem_of_getElem? (i := 823) (by decide +kernel), List.mem_of_getElem? (i := 1237) (by decide +kernel), List.mem_of_getElem? (i := 1238) (by decide +kernel)⟩
def lw_privs_3 : List (MethodName × Nat) := [(⟨"MixedRulesModel", "isOfMovers", "(II)Z"⟩, 41), (⟨"MixedRulesModel", "canGo", "(II)Z"⟩, 41), (⟨"MixedRulesModel", "links", "()I"⟩, 41)]
theorem lw_r3 : ∀ q ∈ lw_privs_3, lw_okq q := List.forall_mem_cons.mpr ⟨lw_p32, List.forall_mem_cons.mpr ⟨lw_p33, List.forall_mem_cons.mpr ⟨lw_p34, fun _ h => absurd h List.not_mem_nil⟩⟩⟩
def lw_privs : List (MethodName × Nat) := lw_privs_1 ++ (lw_privs_2 ++ (lw_privs_3))
def lw_tbl : List Cond := k2_sels lw_privs ++ tables_1
theorem lw_privs_ok : ∀ q ∈ lw_privs, lw_okq q := by
  show ∀ q ∈ lw_privs_1 ++ (lw_privs_2 ++ (lw_privs_3)), lw_okq q
  exact List.forall_mem_append.mpr ⟨lw_r1, List.forall_mem_append.mpr ⟨lw_r2, lw_r3⟩⟩

def RX0 : String := "MixedRules$Flow"
def TX0 : u_T := fun k => match k with
  | 0 => ("MixedRules$Flow", "source", "I", false)
  | 1 => ("MixedRules$Flow", "goal", "I", false)
  | 2 => ("MixedRules$Flow", "size", "I", false)
  | 3 => ("MixedRules$Flow", "post", "I", false)
  | 4 => ("MixedRules$Flow", "oldRules", "[I", true)
  | 5 => ("MixedRules$Flow", "newRules", "[I", true)
  | 6 => ("MixedRules$Flow", "turned", "I", false)
  | 7 => ("MixedRules$Flow", "phase", "I", false)
  | 8 => ("MixedRules$Flow", "rounds", "[I", true)
  | 9 => ("MixedRules$Flow", "roundCount", "I", false)
  | _ => ("MixedRules$Flow", "roundsDone", "I", false)
def tyX0 : Nat → FieldType := fun k => match k with
  | 0 => .int
  | 1 => .int
  | 2 => .int
  | 3 => .int
  | 4 => .array .int
  | 5 => .array .int
  | 6 => .int
  | 7 => .int
  | 8 => .array .int
  | 9 => .int
  | _ => .int

theorem nmX0 : ∀ a, a < 11 → ∀ b, b < 11 → a ≠ b → (TX0 a).2.1 ≠ (TX0 b).2.1 := by decide +kernel
theorem tyX0_ok : ∀ k, k < 11 → parseFieldDescriptor (TX0 k).2.2.1 = some (tyX0 k) := by decide +kernel

def RX1 : String := "MixedRules$Judge"
def TX1 : u_T := fun k => match k with
  | 0 => ("MixedRules$Judge", "net", "LMixedRules$Net;", true)
  | 1 => ("MixedRules$Judge", "path", "LMixedRules$Path;", true)
  | _ => ("MixedRules$Judge", "weight", "[I", true)
def tyX1 : Nat → FieldType := fun k => match k with
  | 0 => .object "MixedRules$Net"
  | 1 => .object "MixedRules$Path"
  | _ => .array .int

theorem nmX1 : ∀ a, a < 3 → ∀ b, b < 3 → a ≠ b → (TX1 a).2.1 ≠ (TX1 b).2.1 := by decide +kernel
theorem tyX1_ok : ∀ k, k < 3 → parseFieldDescriptor (TX1 k).2.2.1 = some (tyX1 k) := by decide +kernel

def RX2 : String := "MixedRules$Letter"
def TX2 : u_T := fun k => match k with
  | 0 => ("MixedRules$Letter", "flow", "I", false)
  | 1 => ("MixedRules$Letter", "node", "I", false)
  | 2 => ("MixedRules$Letter", "hops", "I", false)
  | 3 => ("MixedRules$Letter", "met", "I", false)
  | 4 => ("MixedRules$Letter", "roundsThen", "I", false)
  | 5 => ("MixedRules$Letter", "stamped", "Z", false)
  | 6 => ("MixedRules$Letter", "wentByOld", "Z", false)
  | _ => ("MixedRules$Letter", "wentByNew", "Z", false)
def tyX2 : Nat → FieldType := fun k => match k with
  | 0 => .int
  | 1 => .int
  | 2 => .int
  | 3 => .int
  | 4 => .int
  | 5 => .boolean
  | 6 => .boolean
  | _ => .boolean

theorem nmX2 : ∀ a, a < 8 → ∀ b, b < 8 → a ≠ b → (TX2 a).2.1 ≠ (TX2 b).2.1 := by decide +kernel
theorem tyX2_ok : ∀ k, k < 8 → parseFieldDescriptor (TX2 k).2.2.1 = some (tyX2 k) := by decide +kernel

def RX3 : String := "MixedRules$Mail"
def TX3 : u_T := fun k => match k with
  | 0 => ("MixedRules$Mail", "net", "LMixedRules$Net;", true)
  | 1 => ("MixedRules$Mail", "letters", "[LMixedRules$Letter;", true)
  | 2 => ("MixedRules$Mail", "underWay", "I", false)
  | 3 => ("MixedRules$Mail", "there", "I", false)
  | 4 => ("MixedRules$Mail", "thereUnposted", "I", false)
  | 5 => ("MixedRules$Mail", "thereMixed", "I", false)
  | _ => ("MixedRules$Mail", "lost", "I", false)
def tyX3 : Nat → FieldType := fun k => match k with
  | 0 => .object "MixedRules$Net"
  | 1 => .array (.object "MixedRules$Letter")
  | 2 => .int
  | 3 => .int
  | 4 => .int
  | 5 => .int
  | _ => .int

theorem nmX3 : ∀ a, a < 7 → ∀ b, b < 7 → a ≠ b → (TX3 a).2.1 ≠ (TX3 b).2.1 := by decide +kernel
theorem tyX3_ok : ∀ k, k < 7 → parseFieldDescriptor (TX3 k).2.2.1 = some (tyX3 k) := by decide +kernel

def RX4 : String := "MixedRules$Net"
def TX4 : u_T := fun k => match k with
  | 0 => ("MixedRules$Net", "nodes", "I", false)
  | 1 => ("MixedRules$Net", "wanted", "I", false)
  | 2 => ("MixedRules$Net", "slotCount", "I", false)
  | 3 => ("MixedRules$Net", "room", "[I", true)
  | _ => ("MixedRules$Net", "flows", "[LMixedRules$Flow;", true)
def tyX4 : Nat → FieldType := fun k => match k with
  | 0 => .int
  | 1 => .int
  | 2 => .int
  | 3 => .array .int
  | _ => .array (.object "MixedRules$Flow")

theorem nmX4 : ∀ a, a < 5 → ∀ b, b < 5 → a ≠ b → (TX4 a).2.1 ≠ (TX4 b).2.1 := by decide +kernel
theorem tyX4_ok : ∀ k, k < 5 → parseFieldDescriptor (TX4 k).2.2.1 = some (tyX4 k) := by decide +kernel

def RX5 : String := "MixedRules$Path"
def TX5 : u_T := fun k => match k with
  | 0 => ("MixedRules$Path", "met", "I", false)
  | 1 => ("MixedRules$Path", "end", "I", false)
  | 2 => ("MixedRules$Path", "arrives", "Z", false)
  | _ => ("MixedRules$Path", "next", "[I", true)
def tyX5 : Nat → FieldType := fun k => match k with
  | 0 => .int
  | 1 => .int
  | 2 => .boolean
  | _ => .array .int

theorem nmX5 : ∀ a, a < 4 → ∀ b, b < 4 → a ≠ b → (TX5 a).2.1 ≠ (TX5 b).2.1 := by decide +kernel
theorem tyX5_ok : ∀ k, k < 4 → parseFieldDescriptor (TX5 k).2.2.1 = some (tyX5 k) := by decide +kernel

def RX6 : String := "MixedRules$Planner"
def TX6 : u_T := fun k => match k with
  | 0 => ("MixedRules$Planner", "net", "LMixedRules$Net;", true)
  | 1 => ("MixedRules$Planner", "judge", "LMixedRules$Judge;", true)
  | 2 => ("MixedRules$Planner", "turned", "I", false)
  | 3 => ("MixedRules$Planner", "movers", "I", false)
  | 4 => ("MixedRules$Planner", "isSound", "[Z", true)
  | 5 => ("MixedRules$Planner", "fewest", "[I", true)
  | 6 => ("MixedRules$Planner", "first", "[I", true)
  | _ => ("MixedRules$Planner", "isSafe", "[Z", true)
def tyX6 : Nat → FieldType := fun k => match k with
  | 0 => .object "MixedRules$Net"
  | 1 => .object "MixedRules$Judge"
  | 2 => .int
  | 3 => .int
  | 4 => .array .boolean
  | 5 => .array .int
  | 6 => .array .int
  | _ => .array .boolean

theorem nmX6 : ∀ a, a < 8 → ∀ b, b < 8 → a ≠ b → (TX6 a).2.1 ≠ (TX6 b).2.1 := by decide +kernel
theorem tyX6_ok : ∀ k, k < 8 → parseFieldDescriptor (TX6 k).2.2.1 = some (tyX6 k) := by decide +kernel

def RX7 : String := "MixedRules$Reader"
def TX7 : u_T := fun k => match k with
  | 0 => ("MixedRules$Reader", "net", "LMixedRules$Net;", true)
  | 1 => ("MixedRules$Reader", "letters", "[I", true)
  | 2 => ("MixedRules$Reader", "length", "I", false)
  | 3 => ("MixedRules$Reader", "tokenKind", "I", false)
  | 4 => ("MixedRules$Reader", "tokenStart", "I", false)
  | 5 => ("MixedRules$Reader", "tokenEnd", "I", false)
  | 6 => ("MixedRules$Reader", "clauses", "[I", true)
  | 7 => ("MixedRules$Reader", "clauseCount", "I", false)
  | 8 => ("MixedRules$Reader", "nodes", "I", false)
  | 9 => ("MixedRules$Reader", "sources", "[I", true)
  | _ => ("MixedRules$Reader", "goals", "[I", true)
def tyX7 : Nat → FieldType := fun k => match k with
  | 0 => .object "MixedRules$Net"
  | 1 => .array .int
  | 2 => .int
  | 3 => .int
  | 4 => .int
  | 5 => .int
  | 6 => .array .int
  | 7 => .int
  | 8 => .int
  | 9 => .array .int
  | _ => .array .int

theorem nmX7 : ∀ a, a < 11 → ∀ b, b < 11 → a ≠ b → (TX7 a).2.1 ≠ (TX7 b).2.1 := by decide +kernel
theorem tyX7_ok : ∀ k, k < 11 → parseFieldDescriptor (TX7 k).2.2.1 = some (tyX7 k) := by decide +kernel

def RX8 : String := "MixedRules"
def TX8 : u_T := fun k => match k with
  | 0 => ("MixedRules", "net", "LMixedRules$Net;", true)
  | 1 => ("MixedRules", "judge", "LMixedRules$Judge;", true)
  | 2 => ("MixedRules", "planner", "LMixedRules$Planner;", true)
  | 3 => ("MixedRules", "mail", "LMixedRules$Mail;", true)
  | _ => ("MixedRules", "reader", "LMixedRules$Reader;", true)
def tyX8 : Nat → FieldType := fun k => match k with
  | 0 => .object "MixedRules$Net"
  | 1 => .object "MixedRules$Judge"
  | 2 => .object "MixedRules$Planner"
  | 3 => .object "MixedRules$Mail"
  | _ => .object "MixedRules$Reader"

theorem nmX8 : ∀ a, a < 5 → ∀ b, b < 5 → a ≠ b → (TX8 a).2.1 ≠ (TX8 b).2.1 := by decide +kernel
theorem tyX8_ok : ∀ k, k < 5 → parseFieldDescriptor (TX8 k).2.2.1 = some (tyX8 k) := by decide +kernel

def RX9 : String := "MixedRulesModel"
def TX9 : u_T := fun k => match k with
  | 0 => ("MixedRulesModel", "nodes", "I", false)
  | 1 => ("MixedRulesModel", "rooms", "[I", true)
  | 2 => ("MixedRulesModel", "sources", "[I", true)
  | 3 => ("MixedRulesModel", "goals", "[I", true)
  | 4 => ("MixedRulesModel", "sizes", "[I", true)
  | 5 => ("MixedRulesModel", "posts", "[I", true)
  | 6 => ("MixedRulesModel", "olds", "[I", true)
  | 7 => ("MixedRulesModel", "news", "[I", true)
  | 8 => ("MixedRulesModel", "wanted", "I", false)
  | 9 => ("MixedRulesModel", "slots", "I", false)
  | 10 => ("MixedRulesModel", "turned", "[I", true)
  | 11 => ("MixedRulesModel", "phases", "[I", true)
  | 12 => ("MixedRulesModel", "rounds", "[I", true)
  | 13 => ("MixedRulesModel", "roundsMany", "[I", true)
  | 14 => ("MixedRulesModel", "done", "[I", true)
  | 15 => ("MixedRulesModel", "letters", "[I", true)
  | 16 => ("MixedRulesModel", "lettersMany", "I", false)
  | 17 => ("MixedRulesModel", "there", "I", false)
  | 18 => ("MixedRulesModel", "without", "I", false)
  | 19 => ("MixedRulesModel", "mixed", "I", false)
  | 20 => ("MixedRulesModel", "lost", "I", false)
  | 21 => ("MixedRulesModel", "text", "[I", true)
  | 22 => ("MixedRulesModel", "length", "I", false)
  | 23 => ("MixedRulesModel", "first", "I", false)
  | 24 => ("MixedRulesModel", "behind", "I", false)
  | 25 => ("MixedRulesModel", "told", "I", false)
  | 26 => ("MixedRulesModel", "toldSources", "[I", true)
  | 27 => ("MixedRulesModel", "toldGoals", "[I", true)
  | 28 => ("MixedRulesModel", "clauses", "I", false)
  | 29 => ("MixedRulesModel", "doing", "Z", false)
  | 30 => ("MixedRulesModel", "numbers", "[I", true)
  | 31 => ("MixedRulesModel", "words", "[I", true)
  | 32 => ("MixedRulesModel", "way", "[I", true)
  | 33 => ("MixedRulesModel", "wayMany", "I", false)
  | 34 => ("MixedRulesModel", "met", "I", false)
  | 35 => ("MixedRulesModel", "arrives", "Z", false)
  | 36 => ("MixedRulesModel", "sets", "[I", true)
  | 37 => ("MixedRulesModel", "needs", "[I", true)
  | 38 => ("MixedRulesModel", "sounds", "[Z", true)
  | 39 => ("MixedRulesModel", "far", "[I", true)
  | _ => ("MixedRulesModel", "firsts", "[I", true)
def tyX9 : Nat → FieldType := fun k => match k with
  | 0 => .int
  | 1 => .array .int
  | 2 => .array .int
  | 3 => .array .int
  | 4 => .array .int
  | 5 => .array .int
  | 6 => .array .int
  | 7 => .array .int
  | 8 => .int
  | 9 => .int
  | 10 => .array .int
  | 11 => .array .int
  | 12 => .array .int
  | 13 => .array .int
  | 14 => .array .int
  | 15 => .array .int
  | 16 => .int
  | 17 => .int
  | 18 => .int
  | 19 => .int
  | 20 => .int
  | 21 => .array .int
  | 22 => .int
  | 23 => .int
  | 24 => .int
  | 25 => .int
  | 26 => .array .int
  | 27 => .array .int
  | 28 => .int
  | 29 => .boolean
  | 30 => .array .int
  | 31 => .array .int
  | 32 => .array .int
  | 33 => .int
  | 34 => .int
  | 35 => .boolean
  | 36 => .array .int
  | 37 => .array .int
  | 38 => .array .boolean
  | 39 => .array .int
  | _ => .array .int

theorem nmX9 : ∀ a, a < 41 → ∀ b, b < 41 → a ≠ b → (TX9 a).2.1 ≠ (TX9 b).2.1 := by decide +kernel
theorem tyX9_ok : ∀ k, k < 41 → parseFieldDescriptor (TX9 k).2.2.1 = some (tyX9 k) := by decide +kernel


/-! the program as data: every method's instructions by place, what its pool indices name; written by wip/whole/gen.py -/
def am_cn (k : Nat) : String := match k with
  | 0 => "MixedRules$Flow"
  | 1 => "MixedRules$Judge"
  | 2 => "MixedRules$Letter"
  | 3 => "MixedRules$Mail"
  | 4 => "MixedRules$Net"
  | 5 => "MixedRules$Path"
  | 6 => "MixedRules$Planner"
  | 7 => "MixedRules$Reader"
  | 8 => "MixedRules"
  | 9 => "MixedRulesModel"
  | 10 => "java/lang/Integer"
  | 11 => "java/lang/Math"
  | 12 => "java/lang/String"
  | 13 => "java/lang/StringLatin1"
  | 14 => "MixedRulesLaw"
  | 15 => "jdk/internal/util/Preconditions"
  | _ => ""
abbrev mI_Fl_init : Nat := 0
abbrev mI_Fl_lay : Nat := 1
abbrev mI_Fl_calm : Nat := 2
abbrev mI_Fl_setOld : Nat := 3
abbrev mI_Fl_setNew : Nat := 4
abbrev mI_Fl_oldAt : Nat := 5
abbrev mI_Fl_newAt : Nat := 6
abbrev mI_Fl_ruleAt : Nat := 7
abbrev mI_Fl_isMover : Nat := 8
abbrev mI_Fl_movers : Nat := 9
abbrev mI_Fl_areMovers : Nat := 10
abbrev mI_Fl_isRound : Nat := 11
abbrev mI_Fl_turnRound : Nat := 12
abbrev mI_Fl_takeBack : Nat := 13
abbrev mI_Ju_init : Nat := 14
abbrev mI_Ju_weigh : Nat := 15
abbrev mI_Ju_addPath : Nat := 16
abbrev mI_Ju_weightAt : Nat := 17
abbrev mI_Ju_whatHolds : Nat := 18
abbrev mI_Ju_isRingless : Nat := 19
abbrev mI_Ju_pathHasRoom : Nat := 20
abbrev mI_Ju_firstUnsound : Nat := 21
abbrev mI_Ju_firstMissing : Nat := 22
abbrev mI_Le_init : Nat := 23
abbrev mI_Le_isMixed : Nat := 24
abbrev mI_Ma_init : Nat := 25
abbrev mI_Ma_forgetAll : Nat := 26
abbrev mI_Ma_letterAt : Nat := 27
abbrev mI_Ma_post : Nat := 28
abbrev mI_Ma_staleness : Nat := 29
abbrev mI_Ma_hasStale : Nat := 30
abbrev mI_Ma_countOf : Nat := 31
abbrev mI_Ma_hopAll : Nat := 32
abbrev mI_Ma_hop : Nat := 33
abbrev mI_Ma_noteArrival : Nat := 34
abbrev mI_Ne_init : Nat := 35
abbrev mI_Ne_startAnew : Nat := 36
abbrev mI_Ne_calmFlows : Nat := 37
abbrev mI_Ne_isNode : Nat := 38
abbrev mI_Ne_flowAt : Nat := 39
abbrev mI_Ne_roomAt : Nat := 40
abbrev mI_Ne_setRoom : Nat := 41
abbrev mI_Ne_linkCount : Nat := 42
abbrev mI_Ne_tableAt : Nat := 43
abbrev mI_Ne_greatestTable : Nat := 44
abbrev mI_Pa_init : Nat := 45
abbrev mI_Pa_follow : Nat := 46
abbrev mI_Pl_init : Nat := 47
abbrev mI_Pl_findPlan : Nat := 48
abbrev mI_Pl_settle : Nat := 49
abbrev mI_Pl_chooseFirstRound : Nat := 50
abbrev mI_Pl_arePartsSafe : Nat := 51
abbrev mI_Pl_fewestFrom : Nat := 52
abbrev mI_Pl_roundCount : Nat := 53
abbrev mI_Pl_roundAt : Nat := 54
abbrev mI_Pl_firstFrom : Nat := 55
abbrev mI_Re_init : Nat := 56
abbrev mI_Re_append : Nat := 57
abbrev mI_Re_findFault : Nat := 58
abbrev mI_Re_foreseeNet : Nat := 59
abbrev mI_Re_letterAt : Nat := 60
abbrev mI_Re_nextToken : Nat := 61
abbrev mI_Re_kindOf : Nat := 62
abbrev mI_Re_isSemicolon : Nat := 63
abbrev mI_Re_readClause : Nat := 64
abbrev mI_Re_clauseKind : Nat := 65
abbrev mI_Re_tokenIs : Nat := 66
abbrev mI_Re_wordOf : Nat := 67
abbrev mI_Re_numbersOf : Nat := 68
abbrev mI_Re_clauseAt : Nat := 69
abbrev mI_Re_sourceOf : Nat := 70
abbrev mI_Re_goalOf : Nat := 71
abbrev mI_Re_numberFits : Nat := 72
abbrev mI_Re_foresee : Nat := 73
abbrev mI_Re_doClauses : Nat := 74
abbrev mI_Re_doClause : Nat := 75
abbrev mI_Mx_init : Nat := 76
abbrev mI_Mx_write : Nat := 77
abbrev mI_Mx_erase : Nat := 78
abbrev mI_Mx_fault : Nat := 79
abbrev mI_Mx_rules : Nat := 80
abbrev mI_Mx_room : Nat := 81
abbrev mI_Mx_load : Nat := 82
abbrev mI_Mx_flow : Nat := 83
abbrev mI_Mx_rule : Nat := 84
abbrev mI_Mx_table : Nat := 85
abbrev mI_Mx_link : Nat := 86
abbrev mI_Mx_want : Nat := 87
abbrev mI_Mx_slots : Nat := 88
abbrev mI_Mx_turn : Nat := 89
abbrev mI_Mx_force : Nat := 90
abbrev mI_Mx_advance : Nat := 91
abbrev mI_Mx_reverse : Nat := 92
abbrev mI_Mx_ready : Nat := 93
abbrev mI_Mx_flip : Nat := 94
abbrev mI_Mx_finish : Nat := 95
abbrev mI_Mx_cancel : Nat := 96
abbrev mI_Mx_send : Nat := 97
abbrev mI_Mx_tick : Nat := 98
abbrev mI_Mx_sound : Nat := 99
abbrev mI_Mx_walk : Nat := 100
abbrev mI_Mx_safe : Nat := 101
abbrev mI_Mx_plan : Nat := 102
abbrev mI_Mx_rounds : Nat := 103
abbrev mI_Mx_order : Nat := 104
abbrev mI_Mx_waits : Nat := 105
abbrev mI_Mx_letter : Nat := 106
abbrev mI_Mx_count : Nat := 107
abbrev mI_Mx_isPlace : Nat := 108
abbrev mI_Mo_init : Nat := 109
abbrev mI_Mo_in : Nat := 110
abbrev mI_Mo_has : Nat := 111
abbrev mI_Mo_isNode : Nat := 112
abbrev mI_Mo_isFlow : Nat := 113
abbrev mI_Mo_flows : Nat := 114
abbrev mI_Mo_begins : Nat := 115
abbrev mI_Mo_write : Nat := 116
abbrev mI_Mo_erase : Nat := 117
abbrev mI_Mo_isSmall : Nat := 118
abbrev mI_Mo_isDigit : Nat := 119
abbrev mI_Mo_nextToken : Nat := 120
abbrev mI_Mo_wordHere : Nat := 121
abbrev mI_Mo_number : Nat := 122
abbrev mI_Mo_node : Nat := 123
abbrev mI_Mo_readsRest : Nat := 124
abbrev mI_Mo_does : Nat := 125
abbrev mI_Mo_readsClause : Nat := 126
abbrev mI_Mo_reads : Nat := 127
abbrev mI_Mo_fault : Nat := 128
abbrev mI_Mo_rules : Nat := 129
abbrev mI_Mo_movers : Nat := 130
abbrev mI_Mo_ruleBy : Nat := 131
abbrev mI_Mo_walks : Nat := 132
abbrev mI_Mo_needsOf : Nat := 133
abbrev mI_Mo_asTurned : Nat := 134
abbrev mI_Mo_isRoom : Nat := 135
abbrev mI_Mo_isRing : Nat := 136
abbrev mI_Mo_holds : Nat := 137
abbrev mI_Mo_isSound : Nat := 138
abbrev mI_Mo_isSafe : Nat := 139
abbrev mI_Mo_firstOf : Nat := 140
abbrev mI_Mo_plans : Nat := 141
abbrev mI_Mo_plansNow : Nat := 142
abbrev mI_Mo_room : Nat := 143
abbrev mI_Mo_load : Nat := 144
abbrev mI_Mo_flow : Nat := 145
abbrev mI_Mo_rule : Nat := 146
abbrev mI_Mo_tableWith : Nat := 147
abbrev mI_Mo_table : Nat := 148
abbrev mI_Mo_greatestTable : Nat := 149
abbrev mI_Mo_link : Nat := 150
abbrev mI_Mo_want : Nat := 151
abbrev mI_Mo_slots : Nat := 152
abbrev mI_Mo_isRound : Nat := 153
abbrev mI_Mo_turns : Nat := 154
abbrev mI_Mo_isStale : Nat := 155
abbrev mI_Mo_lettersOf : Nat := 156
abbrev mI_Mo_turn : Nat := 157
abbrev mI_Mo_force : Nat := 158
abbrev mI_Mo_advance : Nat := 159
abbrev mI_Mo_reverse : Nat := 160
abbrev mI_Mo_ready : Nat := 161
abbrev mI_Mo_flip : Nat := 162
abbrev mI_Mo_finish : Nat := 163
abbrev mI_Mo_cancel : Nat := 164
abbrev mI_Mo_send : Nat := 165
abbrev mI_Mo_hops : Nat := 166
abbrev mI_Mo_tick : Nat := 167
abbrev mI_Mo_isOfMovers : Nat := 168
abbrev mI_Mo_sound : Nat := 169
abbrev mI_Mo_walk : Nat := 170
abbrev mI_Mo_leastUnsound : Nat := 171
abbrev mI_Mo_safe : Nat := 172
abbrev mI_Mo_plan : Nat := 173
abbrev mI_Mo_rounds : Nat := 174
abbrev mI_Mo_canGo : Nat := 175
abbrev mI_Mo_order : Nat := 176
abbrev mI_Mo_waits : Nat := 177
abbrev mI_Mo_letter : Nat := 178
abbrev mI_Mo_links : Nat := 179
abbrev mI_Mo_count : Nat := 180
abbrev mI_Jint_bitCount : Nat := 181
abbrev mI_Jmath_max : Nat := 182
abbrev mI_Jstr_length : Nat := 183
abbrev mI_Jstr_charAt : Nat := 184
abbrev mI_Jstr_coder : Nat := 185
abbrev mI_Jstr_isLatin1 : Nat := 186
abbrev mI_Jstr_checkIndex : Nat := 187
abbrev mI_Jlat_charAt : Nat := 188
abbrev mI_Jpre_checkIndex : Nat := 189
abbrev mI_Law_law : Nat := 190
def am_y (k : Nat) : MethodName := match k with
  | 0 => ⟨"MixedRules$Flow", "<init>", "()V"⟩
  | 1 => ⟨"MixedRules$Flow", "lay", "(III)V"⟩
  | 2 => ⟨"MixedRules$Flow", "calm", "()V"⟩
  | 3 => ⟨"MixedRules$Flow", "setOld", "(II)V"⟩
  | 4 => ⟨"MixedRules$Flow", "setNew", "(II)V"⟩
  | 5 => ⟨"MixedRules$Flow", "oldAt", "(I)I"⟩
  | 6 => ⟨"MixedRules$Flow", "newAt", "(I)I"⟩
  | 7 => ⟨"MixedRules$Flow", "ruleAt", "(II)I"⟩
  | 8 => ⟨"MixedRules$Flow", "isMover", "(I)Z"⟩
  | 9 => ⟨"MixedRules$Flow", "movers", "()I"⟩
  | 10 => ⟨"MixedRules$Flow", "areMovers", "(I)Z"⟩
  | 11 => ⟨"MixedRules$Flow", "isRound", "(I)Z"⟩
  | 12 => ⟨"MixedRules$Flow", "turnRound", "(I)V"⟩
  | 13 => ⟨"MixedRules$Flow", "takeBack", "()V"⟩
  | 14 => ⟨"MixedRules$Judge", "<init>", "(LMixedRules$Net;)V"⟩
  | 15 => ⟨"MixedRules$Judge", "weigh", "(II)V"⟩
  | 16 => ⟨"MixedRules$Judge", "addPath", "(I)V"⟩
  | 17 => ⟨"MixedRules$Judge", "weightAt", "(II)I"⟩
  | 18 => ⟨"MixedRules$Judge", "whatHolds", "(LMixedRules$Flow;I)I"⟩
  | 19 => ⟨"MixedRules$Judge", "isRingless", "(LMixedRules$Flow;I)Z"⟩
  | 20 => ⟨"MixedRules$Judge", "pathHasRoom", "(I)Z"⟩
  | 21 => ⟨"MixedRules$Judge", "firstUnsound", "(II)I"⟩
  | 22 => ⟨"MixedRules$Judge", "firstMissing", "(LMixedRules$Flow;I)I"⟩
  | 23 => ⟨"MixedRules$Letter", "<init>", "()V"⟩
  | 24 => ⟨"MixedRules$Letter", "isMixed", "()Z"⟩
  | 25 => ⟨"MixedRules$Mail", "<init>", "(LMixedRules$Net;)V"⟩
  | 26 => ⟨"MixedRules$Mail", "forgetAll", "()V"⟩
  | 27 => ⟨"MixedRules$Mail", "letterAt", "(I)LMixedRules$Letter;"⟩
  | 28 => ⟨"MixedRules$Mail", "post", "(I)Z"⟩
  | 29 => ⟨"MixedRules$Mail", "staleness", "(LMixedRules$Letter;)I"⟩
  | 30 => ⟨"MixedRules$Mail", "hasStale", "(I)Z"⟩
  | 31 => ⟨"MixedRules$Mail", "countOf", "(IZ)I"⟩
  | 32 => ⟨"MixedRules$Mail", "hopAll", "()I"⟩
  | 33 => ⟨"MixedRules$Mail", "hop", "(LMixedRules$Letter;)I"⟩
  | 34 => ⟨"MixedRules$Mail", "noteArrival", "(LMixedRules$Letter;)V"⟩
  | 35 => ⟨"MixedRules$Net", "<init>", "()V"⟩
  | 36 => ⟨"MixedRules$Net", "startAnew", "(I)V"⟩
  | 37 => ⟨"MixedRules$Net", "calmFlows", "()V"⟩
  | 38 => ⟨"MixedRules$Net", "isNode", "(I)Z"⟩
  | 39 => ⟨"MixedRules$Net", "flowAt", "(I)LMixedRules$Flow;"⟩
  | 40 => ⟨"MixedRules$Net", "roomAt", "(II)I"⟩
  | 41 => ⟨"MixedRules$Net", "setRoom", "(III)V"⟩
  | 42 => ⟨"MixedRules$Net", "linkCount", "()I"⟩
  | 43 => ⟨"MixedRules$Net", "tableAt", "(I)I"⟩
  | 44 => ⟨"MixedRules$Net", "greatestTable", "()I"⟩
  | 45 => ⟨"MixedRules$Path", "<init>", "()V"⟩
  | 46 => ⟨"MixedRules$Path", "follow", "(LMixedRules$Net;LMixedRules$Flow;I)V"⟩
  | 47 => ⟨"MixedRules$Planner", "<init>", "(LMixedRules$Net;LMixedRules$Judge;)V"⟩
  | 48 => ⟨"MixedRules$Planner", "findPlan", "(II)Z"⟩
  | 49 => ⟨"MixedRules$Planner", "settle", "(LMixedRules$Flow;I)V"⟩
  | 50 => ⟨"MixedRules$Planner", "chooseFirstRound", "(I)V"⟩
  | 51 => ⟨"MixedRules$Planner", "arePartsSafe", "(I)Z"⟩
  | 52 => ⟨"MixedRules$Planner", "fewestFrom", "(I)I"⟩
  | 53 => ⟨"MixedRules$Planner", "roundCount", "()I"⟩
  | 54 => ⟨"MixedRules$Planner", "roundAt", "(I)I"⟩
  | 55 => ⟨"MixedRules$Planner", "firstFrom", "(I)I"⟩
  | 56 => ⟨"MixedRules$Reader", "<init>", "(LMixedRules$Net;)V"⟩
  | 57 => ⟨"MixedRules$Reader", "append", "(I)Z"⟩
  | 58 => ⟨"MixedRules$Reader", "findFault", "()I"⟩
  | 59 => ⟨"MixedRules$Reader", "foreseeNet", "()V"⟩
  | 60 => ⟨"MixedRules$Reader", "letterAt", "(I)I"⟩
  | 61 => ⟨"MixedRules$Reader", "nextToken", "()V"⟩
  | 62 => ⟨"MixedRules$Reader", "kindOf", "(I)I"⟩
  | 63 => ⟨"MixedRules$Reader", "isSemicolon", "()Z"⟩
  | 64 => ⟨"MixedRules$Reader", "readClause", "()Z"⟩
  | 65 => ⟨"MixedRules$Reader", "clauseKind", "()I"⟩
  | 66 => ⟨"MixedRules$Reader", "tokenIs", "(Ljava/lang/String;)Z"⟩
  | 67 => ⟨"MixedRules$Reader", "wordOf", "(I)Ljava/lang/String;"⟩
  | 68 => ⟨"MixedRules$Reader", "numbersOf", "(I)I"⟩
  | 69 => ⟨"MixedRules$Reader", "clauseAt", "(I)I"⟩
  | 70 => ⟨"MixedRules$Reader", "sourceOf", "(I)I"⟩
  | 71 => ⟨"MixedRules$Reader", "goalOf", "(I)I"⟩
  | 72 => ⟨"MixedRules$Reader", "numberFits", "(II)Z"⟩
  | 73 => ⟨"MixedRules$Reader", "foresee", "(I)V"⟩
  | 74 => ⟨"MixedRules$Reader", "doClauses", "()V"⟩
  | 75 => ⟨"MixedRules$Reader", "doClause", "(I)V"⟩
  | 76 => ⟨"MixedRules", "<init>", "()V"⟩
  | 77 => ⟨"MixedRules", "write", "(I)I"⟩
  | 78 => ⟨"MixedRules", "erase", "()I"⟩
  | 79 => ⟨"MixedRules", "fault", "()I"⟩
  | 80 => ⟨"MixedRules", "rules", "()I"⟩
  | 81 => ⟨"MixedRules", "room", "(II)I"⟩
  | 82 => ⟨"MixedRules", "load", "(II)I"⟩
  | 83 => ⟨"MixedRules", "flow", "(II)I"⟩
  | 84 => ⟨"MixedRules", "rule", "(III)I"⟩
  | 85 => ⟨"MixedRules", "table", "(I)I"⟩
  | 86 => ⟨"MixedRules", "link", "(III)I"⟩
  | 87 => ⟨"MixedRules", "want", "(I)I"⟩
  | 88 => ⟨"MixedRules", "slots", "(I)I"⟩
  | 89 => ⟨"MixedRules", "turn", "(II)I"⟩
  | 90 => ⟨"MixedRules", "force", "(II)I"⟩
  | 91 => ⟨"MixedRules", "advance", "(I)I"⟩
  | 92 => ⟨"MixedRules", "reverse", "(I)I"⟩
  | 93 => ⟨"MixedRules", "ready", "(I)I"⟩
  | 94 => ⟨"MixedRules", "flip", "(I)I"⟩
  | 95 => ⟨"MixedRules", "finish", "(I)I"⟩
  | 96 => ⟨"MixedRules", "cancel", "(I)I"⟩
  | 97 => ⟨"MixedRules", "send", "(I)I"⟩
  | 98 => ⟨"MixedRules", "tick", "()I"⟩
  | 99 => ⟨"MixedRules", "sound", "(II)I"⟩
  | 100 => ⟨"MixedRules", "walk", "(III)I"⟩
  | 101 => ⟨"MixedRules", "safe", "(III)I"⟩
  | 102 => ⟨"MixedRules", "plan", "(II)I"⟩
  | 103 => ⟨"MixedRules", "rounds", "(I)I"⟩
  | 104 => ⟨"MixedRules", "order", "(I)I"⟩
  | 105 => ⟨"MixedRules", "waits", "(II)I"⟩
  | 106 => ⟨"MixedRules", "letter", "(II)I"⟩
  | 107 => ⟨"MixedRules", "count", "(I)I"⟩
  | 108 => ⟨"MixedRules", "isPlace", "(II)Z"⟩
  | 109 => ⟨"MixedRulesModel", "<init>", "()V"⟩
  | 110 => ⟨"MixedRulesModel", "in", "(JJJ)Z"⟩
  | 111 => ⟨"MixedRulesModel", "has", "(II)Z"⟩
  | 112 => ⟨"MixedRulesModel", "isNode", "(I)Z"⟩
  | 113 => ⟨"MixedRulesModel", "isFlow", "(I)Z"⟩
  | 114 => ⟨"MixedRulesModel", "flows", "(IIII)V"⟩
  | 115 => ⟨"MixedRulesModel", "begins", "(I)V"⟩
  | 116 => ⟨"MixedRulesModel", "write", "(I)I"⟩
  | 117 => ⟨"MixedRulesModel", "erase", "()I"⟩
  | 118 => ⟨"MixedRulesModel", "isSmall", "(I)Z"⟩
  | 119 => ⟨"MixedRulesModel", "isDigit", "(I)Z"⟩
  | 120 => ⟨"MixedRulesModel", "nextToken", "()V"⟩
  | 121 => ⟨"MixedRulesModel", "wordHere", "()I"⟩
  | 122 => ⟨"MixedRulesModel", "number", "(IIIII)Z"⟩
  | 123 => ⟨"MixedRulesModel", "node", "(III)Z"⟩
  | 124 => ⟨"MixedRulesModel", "readsRest", "(I)Z"⟩
  | 125 => ⟨"MixedRulesModel", "does", "(I)V"⟩
  | 126 => ⟨"MixedRulesModel", "readsClause", "()Z"⟩
  | 127 => ⟨"MixedRulesModel", "reads", "(Z)Z"⟩
  | 128 => ⟨"MixedRulesModel", "fault", "()I"⟩
  | 129 => ⟨"MixedRulesModel", "rules", "()I"⟩
  | 130 => ⟨"MixedRulesModel", "movers", "(I)I"⟩
  | 131 => ⟨"MixedRulesModel", "ruleBy", "(III)I"⟩
  | 132 => ⟨"MixedRulesModel", "walks", "(II)V"⟩
  | 133 => ⟨"MixedRulesModel", "needsOf", "(II)V"⟩
  | 134 => ⟨"MixedRulesModel", "asTurned", "()V"⟩
  | 135 => ⟨"MixedRulesModel", "isRoom", "(I)Z"⟩
  | 136 => ⟨"MixedRulesModel", "isRing", "(II)Z"⟩
  | 137 => ⟨"MixedRulesModel", "holds", "(II)I"⟩
  | 138 => ⟨"MixedRulesModel", "isSound", "(II)Z"⟩
  | 139 => ⟨"MixedRulesModel", "isSafe", "(II)Z"⟩
  | 140 => ⟨"MixedRulesModel", "firstOf", "(III)I"⟩
  | 141 => ⟨"MixedRulesModel", "plans", "(I)V"⟩
  | 142 => ⟨"MixedRulesModel", "plansNow", "(I)V"⟩
  | 143 => ⟨"MixedRulesModel", "room", "(II)I"⟩
  | 144 => ⟨"MixedRulesModel", "load", "(II)I"⟩
  | 145 => ⟨"MixedRulesModel", "flow", "(II)I"⟩
  | 146 => ⟨"MixedRulesModel", "rule", "(III)I"⟩
  | 147 => ⟨"MixedRulesModel", "tableWith", "(II)I"⟩
  | 148 => ⟨"MixedRulesModel", "table", "(I)I"⟩
  | 149 => ⟨"MixedRulesModel", "greatestTable", "(I)I"⟩
  | 150 => ⟨"MixedRulesModel", "link", "(III)I"⟩
  | 151 => ⟨"MixedRulesModel", "want", "(I)I"⟩
  | 152 => ⟨"MixedRulesModel", "slots", "(I)I"⟩
  | 153 => ⟨"MixedRulesModel", "isRound", "(II)Z"⟩
  | 154 => ⟨"MixedRulesModel", "turns", "(II)V"⟩
  | 155 => ⟨"MixedRulesModel", "isStale", "(I)Z"⟩
  | 156 => ⟨"MixedRulesModel", "lettersOf", "(II)I"⟩
  | 157 => ⟨"MixedRulesModel", "turn", "(II)I"⟩
  | 158 => ⟨"MixedRulesModel", "force", "(II)I"⟩
  | 159 => ⟨"MixedRulesModel", "advance", "(I)I"⟩
  | 160 => ⟨"MixedRulesModel", "reverse", "(I)I"⟩
  | 161 => ⟨"MixedRulesModel", "ready", "(I)I"⟩
  | 162 => ⟨"MixedRulesModel", "flip", "(I)I"⟩
  | 163 => ⟨"MixedRulesModel", "finish", "(I)I"⟩
  | 164 => ⟨"MixedRulesModel", "cancel", "(I)I"⟩
  | 165 => ⟨"MixedRulesModel", "send", "(I)I"⟩
  | 166 => ⟨"MixedRulesModel", "hops", "(I)Z"⟩
  | 167 => ⟨"MixedRulesModel", "tick", "()I"⟩
  | 168 => ⟨"MixedRulesModel", "isOfMovers", "(II)Z"⟩
  | 169 => ⟨"MixedRulesModel", "sound", "(II)I"⟩
  | 170 => ⟨"MixedRulesModel", "walk", "(III)I"⟩
  | 171 => ⟨"MixedRulesModel", "leastUnsound", "(II)I"⟩
  | 172 => ⟨"MixedRulesModel", "safe", "(III)I"⟩
  | 173 => ⟨"MixedRulesModel", "plan", "(II)I"⟩
  | 174 => ⟨"MixedRulesModel", "rounds", "(I)I"⟩
  | 175 => ⟨"MixedRulesModel", "canGo", "(II)Z"⟩
  | 176 => ⟨"MixedRulesModel", "order", "(I)I"⟩
  | 177 => ⟨"MixedRulesModel", "waits", "(II)I"⟩
  | 178 => ⟨"MixedRulesModel", "letter", "(II)I"⟩
  | 179 => ⟨"MixedRulesModel", "links", "()I"⟩
  | 180 => ⟨"MixedRulesModel", "count", "(I)I"⟩
  | 181 => ⟨"java/lang/Integer", "bitCount", "(I)I"⟩
  | 182 => ⟨"java/lang/Math", "max", "(II)I"⟩
  | 183 => ⟨"java/lang/String", "length", "()I"⟩
  | 184 => ⟨"java/lang/String", "charAt", "(I)C"⟩
  | 185 => ⟨"java/lang/String", "coder", "()B"⟩
  | 186 => ⟨"java/lang/String", "isLatin1", "()Z"⟩
  | 187 => ⟨"java/lang/String", "checkIndex", "(II)V"⟩
  | 188 => ⟨"java/lang/StringLatin1", "charAt", "([BI)C"⟩
  | 189 => ⟨"jdk/internal/util/Preconditions", "checkIndex", "(IILjava/util/function/BiFunction;)I"⟩
  | 190 => ⟨"MixedRulesLaw", "law", "([I)Z"⟩
  | _ => ⟨"", "", ""⟩
def am_by (k : Nat) : ByteArray := match k with
  | 0 => prog_2_method_1_code
  | 1 => prog_2_method_2_code
  | 2 => prog_2_method_3_code
  | 3 => prog_2_method_4_code
  | 4 => prog_2_method_5_code
  | 5 => prog_2_method_6_code
  | 6 => prog_2_method_7_code
  | 7 => prog_2_method_8_code
  | 8 => prog_2_method_9_code
  | 9 => prog_2_method_10_code
  | 10 => prog_2_method_11_code
  | 11 => prog_2_method_12_code
  | 12 => prog_2_method_13_code
  | 13 => prog_2_method_14_code
  | 14 => prog_3_method_1_code
  | 15 => prog_3_method_2_code
  | 16 => prog_3_method_3_code
  | 17 => prog_3_method_4_code
  | 18 => prog_3_method_5_code
  | 19 => prog_3_method_6_code
  | 20 => prog_3_method_7_code
  | 21 => prog_3_method_8_code
  | 22 => prog_3_method_9_code
  | 23 => prog_4_method_1_code
  | 24 => prog_4_method_2_code
  | 25 => prog_5_method_1_code
  | 26 => prog_5_method_2_code
  | 27 => prog_5_method_3_code
  | 28 => prog_5_method_4_code
  | 29 => prog_5_method_5_code
  | 30 => prog_5_method_6_code
  | 31 => prog_5_method_7_code
  | 32 => prog_5_method_8_code
  | 33 => prog_5_method_9_code
  | 34 => prog_5_method_10_code
  | 35 => prog_6_method_1_code
  | 36 => prog_6_method_2_code
  | 37 => prog_6_method_3_code
  | 38 => prog_6_method_4_code
  | 39 => prog_6_method_5_code
  | 40 => prog_6_method_6_code
  | 41 => prog_6_method_7_code
  | 42 => prog_6_method_8_code
  | 43 => prog_6_method_9_code
  | 44 => prog_6_method_10_code
  | 45 => prog_7_method_1_code
  | 46 => prog_7_method_2_code
  | 47 => prog_8_method_1_code
  | 48 => prog_8_method_2_code
  | 49 => prog_8_method_3_code
  | 50 => prog_8_method_4_code
  | 51 => prog_8_method_5_code
  | 52 => prog_8_method_6_code
  | 53 => prog_8_method_7_code
  | 54 => prog_8_method_8_code
  | 55 => prog_8_method_9_code
  | 56 => prog_9_method_1_code
  | 57 => prog_9_method_2_code
  | 58 => prog_9_method_3_code
  | 59 => prog_9_method_4_code
  | 60 => prog_9_method_5_code
  | 61 => prog_9_method_6_code
  | 62 => prog_9_method_7_code
  | 63 => prog_9_method_8_code
  | 64 => prog_9_method_9_code
  | 65 => prog_9_method_10_code
  | 66 => prog_9_method_11_code
  | 67 => prog_9_method_12_code
  | 68 => prog_9_method_13_code
  | 69 => prog_9_method_14_code
  | 70 => prog_9_method_15_code
  | 71 => prog_9_method_16_code
  | 72 => prog_9_method_17_code
  | 73 => prog_9_method_18_code
  | 74 => prog_9_method_19_code
  | 75 => prog_9_method_20_code
  | 76 => prog_1_method_1_code
  | 77 => prog_1_method_2_code
  | 78 => prog_1_method_3_code
  | 79 => prog_1_method_4_code
  | 80 => prog_1_method_5_code
  | 81 => prog_1_method_6_code
  | 82 => prog_1_method_7_code
  | 83 => prog_1_method_8_code
  | 84 => prog_1_method_9_code
  | 85 => prog_1_method_10_code
  | 86 => prog_1_method_11_code
  | 87 => prog_1_method_12_code
  | 88 => prog_1_method_13_code
  | 89 => prog_1_method_14_code
  | 90 => prog_1_method_15_code
  | 91 => prog_1_method_16_code
  | 92 => prog_1_method_17_code
  | 93 => prog_1_method_18_code
  | 94 => prog_1_method_19_code
  | 95 => prog_1_method_20_code
  | 96 => prog_1_method_21_code
  | 97 => prog_1_method_22_code
  | 98 => prog_1_method_23_code
  | 99 => prog_1_method_24_code
  | 100 => prog_1_method_25_code
  | 101 => prog_1_method_26_code
  | 102 => prog_1_method_27_code
  | 103 => prog_1_method_28_code
  | 104 => prog_1_method_29_code
  | 105 => prog_1_method_30_code
  | 106 => prog_1_method_31_code
  | 107 => prog_1_method_32_code
  | 108 => prog_1_method_33_code
  | 109 => prog_11_method_1_code
  | 110 => prog_11_method_2_code
  | 111 => prog_11_method_3_code
  | 112 => prog_11_method_5_code
  | 113 => prog_11_method_6_code
  | 114 => prog_11_method_7_code
  | 115 => prog_11_method_8_code
  | 116 => prog_11_method_9_code
  | 117 => prog_11_method_10_code
  | 118 => prog_11_method_11_code
  | 119 => prog_11_method_12_code
  | 120 => prog_11_method_13_code
  | 121 => prog_11_method_14_code
  | 122 => prog_11_method_15_code
  | 123 => prog_11_method_16_code
  | 124 => prog_11_method_17_code
  | 125 => prog_11_method_18_code
  | 126 => prog_11_method_19_code
  | 127 => prog_11_method_20_code
  | 128 => prog_11_method_21_code
  | 129 => prog_11_method_22_code
  | 130 => prog_11_method_23_code
  | 131 => prog_11_method_24_code
  | 132 => prog_11_method_25_code
  | 133 => prog_11_method_26_code
  | 134 => prog_11_method_27_code
  | 135 => prog_11_method_28_code
  | 136 => prog_11_method_29_code
  | 137 => prog_11_method_30_code
  | 138 => prog_11_method_31_code
  | 139 => prog_11_method_32_code
  | 140 => prog_11_method_33_code
  | 141 => prog_11_method_34_code
  | 142 => prog_11_method_35_code
  | 143 => prog_11_method_36_code
  | 144 => prog_11_method_37_code
  | 145 => prog_11_method_38_code
  | 146 => prog_11_method_39_code
  | 147 => prog_11_method_40_code
  | 148 => prog_11_method_41_code
  | 149 => prog_11_method_42_code
  | 150 => prog_11_method_43_code
  | 151 => prog_11_method_44_code
  | 152 => prog_11_method_45_code
  | 153 => prog_11_method_46_code
  | 154 => prog_11_method_47_code
  | 155 => prog_11_method_48_code
  | 156 => prog_11_method_49_code
  | 157 => prog_11_method_50_code
  | 158 => prog_11_method_51_code
  | 159 => prog_11_method_52_code
  | 160 => prog_11_method_53_code
  | 161 => prog_11_method_54_code
  | 162 => prog_11_method_55_code
  | 163 => prog_11_method_56_code
  | 164 => prog_11_method_57_code
  | 165 => prog_11_method_58_code
  | 166 => prog_11_method_59_code
  | 167 => prog_11_method_60_code
  | 168 => prog_11_method_61_code
  | 169 => prog_11_method_62_code
  | 170 => prog_11_method_63_code
  | 171 => prog_11_method_64_code
  | 172 => prog_11_method_65_code
  | 173 => prog_11_method_66_code
  | 174 => prog_11_method_67_code
  | 175 => prog_11_method_68_code
  | 176 => prog_11_method_69_code
  | 177 => prog_11_method_70_code
  | 178 => prog_11_method_71_code
  | 179 => prog_11_method_72_code
  | 180 => prog_11_method_73_code
  | 181 => prog_12_method_49_code
  | 182 => prog_13_method_65_code
  | 183 => prog_14_method_54_code
  | 184 => prog_14_method_56_code
  | 185 => prog_14_method_152_code
  | 186 => prog_14_method_154_code
  | 187 => prog_14_method_155_code
  | 188 => prog_15_method_2_code
  | 189 => prog_17_method_11_code
  | 190 => code
  | _ => .mk #[]
def am_ow (k : Nat) : Nat := match k with
  | 0 => 0
  | 1 => 0
  | 2 => 0
  | 3 => 0
  | 4 => 0
  | 5 => 0
  | 6 => 0
  | 7 => 0
  | 8 => 0
  | 9 => 0
  | 10 => 0
  | 11 => 0
  | 12 => 0
  | 13 => 0
  | 14 => 1
  | 15 => 1
  | 16 => 1
  | 17 => 1
  | 18 => 1
  | 19 => 1
  | 20 => 1
  | 21 => 1
  | 22 => 1
  | 23 => 2
  | 24 => 2
  | 25 => 3
  | 26 => 3
  | 27 => 3
  | 28 => 3
  | 29 => 3
  | 30 => 3
  | 31 => 3
  | 32 => 3
  | 33 => 3
  | 34 => 3
  | 35 => 4
  | 36 => 4
  | 37 => 4
  | 38 => 4
  | 39 => 4
  | 40 => 4
  | 41 => 4
  | 42 => 4
  | 43 => 4
  | 44 => 4
  | 45 => 5
  | 46 => 5
  | 47 => 6
  | 48 => 6
  | 49 => 6
  | 50 => 6
  | 51 => 6
  | 52 => 6
  | 53 => 6
  | 54 => 6
  | 55 => 6
  | 56 => 7
  | 57 => 7
  | 58 => 7
  | 59 => 7
  | 60 => 7
  | 61 => 7
  | 62 => 7
  | 63 => 7
  | 64 => 7
  | 65 => 7
  | 66 => 7
  | 67 => 7
  | 68 => 7
  | 69 => 7
  | 70 => 7
  | 71 => 7
  | 72 => 7
  | 73 => 7
  | 74 => 7
  | 75 => 7
  | 76 => 8
  | 77 => 8
  | 78 => 8
  | 79 => 8
  | 80 => 8
  | 81 => 8
  | 82 => 8
  | 83 => 8
  | 84 => 8
  | 85 => 8
  | 86 => 8
  | 87 => 8
  | 88 => 8
  | 89 => 8
  | 90 => 8
  | 91 => 8
  | 92 => 8
  | 93 => 8
  | 94 => 8
  | 95 => 8
  | 96 => 8
  | 97 => 8
  | 98 => 8
  | 99 => 8
  | 100 => 8
  | 101 => 8
  | 102 => 8
  | 103 => 8
  | 104 => 8
  | 105 => 8
  | 106 => 8
  | 107 => 8
  | 108 => 8
  | 109 => 9
  | 110 => 9
  | 111 => 9
  | 112 => 9
  | 113 => 9
  | 114 => 9
  | 115 => 9
  | 116 => 9
  | 117 => 9
  | 118 => 9
  | 119 => 9
  | 120 => 9
  | 121 => 9
  | 122 => 9
  | 123 => 9
  | 124 => 9
  | 125 => 9
  | 126 => 9
  | 127 => 9
  | 128 => 9
  | 129 => 9
  | 130 => 9
  | 131 => 9
  | 132 => 9
  | 133 => 9
  | 134 => 9
  | 135 => 9
  | 136 => 9
  | 137 => 9
  | 138 => 9
  | 139 => 9
  | 140 => 9
  | 141 => 9
  | 142 => 9
  | 143 => 9
  | 144 => 9
  | 145 => 9
  | 146 => 9
  | 147 => 9
  | 148 => 9
  | 149 => 9
  | 150 => 9
  | 151 => 9
  | 152 => 9
  | 153 => 9
  | 154 => 9
  | 155 => 9
  | 156 => 9
  | 157 => 9
  | 158 => 9
  | 159 => 9
  | 160 => 9
  | 161 => 9
  | 162 => 9
  | 163 => 9
  | 164 => 9
  | 165 => 9
  | 166 => 9
  | 167 => 9
  | 168 => 9
  | 169 => 9
  | 170 => 9
  | 171 => 9
  | 172 => 9
  | 173 => 9
  | 174 => 9
  | 175 => 9
  | 176 => 9
  | 177 => 9
  | 178 => 9
  | 179 => 9
  | 180 => 9
  | 181 => 10
  | 182 => 11
  | 183 => 12
  | 184 => 12
  | 185 => 12
  | 186 => 12
  | 187 => 12
  | 188 => 13
  | 189 => 15
  | 190 => 14
  | _ => 99
def am_ml (k : Nat) : Nat := match k with
  | 0 => 1
  | 1 => 5
  | 2 => 1
  | 3 => 3
  | 4 => 3
  | 5 => 2
  | 6 => 2
  | 7 => 3
  | 8 => 2
  | 9 => 3
  | 10 => 2
  | 11 => 2
  | 12 => 2
  | 13 => 2
  | 14 => 2
  | 15 => 5
  | 16 => 4
  | 17 => 3
  | 18 => 4
  | 19 => 8
  | 20 => 4
  | 21 => 6
  | 22 => 5
  | 23 => 1
  | 24 => 1
  | 25 => 3
  | 26 => 1
  | 27 => 2
  | 28 => 4
  | 29 => 3
  | 30 => 3
  | 31 => 5
  | 32 => 6
  | 33 => 5
  | 34 => 3
  | 35 => 2
  | 36 => 3
  | 37 => 2
  | 38 => 2
  | 39 => 2
  | 40 => 3
  | 41 => 4
  | 42 => 3
  | 43 => 5
  | 44 => 3
  | 45 => 1
  | 46 => 7
  | 47 => 3
  | 48 => 7
  | 49 => 3
  | 50 => 7
  | 51 => 3
  | 52 => 2
  | 53 => 1
  | 54 => 4
  | 55 => 2
  | 56 => 2
  | 57 => 2
  | 58 => 2
  | 59 => 3
  | 60 => 2
  | 61 => 1
  | 62 => 1
  | 63 => 1
  | 64 => 5
  | 65 => 2
  | 66 => 3
  | 67 => 1
  | 68 => 1
  | 69 => 2
  | 70 => 2
  | 71 => 2
  | 72 => 10
  | 73 => 5
  | 74 => 2
  | 75 => 7
  | 76 => 1
  | 77 => 2
  | 78 => 2
  | 79 => 1
  | 80 => 1
  | 81 => 3
  | 82 => 3
  | 83 => 4
  | 84 => 5
  | 85 => 2
  | 86 => 5
  | 87 => 3
  | 88 => 3
  | 89 => 4
  | 90 => 4
  | 91 => 4
  | 92 => 3
  | 93 => 4
  | 94 => 3
  | 95 => 3
  | 96 => 4
  | 97 => 2
  | 98 => 1
  | 99 => 4
  | 100 => 6
  | 101 => 6
  | 102 => 3
  | 103 => 2
  | 104 => 5
  | 105 => 8
  | 106 => 4
  | 107 => 2
  | 108 => 2
  | 109 => 1
  | 110 => 6
  | 111 => 2
  | 112 => 2
  | 113 => 1
  | 114 => 6
  | 115 => 3
  | 116 => 2
  | 117 => 2
  | 118 => 1
  | 119 => 1
  | 120 => 1
  | 121 => 4
  | 122 => 8
  | 123 => 4
  | 124 => 2
  | 125 => 3
  | 126 => 3
  | 127 => 3
  | 128 => 1
  | 129 => 2
  | 130 => 4
  | 131 => 4
  | 132 => 6
  | 133 => 5
  | 134 => 2
  | 135 => 5
  | 136 => 7
  | 137 => 4
  | 138 => 3
  | 139 => 5
  | 140 => 5
  | 141 => 5
  | 142 => 2
  | 143 => 3
  | 144 => 3
  | 145 => 3
  | 146 => 4
  | 147 => 5
  | 148 => 2
  | 149 => 5
  | 150 => 5
  | 151 => 3
  | 152 => 3
  | 153 => 3
  | 154 => 3
  | 155 => 4
  | 156 => 5
  | 157 => 3
  | 158 => 3
  | 159 => 3
  | 160 => 2
  | 161 => 2
  | 162 => 2
  | 163 => 2
  | 164 => 3
  | 165 => 3
  | 166 => 6
  | 167 => 5
  | 168 => 3
  | 169 => 3
  | 170 => 4
  | 171 => 4
  | 172 => 7
  | 173 => 5
  | 174 => 2
  | 175 => 4
  | 176 => 5
  | 177 => 4
  | 178 => 4
  | 179 => 3
  | 180 => 2
  | 181 => 1
  | 182 => 2
  | 183 => 1
  | 184 => 2
  | 185 => 1
  | 186 => 1
  | 187 => 2
  | 188 => 2
  | 189 => 3
  | 190 => 4
  | _ => 0
def am_ht (k : Nat) : Nat := match k with
  | 0 => 2
  | 1 => 1
  | 2 => 1
  | 3 => 2
  | 4 => 2
  | 5 => 2
  | 6 => 2
  | 7 => 2
  | 8 => 3
  | 9 => 1
  | 10 => 2
  | 11 => 3
  | 12 => 2
  | 13 => 2
  | 14 => 2
  | 15 => 4
  | 16 => 2
  | 17 => 2
  | 18 => 4
  | 19 => 3
  | 20 => 3
  | 21 => 6
  | 22 => 5
  | 23 => 1
  | 24 => 1
  | 25 => 2
  | 26 => 1
  | 27 => 2
  | 28 => 3
  | 29 => 3
  | 30 => 4
  | 31 => 1
  | 32 => 5
  | 33 => 4
  | 34 => 3
  | 35 => 3
  | 36 => 2
  | 37 => 2
  | 38 => 1
  | 39 => 2
  | 40 => 2
  | 41 => 2
  | 42 => 1
  | 43 => 3
  | 44 => 4
  | 45 => 1
  | 46 => 3
  | 47 => 1
  | 48 => 6
  | 49 => 5
  | 50 => 2
  | 51 => 1
  | 52 => 2
  | 53 => 3
  | 54 => 3
  | 55 => 2
  | 56 => 1
  | 57 => 2
  | 58 => 8
  | 59 => 3
  | 60 => 2
  | 61 => 3
  | 62 => 1
  | 63 => 3
  | 64 => 7
  | 65 => 6
  | 66 => 5
  | 67 => 1
  | 68 => 1
  | 69 => 2
  | 70 => 2
  | 71 => 2
  | 72 => 3
  | 73 => 3
  | 74 => 4
  | 75 => 3
  | 76 => 4
  | 77 => 3
  | 78 => 1
  | 79 => 9
  | 80 => 9
  | 81 => 3
  | 82 => 5
  | 83 => 3
  | 84 => 3
  | 85 => 4
  | 86 => 3
  | 87 => 1
  | 88 => 1
  | 89 => 7
  | 90 => 4
  | 91 => 7
  | 92 => 3
  | 93 => 5
  | 94 => 3
  | 95 => 3
  | 96 => 3
  | 97 => 4
  | 98 => 6
  | 99 => 5
  | 100 => 4
  | 101 => 7
  | 102 => 7
  | 103 => 7
  | 104 => 7
  | 105 => 5
  | 106 => 4
  | 107 => 5
  | 108 => 1
  | 109 => 3
  | 110 => 1
  | 111 => 1
  | 112 => 2
  | 113 => 2
  | 114 => 1
  | 115 => 2
  | 116 => 2
  | 117 => 1
  | 118 => 2
  | 119 => 2
  | 120 => 3
  | 121 => 1
  | 122 => 4
  | 123 => 5
  | 124 => 6
  | 125 => 3
  | 126 => 7
  | 127 => 8
  | 128 => 9
  | 129 => 9
  | 130 => 1
  | 131 => 2
  | 132 => 3
  | 133 => 4
  | 134 => 1
  | 135 => 1
  | 136 => 3
  | 137 => 4
  | 138 => 5
  | 139 => 1
  | 140 => 2
  | 141 => 6
  | 142 => 7
  | 143 => 3
  | 144 => 5
  | 145 => 3
  | 146 => 3
  | 147 => 3
  | 148 => 4
  | 149 => 4
  | 150 => 3
  | 151 => 2
  | 152 => 2
  | 153 => 2
  | 154 => 1
  | 155 => 1
  | 156 => 1
  | 157 => 7
  | 158 => 3
  | 159 => 8
  | 160 => 3
  | 161 => 5
  | 162 => 3
  | 163 => 3
  | 164 => 3
  | 165 => 3
  | 166 => 2
  | 167 => 3
  | 168 => 2
  | 169 => 5
  | 170 => 4
  | 171 => 6
  | 172 => 7
  | 173 => 8
  | 174 => 8
  | 175 => 7
  | 176 => 8
  | 177 => 5
  | 178 => 2
  | 179 => 1
  | 180 => 5
  | 181 => 1
  | 182 => 1
  | 183 => 2
  | 184 => 4
  | 185 => 1
  | 186 => 1
  | 187 => 2
  | 188 => 3
  | 189 => 1
  | 190 => 10
  | _ => 0
def am_rk (k : Nat) : Nat := match k with
  | 0 => 0
  | 1 => 0
  | 2 => 0
  | 3 => 0
  | 4 => 0
  | 5 => 1
  | 6 => 1
  | 7 => 1
  | 8 => 2
  | 9 => 1
  | 10 => 2
  | 11 => 2
  | 12 => 0
  | 13 => 0
  | 14 => 0
  | 15 => 0
  | 16 => 0
  | 17 => 1
  | 18 => 1
  | 19 => 2
  | 20 => 2
  | 21 => 1
  | 22 => 1
  | 23 => 0
  | 24 => 2
  | 25 => 0
  | 26 => 0
  | 27 => 3
  | 28 => 2
  | 29 => 1
  | 30 => 2
  | 31 => 1
  | 32 => 1
  | 33 => 1
  | 34 => 0
  | 35 => 0
  | 36 => 0
  | 37 => 0
  | 38 => 2
  | 39 => 3
  | 40 => 1
  | 41 => 0
  | 42 => 1
  | 43 => 1
  | 44 => 1
  | 45 => 0
  | 46 => 0
  | 47 => 0
  | 48 => 2
  | 49 => 0
  | 50 => 0
  | 51 => 2
  | 52 => 1
  | 53 => 1
  | 54 => 1
  | 55 => 1
  | 56 => 0
  | 57 => 2
  | 58 => 1
  | 59 => 0
  | 60 => 1
  | 61 => 0
  | 62 => 1
  | 63 => 2
  | 64 => 2
  | 65 => 1
  | 66 => 2
  | 67 => 3
  | 68 => 1
  | 69 => 1
  | 70 => 1
  | 71 => 1
  | 72 => 2
  | 73 => 0
  | 74 => 0
  | 75 => 0
  | 76 => 0
  | 77 => 1
  | 78 => 1
  | 79 => 1
  | 80 => 1
  | 81 => 1
  | 82 => 1
  | 83 => 1
  | 84 => 1
  | 85 => 1
  | 86 => 1
  | 87 => 1
  | 88 => 1
  | 89 => 1
  | 90 => 1
  | 91 => 1
  | 92 => 1
  | 93 => 1
  | 94 => 1
  | 95 => 1
  | 96 => 1
  | 97 => 1
  | 98 => 1
  | 99 => 1
  | 100 => 1
  | 101 => 1
  | 102 => 1
  | 103 => 1
  | 104 => 1
  | 105 => 1
  | 106 => 1
  | 107 => 1
  | 108 => 2
  | 109 => 0
  | 110 => 2
  | 111 => 2
  | 112 => 2
  | 113 => 2
  | 114 => 0
  | 115 => 0
  | 116 => 1
  | 117 => 1
  | 118 => 2
  | 119 => 2
  | 120 => 0
  | 121 => 1
  | 122 => 2
  | 123 => 2
  | 124 => 2
  | 125 => 0
  | 126 => 2
  | 127 => 2
  | 128 => 1
  | 129 => 1
  | 130 => 1
  | 131 => 1
  | 132 => 0
  | 133 => 0
  | 134 => 0
  | 135 => 2
  | 136 => 2
  | 137 => 1
  | 138 => 2
  | 139 => 2
  | 140 => 1
  | 141 => 0
  | 142 => 0
  | 143 => 1
  | 144 => 1
  | 145 => 1
  | 146 => 1
  | 147 => 1
  | 148 => 1
  | 149 => 1
  | 150 => 1
  | 151 => 1
  | 152 => 1
  | 153 => 2
  | 154 => 0
  | 155 => 2
  | 156 => 1
  | 157 => 1
  | 158 => 1
  | 159 => 1
  | 160 => 1
  | 161 => 1
  | 162 => 1
  | 163 => 1
  | 164 => 1
  | 165 => 1
  | 166 => 2
  | 167 => 1
  | 168 => 2
  | 169 => 1
  | 170 => 1
  | 171 => 1
  | 172 => 1
  | 173 => 1
  | 174 => 1
  | 175 => 2
  | 176 => 1
  | 177 => 1
  | 178 => 1
  | 179 => 1
  | 180 => 1
  | 181 => 1
  | 182 => 1
  | 183 => 1
  | 184 => 4
  | 185 => 5
  | 186 => 2
  | 187 => 0
  | 188 => 4
  | 189 => 1
  | 190 => 2
  | _ => 9
def am_rt (k : Nat) : Option FieldType := match k with
  | 0 => (Option.none : Option Jvm.ClassFile.FieldType)
  | 1 => (Option.none : Option Jvm.ClassFile.FieldType)
  | 2 => (Option.none : Option Jvm.ClassFile.FieldType)
  | 3 => (Option.none : Option Jvm.ClassFile.FieldType)
  | 4 => (Option.none : Option Jvm.ClassFile.FieldType)
  | 5 => (Option.some Jvm.ClassFile.FieldType.int)
  | 6 => (Option.some Jvm.ClassFile.FieldType.int)
  | 7 => (Option.some Jvm.ClassFile.FieldType.int)
  | 8 => (Option.some Jvm.ClassFile.FieldType.boolean)
  | 9 => (Option.some Jvm.ClassFile.FieldType.int)
  | 10 => (Option.some Jvm.ClassFile.FieldType.boolean)
  | 11 => (Option.some Jvm.ClassFile.FieldType.boolean)
  | 12 => (Option.none : Option Jvm.ClassFile.FieldType)
  | 13 => (Option.none : Option Jvm.ClassFile.FieldType)
  | 14 => (Option.none : Option Jvm.ClassFile.FieldType)
  | 15 => (Option.none : Option Jvm.ClassFile.FieldType)
  | 16 => (Option.none : Option Jvm.ClassFile.FieldType)
  | 17 => (Option.some Jvm.ClassFile.FieldType.int)
  | 18 => (Option.some Jvm.ClassFile.FieldType.int)
  | 19 => (Option.some Jvm.ClassFile.FieldType.boolean)
  | 20 => (Option.some Jvm.ClassFile.FieldType.boolean)
  | 21 => (Option.some Jvm.ClassFile.FieldType.int)
  | 22 => (Option.some Jvm.ClassFile.FieldType.int)
  | 23 => (Option.none : Option Jvm.ClassFile.FieldType)
  | 24 => (Option.some Jvm.ClassFile.FieldType.boolean)
  | 25 => (Option.none : Option Jvm.ClassFile.FieldType)
  | 26 => (Option.none : Option Jvm.ClassFile.FieldType)
  | 27 => (Option.some (Jvm.ClassFile.FieldType.object "MixedRules$Letter"))
  | 28 => (Option.some Jvm.ClassFile.FieldType.boolean)
  | 29 => (Option.some Jvm.ClassFile.FieldType.int)
  | 30 => (Option.some Jvm.ClassFile.FieldType.boolean)
  | 31 => (Option.some Jvm.ClassFile.FieldType.int)
  | 32 => (Option.some Jvm.ClassFile.FieldType.int)
  | 33 => (Option.some Jvm.ClassFile.FieldType.int)
  | 34 => (Option.none : Option Jvm.ClassFile.FieldType)
  | 35 => (Option.none : Option Jvm.ClassFile.FieldType)
  | 36 => (Option.none : Option Jvm.ClassFile.FieldType)
  | 37 => (Option.none : Option Jvm.ClassFile.FieldType)
  | 38 => (Option.some Jvm.ClassFile.FieldType.boolean)
  | 39 => (Option.some (Jvm.ClassFile.FieldType.object "MixedRules$Flow"))
  | 40 => (Option.some Jvm.ClassFile.FieldType.int)
  | 41 => (Option.none : Option Jvm.ClassFile.FieldType)
  | 42 => (Option.some Jvm.ClassFile.FieldType.int)
  | 43 => (Option.some Jvm.ClassFile.FieldType.int)
  | 44 => (Option.some Jvm.ClassFile.FieldType.int)
  | 45 => (Option.none : Option Jvm.ClassFile.FieldType)
  | 46 => (Option.none : Option Jvm.ClassFile.FieldType)
  | 47 => (Option.none : Option Jvm.ClassFile.FieldType)
  | 48 => (Option.some Jvm.ClassFile.FieldType.boolean)
  | 49 => (Option.none : Option Jvm.ClassFile.FieldType)
  | 50 => (Option.none : Option Jvm.ClassFile.FieldType)
  | 51 => (Option.some Jvm.ClassFile.FieldType.boolean)
  | 52 => (Option.some Jvm.ClassFile.FieldType.int)
  | 53 => (Option.some Jvm.ClassFile.FieldType.int)
  | 54 => (Option.some Jvm.ClassFile.FieldType.int)
  | 55 => (Option.some Jvm.ClassFile.FieldType.int)
  | 56 => (Option.none : Option Jvm.ClassFile.FieldType)
  | 57 => (Option.some Jvm.ClassFile.FieldType.boolean)
  | 58 => (Option.some Jvm.ClassFile.FieldType.int)
  | 59 => (Option.none : Option Jvm.ClassFile.FieldType)
  | 60 => (Option.some Jvm.ClassFile.FieldType.int)
  | 61 => (Option.none : Option Jvm.ClassFile.FieldType)
  | 62 => (Option.some Jvm.ClassFile.FieldType.int)
  | 63 => (Option.some Jvm.ClassFile.FieldType.boolean)
  | 64 => (Option.some Jvm.ClassFile.FieldType.boolean)
  | 65 => (Option.some Jvm.ClassFile.FieldType.int)
  | 66 => (Option.some Jvm.ClassFile.FieldType.boolean)
  | 67 => (Option.some (Jvm.ClassFile.FieldType.object "java/lang/String"))
  | 68 => (Option.some Jvm.ClassFile.FieldType.int)
  | 69 => (Option.some Jvm.ClassFile.FieldType.int)
  | 70 => (Option.some Jvm.ClassFile.FieldType.int)
  | 71 => (Option.some Jvm.ClassFile.FieldType.int)
  | 72 => (Option.some Jvm.ClassFile.FieldType.boolean)
  | 73 => (Option.none : Option Jvm.ClassFile.FieldType)
  | 74 => (Option.none : Option Jvm.ClassFile.FieldType)
  | 75 => (Option.none : Option Jvm.ClassFile.FieldType)
  | 76 => (Option.none : Option Jvm.ClassFile.FieldType)
  | 77 => (Option.some Jvm.ClassFile.FieldType.int)
  | 78 => (Option.some Jvm.ClassFile.FieldType.int)
  | 79 => (Option.some Jvm.ClassFile.FieldType.int)
  | 80 => (Option.some Jvm.ClassFile.FieldType.int)
  | 81 => (Option.some Jvm.ClassFile.FieldType.int)
  | 82 => (Option.some Jvm.ClassFile.FieldType.int)
  | 83 => (Option.some Jvm.ClassFile.FieldType.int)
  | 84 => (Option.some Jvm.ClassFile.FieldType.int)
  | 85 => (Option.some Jvm.ClassFile.FieldType.int)
  | 86 => (Option.some Jvm.ClassFile.FieldType.int)
  | 87 => (Option.some Jvm.ClassFile.FieldType.int)
  | 88 => (Option.some Jvm.ClassFile.FieldType.int)
  | 89 => (Option.some Jvm.ClassFile.FieldType.int)
  | 90 => (Option.some Jvm.ClassFile.FieldType.int)
  | 91 => (Option.some Jvm.ClassFile.FieldType.int)
  | 92 => (Option.some Jvm.ClassFile.FieldType.int)
  | 93 => (Option.some Jvm.ClassFile.FieldType.int)
  | 94 => (Option.some Jvm.ClassFile.FieldType.int)
  | 95 => (Option.some Jvm.ClassFile.FieldType.int)
  | 96 => (Option.some Jvm.ClassFile.FieldType.int)
  | 97 => (Option.some Jvm.ClassFile.FieldType.int)
  | 98 => (Option.some Jvm.ClassFile.FieldType.int)
  | 99 => (Option.some Jvm.ClassFile.FieldType.int)
  | 100 => (Option.some Jvm.ClassFile.FieldType.int)
  | 101 => (Option.some Jvm.ClassFile.FieldType.int)
  | 102 => (Option.some Jvm.ClassFile.FieldType.int)
  | 103 => (Option.some Jvm.ClassFile.FieldType.int)
  | 104 => (Option.some Jvm.ClassFile.FieldType.int)
  | 105 => (Option.some Jvm.ClassFile.FieldType.int)
  | 106 => (Option.some Jvm.ClassFile.FieldType.int)
  | 107 => (Option.some Jvm.ClassFile.FieldType.int)
  | 108 => (Option.some Jvm.ClassFile.FieldType.boolean)
  | 109 => (Option.none : Option Jvm.ClassFile.FieldType)
  | 110 => (Option.some Jvm.ClassFile.FieldType.boolean)
  | 111 => (Option.some Jvm.ClassFile.FieldType.boolean)
  | 112 => (Option.some Jvm.ClassFile.FieldType.boolean)
  | 113 => (Option.some Jvm.ClassFile.FieldType.boolean)
  | 114 => (Option.none : Option Jvm.ClassFile.FieldType)
  | 115 => (Option.none : Option Jvm.ClassFile.FieldType)
  | 116 => (Option.some Jvm.ClassFile.FieldType.int)
  | 117 => (Option.some Jvm.ClassFile.FieldType.int)
  | 118 => (Option.some Jvm.ClassFile.FieldType.boolean)
  | 119 => (Option.some Jvm.ClassFile.FieldType.boolean)
  | 120 => (Option.none : Option Jvm.ClassFile.FieldType)
  | 121 => (Option.some Jvm.ClassFile.FieldType.int)
  | 122 => (Option.some Jvm.ClassFile.FieldType.boolean)
  | 123 => (Option.some Jvm.ClassFile.FieldType.boolean)
  | 124 => (Option.some Jvm.ClassFile.FieldType.boolean)
  | 125 => (Option.none : Option Jvm.ClassFile.FieldType)
  | 126 => (Option.some Jvm.ClassFile.FieldType.boolean)
  | 127 => (Option.some Jvm.ClassFile.FieldType.boolean)
  | 128 => (Option.some Jvm.ClassFile.FieldType.int)
  | 129 => (Option.some Jvm.ClassFile.FieldType.int)
  | 130 => (Option.some Jvm.ClassFile.FieldType.int)
  | 131 => (Option.some Jvm.ClassFile.FieldType.int)
  | 132 => (Option.none : Option Jvm.ClassFile.FieldType)
  | 133 => (Option.none : Option Jvm.ClassFile.FieldType)
  | 134 => (Option.none : Option Jvm.ClassFile.FieldType)
  | 135 => (Option.some Jvm.ClassFile.FieldType.boolean)
  | 136 => (Option.some Jvm.ClassFile.FieldType.boolean)
  | 137 => (Option.some Jvm.ClassFile.FieldType.int)
  | 138 => (Option.some Jvm.ClassFile.FieldType.boolean)
  | 139 => (Option.some Jvm.ClassFile.FieldType.boolean)
  | 140 => (Option.some Jvm.ClassFile.FieldType.int)
  | 141 => (Option.none : Option Jvm.ClassFile.FieldType)
  | 142 => (Option.none : Option Jvm.ClassFile.FieldType)
  | 143 => (Option.some Jvm.ClassFile.FieldType.int)
  | 144 => (Option.some Jvm.ClassFile.FieldType.int)
  | 145 => (Option.some Jvm.ClassFile.FieldType.int)
  | 146 => (Option.some Jvm.ClassFile.FieldType.int)
  | 147 => (Option.some Jvm.ClassFile.FieldType.int)
  | 148 => (Option.some Jvm.ClassFile.FieldType.int)
  | 149 => (Option.some Jvm.ClassFile.FieldType.int)
  | 150 => (Option.some Jvm.ClassFile.FieldType.int)
  | 151 => (Option.some Jvm.ClassFile.FieldType.int)
  | 152 => (Option.some Jvm.ClassFile.FieldType.int)
  | 153 => (Option.some Jvm.ClassFile.FieldType.boolean)
  | 154 => (Option.none : Option Jvm.ClassFile.FieldType)
  | 155 => (Option.some Jvm.ClassFile.FieldType.boolean)
  | 156 => (Option.some Jvm.ClassFile.FieldType.int)
  | 157 => (Option.some Jvm.ClassFile.FieldType.int)
  | 158 => (Option.some Jvm.ClassFile.FieldType.int)
  | 159 => (Option.some Jvm.ClassFile.FieldType.int)
  | 160 => (Option.some Jvm.ClassFile.FieldType.int)
  | 161 => (Option.some Jvm.ClassFile.FieldType.int)
  | 162 => (Option.some Jvm.ClassFile.FieldType.int)
  | 163 => (Option.some Jvm.ClassFile.FieldType.int)
  | 164 => (Option.some Jvm.ClassFile.FieldType.int)
  | 165 => (Option.some Jvm.ClassFile.FieldType.int)
  | 166 => (Option.some Jvm.ClassFile.FieldType.boolean)
  | 167 => (Option.some Jvm.ClassFile.FieldType.int)
  | 168 => (Option.some Jvm.ClassFile.FieldType.boolean)
  | 169 => (Option.some Jvm.ClassFile.FieldType.int)
  | 170 => (Option.some Jvm.ClassFile.FieldType.int)
  | 171 => (Option.some Jvm.ClassFile.FieldType.int)
  | 172 => (Option.some Jvm.ClassFile.FieldType.int)
  | 173 => (Option.some Jvm.ClassFile.FieldType.int)
  | 174 => (Option.some Jvm.ClassFile.FieldType.int)
  | 175 => (Option.some Jvm.ClassFile.FieldType.boolean)
  | 176 => (Option.some Jvm.ClassFile.FieldType.int)
  | 177 => (Option.some Jvm.ClassFile.FieldType.int)
  | 178 => (Option.some Jvm.ClassFile.FieldType.int)
  | 179 => (Option.some Jvm.ClassFile.FieldType.int)
  | 180 => (Option.some Jvm.ClassFile.FieldType.int)
  | 181 => (Option.some Jvm.ClassFile.FieldType.int)
  | 182 => (Option.some Jvm.ClassFile.FieldType.int)
  | 183 => (Option.some Jvm.ClassFile.FieldType.int)
  | 184 => (Option.some Jvm.ClassFile.FieldType.char)
  | 185 => (Option.some Jvm.ClassFile.FieldType.byte)
  | 186 => (Option.some Jvm.ClassFile.FieldType.boolean)
  | 187 => (Option.none : Option Jvm.ClassFile.FieldType)
  | 188 => (Option.some Jvm.ClassFile.FieldType.char)
  | 189 => (Option.some Jvm.ClassFile.FieldType.int)
  | 190 => (Option.some Jvm.ClassFile.FieldType.boolean)
  | _ => none
def am_ff0 (k : Nat) : List Bool := match k with
  | 0 => [false, false, false, false, true, true, false, false, true, false, false]
  | 1 => [true, true, true]
  | 2 => [false, false, false, false, false, false, false, false]
  | 3 => [true, true, false, false, false, false, false]
  | 4 => [false, false, false, true, true]
  | 5 => [false, false, false, true]
  | 6 => [true, true, false, false, true, true, true, true]
  | 7 => [true, true, false, false, false, false, true, false, false, true, true]
  | 8 => [true, true, true, true, true]
  | 9 => [false, true, true, true, true, true, true, true, false, false, true, true, true, true, true, true, false, false, false, false, false, true, false, false, false, false, true, true, false, false, true, true, true, false, false, false, true, true, true, true, true]
  | _ => []
def am_ff (ci f : Nat) : Bool := (am_ff0 ci).getD f true
def am_ii (k : Nat) : Bool := match k with
  | 0 => true
  | 14 => true
  | 23 => true
  | 25 => true
  | 35 => true
  | 45 => true
  | 47 => true
  | 56 => true
  | 76 => true
  | 109 => true
  | _ => false
def mt_Fl_init : List (List (Option (Instr × Nat))) := [
  [some (.aload_n 0, 1), some (.invokespecial 3, 3), none, none, some (.aload_n 0, 1), some (.bipush 8, 2), none, some (.newarray .int, 2), none, some (.putfield 9, 3), none, none, some (.aload_n 0, 1), some (.bipush 8, 2), none, some (.newarray .int, 2)],
  [none, some (.putfield 15, 3), none, none, some (.aload_n 0, 1), some (.bipush 8, 2), none, some (.newarray .int, 2), none, some (.putfield 18, 3), none, none, some (.aload_n 0, 1), some (.iconst 0, 1), some (.iconst 1, 1), some (.iconst 1, 1)],
  [some (.invokevirtual 21, 3), none, none, some (.return_, 1)]]
def mt_Fl_lay : List (List (Option (Instr × Nat))) := [
  [some (.aload_n 0, 1), some (.iload_n 1, 1), some (.putfield 25, 3), none, none, some (.aload_n 0, 1), some (.iload_n 2, 1), some (.putfield 29, 3), none, none, some (.aload_n 0, 1), some (.iload_n 3, 1), some (.putfield 32, 3), none, none, some (.aload_n 0, 1)],
  [some (.iconst (-1), 1), some (.putfield 35, 3), none, none, some (.iconst 0, 1), some (.istore 4, 2), none, some (.iload 4, 2), none, some (.bipush 8, 2), none, some (.if_icmp .ge 25, 3), none, none, some (.aload_n 0, 1), some (.getfield 9, 3)],
  [none, none, some (.iload 4, 2), none, some (.iconst (-1), 1), some (.iastore, 1), some (.aload_n 0, 1), some (.getfield 15, 3), none, none, some (.iload 4, 2), none, some (.iconst (-1), 1), some (.iastore, 1), some (.iinc 4 1, 3), none],
  [none, some (.goto (-26), 3), none, none, some (.return_, 1)]]
def mt_Fl_calm : List (List (Option (Instr × Nat))) := [
  [some (.aload_n 0, 1), some (.iconst 0, 1), some (.putfield 38, 3), none, none, some (.aload_n 0, 1), some (.iconst 0, 1), some (.putfield 41, 3), none, none, some (.aload_n 0, 1), some (.iconst 0, 1), some (.putfield 44, 3), none, none, some (.aload_n 0, 1)],
  [some (.iconst 0, 1), some (.putfield 47, 3), none, none, some (.return_, 1)]]
def mt_Fl_setOld : List (List (Option (Instr × Nat))) := [
  [some (.iload_n 1, 1), some (.aload_n 0, 1), some (.getfield 9, 3), none, none, some (.arraylength, 1), some (.invokestatic 50, 3), none, none, some (.ifCond .eq 10, 3), none, none, some (.aload_n 0, 1), some (.getfield 9, 3), none, none],
  [some (.iload_n 1, 1), some (.iload_n 2, 1), some (.iastore, 1), some (.return_, 1)]]
def mt_Fl_setNew : List (List (Option (Instr × Nat))) := [
  [some (.iload_n 1, 1), some (.aload_n 0, 1), some (.getfield 15, 3), none, none, some (.arraylength, 1), some (.invokestatic 50, 3), none, none, some (.ifCond .eq 10, 3), none, none, some (.aload_n 0, 1), some (.getfield 15, 3), none, none],
  [some (.iload_n 1, 1), some (.iload_n 2, 1), some (.iastore, 1), some (.return_, 1)]]
def mt_Fl_oldAt : List (List (Option (Instr × Nat))) := [
  [some (.iload_n 1, 1), some (.aload_n 0, 1), some (.getfield 9, 3), none, none, some (.arraylength, 1), some (.invokestatic 50, 3), none, none, some (.ifCond .eq 12, 3), none, none, some (.aload_n 0, 1), some (.getfield 9, 3), none, none],
  [some (.iload_n 1, 1), some (.iaload, 1), some (.goto 4, 3), none, none, some (.iconst (-1), 1), some (.ireturn, 1)]]
def mt_Fl_newAt : List (List (Option (Instr × Nat))) := [
  [some (.iload_n 1, 1), some (.aload_n 0, 1), some (.getfield 15, 3), none, none, some (.arraylength, 1), some (.invokestatic 50, 3), none, none, some (.ifCond .eq 12, 3), none, none, some (.aload_n 0, 1), some (.getfield 15, 3), none, none],
  [some (.iload_n 1, 1), some (.iaload, 1), some (.goto 4, 3), none, none, some (.iconst (-1), 1), some (.ireturn, 1)]]
def mt_Fl_ruleAt : List (List (Option (Instr × Nat))) := [
  [some (.iload_n 1, 1), some (.bipush 8, 2), none, some (.invokestatic 50, 3), none, none, some (.ifCond .ne 5, 3), none, none, some (.iconst (-1), 1), some (.ireturn, 1), some (.iload_n 2, 1), some (.iconst 1, 1), some (.iload_n 1, 1), some (.ishl, 1), some (.iand, 1)],
  [some (.ifCond .eq 12, 3), none, none, some (.aload_n 0, 1), some (.getfield 15, 3), none, none, some (.iload_n 1, 1), some (.iaload, 1), some (.goto 9, 3), none, none, some (.aload_n 0, 1), some (.getfield 9, 3), none, none],
  [some (.iload_n 1, 1), some (.iaload, 1), some (.ireturn, 1)]]
def mt_Fl_isMover : List (List (Option (Instr × Nat))) := [
  [some (.aload_n 0, 1), some (.iload_n 1, 1), some (.invokevirtual 54, 3), none, none, some (.aload_n 0, 1), some (.iload_n 1, 1), some (.invokevirtual 58, 3), none, none, some (.if_icmp .eq 7, 3), none, none, some (.iconst 1, 1), some (.goto 4, 3), none],
  [none, some (.iconst 0, 1), some (.ireturn, 1)]]
def mt_Fl_movers : List (List (Option (Instr × Nat))) := [
  [some (.iconst 0, 1), some (.istore_n 1, 1), some (.iconst 0, 1), some (.istore_n 2, 1), some (.iload_n 2, 1), some (.bipush 8, 2), none, some (.if_icmp .ge 30, 3), none, none, some (.aload_n 0, 1), some (.getfield 9, 3), none, none, some (.iload_n 2, 1), some (.iaload, 1)],
  [some (.aload_n 0, 1), some (.getfield 15, 3), none, none, some (.iload_n 2, 1), some (.iaload, 1), some (.if_icmp .eq 9, 3), none, none, some (.iload_n 1, 1), some (.iconst 1, 1), some (.iload_n 2, 1), some (.ishl, 1), some (.ior, 1), some (.istore_n 1, 1), some (.iinc 2 1, 3)],
  [none, none, some (.goto (-30), 3), none, none, some (.iload_n 1, 1), some (.ireturn, 1)]]
def mt_Fl_areMovers : List (List (Option (Instr × Nat))) := [
  [some (.iload_n 1, 1), some (.aload_n 0, 1), some (.invokevirtual 61, 3), none, none, some (.iconst (-1), 1), some (.ixor, 1), some (.iand, 1), some (.ifCond .ne 7, 3), none, none, some (.iconst 1, 1), some (.goto 4, 3), none, none, some (.iconst 0, 1)],
  [some (.ireturn, 1)]]
def mt_Fl_isRound : List (List (Option (Instr × Nat))) := [
  [some (.iload_n 1, 1), some (.ifCond .eq 24, 3), none, none, some (.aload_n 0, 1), some (.iload_n 1, 1), some (.invokevirtual 65, 3), none, none, some (.ifCond .eq 16, 3), none, none, some (.iload_n 1, 1), some (.aload_n 0, 1), some (.getfield 38, 3), none],
  [none, some (.iand, 1), some (.ifCond .ne 7, 3), none, none, some (.iconst 1, 1), some (.goto 4, 3), none, none, some (.iconst 0, 1), some (.ireturn, 1)]]
def mt_Fl_turnRound : List (List (Option (Instr × Nat))) := [
  [some (.aload_n 0, 1), some (.getfield 44, 3), none, none, some (.aload_n 0, 1), some (.getfield 18, 3), none, none, some (.arraylength, 1), some (.invokestatic 50, 3), none, none, some (.ifCond .eq 43, 3), none, none, some (.aload_n 0, 1)],
  [some (.getfield 18, 3), none, none, some (.aload_n 0, 1), some (.getfield 44, 3), none, none, some (.iload_n 1, 1), some (.iastore, 1), some (.aload_n 0, 1), some (.dup, 1), some (.getfield 44, 3), none, none, some (.iconst 1, 1), some (.iadd, 1)],
  [some (.putfield 44, 3), none, none, some (.aload_n 0, 1), some (.dup, 1), some (.getfield 47, 3), none, none, some (.iconst 1, 1), some (.iadd, 1), some (.putfield 47, 3), none, none, some (.aload_n 0, 1), some (.dup, 1), some (.getfield 38, 3)],
  [none, none, some (.iload_n 1, 1), some (.ior, 1), some (.putfield 38, 3), none, none, some (.return_, 1)]]
def mt_Fl_takeBack : List (List (Option (Instr × Nat))) := [
  [some (.aload_n 0, 1), some (.getfield 44, 3), none, none, some (.iconst 1, 1), some (.isub, 1), some (.istore_n 1, 1), some (.iload_n 1, 1), some (.aload_n 0, 1), some (.getfield 18, 3), none, none, some (.arraylength, 1), some (.invokestatic 50, 3), none, none],
  [some (.ifCond .eq 35, 3), none, none, some (.aload_n 0, 1), some (.dup, 1), some (.getfield 38, 3), none, none, some (.aload_n 0, 1), some (.getfield 18, 3), none, none, some (.iload_n 1, 1), some (.iaload, 1), some (.iconst (-1), 1), some (.ixor, 1)],
  [some (.iand, 1), some (.putfield 38, 3), none, none, some (.aload_n 0, 1), some (.iload_n 1, 1), some (.putfield 44, 3), none, none, some (.aload_n 0, 1), some (.dup, 1), some (.getfield 47, 3), none, none, some (.iconst 1, 1), some (.iadd, 1)],
  [some (.putfield 47, 3), none, none, some (.return_, 1)]]
def mt_Ju_init : List (List (Option (Instr × Nat))) := [
  [some (.aload_n 0, 1), some (.invokespecial 3, 3), none, none, some (.aload_n 0, 1), some (.aload_n 1, 1), some (.putfield 9, 3), none, none, some (.aload_n 0, 1), some (.new 15, 3), none, none, some (.dup, 1), some (.invokespecial 17, 3), none],
  [none, some (.putfield 18, 3), none, none, some (.aload_n 0, 1), some (.bipush 64, 2), none, some (.newarray .int, 2), none, some (.putfield 22, 3), none, none, some (.return_, 1)]]
def mt_Ju_weigh : List (List (Option (Instr × Nat))) := [
  [some (.iconst 0, 1), some (.istore_n 3, 1), some (.iload_n 3, 1), some (.bipush 64, 2), none, some (.if_icmp .ge 16, 3), none, none, some (.aload_n 0, 1), some (.getfield 22, 3), none, none, some (.iload_n 3, 1), some (.iconst 0, 1), some (.iastore, 1), some (.iinc 3 1, 3)],
  [none, none, some (.goto (-16), 3), none, none, some (.iconst 0, 1), some (.istore_n 3, 1), some (.iload_n 3, 1), some (.iconst 3, 1), some (.if_icmp .ge 75, 3), none, none, some (.aload_n 0, 1), some (.getfield 9, 3), none, none],
  [some (.iload_n 3, 1), some (.invokevirtual 26, 3), none, none, some (.astore 4, 2), none, some (.aload 4, 2), none, some (.ifnull 54, 3), none, none, some (.iload_n 1, 1), some (.iconst 1, 1), some (.iload_n 3, 1), some (.ishl, 1), some (.iand, 1)],
  [some (.ifCond .ne 46, 3), none, none, some (.aload_n 0, 1), some (.getfield 18, 3), none, none, some (.aload_n 0, 1), some (.getfield 9, 3), none, none, some (.aload 4, 2), none, some (.iload_n 2, 1), some (.iconst 1, 1), some (.iload_n 3, 1)],
  [some (.ishl, 1), some (.iand, 1), some (.ifCond .eq 11, 3), none, none, some (.aload 4, 2), none, some (.invokevirtual 32, 3), none, none, some (.goto 8, 3), none, none, some (.aload 4, 2), none, some (.getfield 38, 3)],
  [none, none, some (.invokevirtual 42, 3), none, none, some (.aload_n 0, 1), some (.aload 4, 2), none, some (.getfield 46, 3), none, none, some (.invokevirtual 49, 3), none, none, some (.iinc 3 1, 3), none],
  [none, some (.goto (-74), 3), none, none, some (.return_, 1)]]
def mt_Ju_addPath : List (List (Option (Instr × Nat))) := [
  [some (.iconst 0, 1), some (.istore_n 2, 1), some (.iload_n 2, 1), some (.bipush 8, 2), none, some (.if_icmp .ge 45, 3), none, none, some (.aload_n 0, 1), some (.getfield 18, 3), none, none, some (.getfield 53, 3), none, none, some (.iload_n 2, 1)],
  [some (.iaload, 1), some (.istore_n 3, 1), some (.aload_n 0, 1), some (.getfield 9, 3), none, none, some (.iload_n 3, 1), some (.invokevirtual 56, 3), none, none, some (.ifCond .eq 18, 3), none, none, some (.aload_n 0, 1), some (.getfield 22, 3), none],
  [none, some (.iload_n 2, 1), some (.bipush 8, 2), none, some (.imul, 1), some (.iload_n 3, 1), some (.iadd, 1), some (.dup2, 1), some (.iaload, 1), some (.iload_n 1, 1), some (.iadd, 1), some (.iastore, 1), some (.iinc 2 1, 3), none, none, some (.goto (-45), 3)],
  [none, none, some (.return_, 1)]]
def mt_Ju_weightAt : List (List (Option (Instr × Nat))) := [
  [some (.aload_n 0, 1), some (.getfield 9, 3), none, none, some (.iload_n 1, 1), some (.invokevirtual 56, 3), none, none, some (.ifCond .eq 28, 3), none, none, some (.aload_n 0, 1), some (.getfield 9, 3), none, none, some (.iload_n 2, 1)],
  [some (.invokevirtual 56, 3), none, none, some (.ifCond .eq 17, 3), none, none, some (.aload_n 0, 1), some (.getfield 22, 3), none, none, some (.iload_n 1, 1), some (.bipush 8, 2), none, some (.imul, 1), some (.iload_n 2, 1), some (.iadd, 1)],
  [some (.iaload, 1), some (.goto 4, 3), none, none, some (.iconst 0, 1), some (.ireturn, 1)]]
def mt_Ju_whatHolds : List (List (Option (Instr × Nat))) := [
  [some (.aload_n 0, 1), some (.getfield 18, 3), none, none, some (.aload_n 0, 1), some (.getfield 9, 3), none, none, some (.aload_n 1, 1), some (.iload_n 2, 1), some (.invokevirtual 42, 3), none, none, some (.iconst 0, 1), some (.istore_n 3, 1), some (.aload_n 0, 1)],
  [some (.getfield 18, 3), none, none, some (.getfield 60, 3), none, none, some (.ifCond .eq 7, 3), none, none, some (.iload_n 3, 1), some (.iconst 1, 1), some (.ior, 1), some (.istore_n 3, 1), some (.aload_n 0, 1), some (.aload_n 1, 1), some (.iload_n 2, 1)],
  [some (.invokevirtual 64, 3), none, none, some (.ifCond .eq 7, 3), none, none, some (.iload_n 3, 1), some (.iconst 2, 1), some (.ior, 1), some (.istore_n 3, 1), some (.aload_n 1, 1), some (.getfield 68, 3), none, none, some (.iconst (-1), 1), some (.if_icmp .eq 20, 3)],
  [none, none, some (.aload_n 0, 1), some (.getfield 18, 3), none, none, some (.getfield 71, 3), none, none, some (.iconst 1, 1), some (.aload_n 1, 1), some (.getfield 68, 3), none, none, some (.ishl, 1), some (.iand, 1)],
  [some (.ifCond .eq 7, 3), none, none, some (.iload_n 3, 1), some (.iconst 4, 1), some (.ior, 1), some (.istore_n 3, 1), some (.aload_n 0, 1), some (.aload_n 1, 1), some (.getfield 46, 3), none, none, some (.invokevirtual 74, 3), none, none, some (.ifCond .eq 8, 3)],
  [none, none, some (.iload_n 3, 1), some (.bipush 8, 2), none, some (.ior, 1), some (.istore_n 3, 1), some (.iload_n 3, 1), some (.ireturn, 1)]]
def mt_Ju_isRingless : List (List (Option (Instr × Nat))) := [
  [some (.iconst 0, 1), some (.istore_n 3, 1), some (.iconst 0, 1), some (.istore 4, 2), none, some (.iload 4, 2), none, some (.bipush 8, 2), none, some (.if_icmp .ge 82, 3), none, none, some (.iconst 0, 1), some (.istore 5, 2), none, some (.iload 4, 2)],
  [none, some (.istore 6, 2), none, some (.iconst 0, 1), some (.istore 7, 2), none, some (.iload 7, 2), none, some (.bipush 8, 2), none, some (.if_icmp .gt 54, 3), none, none, some (.iload 6, 2), none, some (.iconst (-1), 1)],
  [some (.if_icmp .eq 48, 3), none, none, some (.iload_n 3, 1), some (.iconst 1, 1), some (.iload 6, 2), none, some (.ishl, 1), some (.iand, 1), some (.ifCond .ne 39, 3), none, none, some (.iload 5, 2), none, some (.iconst 1, 1), some (.iload 6, 2)],
  [none, some (.ishl, 1), some (.iand, 1), some (.ifCond .eq 5, 3), none, none, some (.iconst 0, 1), some (.ireturn, 1), some (.iload 5, 2), none, some (.iconst 1, 1), some (.iload 6, 2), none, some (.ishl, 1), some (.ior, 1), some (.istore 5, 2)],
  [none, some (.aload_n 1, 1), some (.iload 6, 2), none, some (.iload_n 2, 1), some (.invokevirtual 77, 3), none, none, some (.istore 6, 2), none, some (.iinc 7 1, 3), none, none, some (.goto (-55), 3), none, none],
  [some (.iload_n 3, 1), some (.iload 5, 2), none, some (.ior, 1), some (.istore_n 3, 1), some (.iinc 4 1, 3), none, none, some (.goto (-83), 3), none, none, some (.iconst 1, 1), some (.ireturn, 1)]]
def mt_Ju_pathHasRoom : List (List (Option (Instr × Nat))) := [
  [some (.iconst 0, 1), some (.istore_n 2, 1), some (.iload_n 2, 1), some (.bipush 8, 2), none, some (.if_icmp .ge 46, 3), none, none, some (.aload_n 0, 1), some (.getfield 18, 3), none, none, some (.getfield 53, 3), none, none, some (.iload_n 2, 1)],
  [some (.iaload, 1), some (.istore_n 3, 1), some (.iload_n 3, 1), some (.iconst (-1), 1), some (.if_icmp .eq 25, 3), none, none, some (.iload_n 1, 1), some (.aload_n 0, 1), some (.iload_n 2, 1), some (.iload_n 3, 1), some (.invokevirtual 81, 3), none, none, some (.iadd, 1), some (.aload_n 0, 1)],
  [some (.getfield 9, 3), none, none, some (.iload_n 2, 1), some (.iload_n 3, 1), some (.invokevirtual 84, 3), none, none, some (.if_icmp .le 5, 3), none, none, some (.iconst 0, 1), some (.ireturn, 1), some (.iinc 2 1, 3), none, none],
  [some (.goto (-46), 3), none, none, some (.iconst 1, 1), some (.ireturn, 1)]]
def mt_Ju_firstUnsound : List (List (Option (Instr × Nat))) := [
  [some (.aload_n 0, 1), some (.getfield 9, 3), none, none, some (.iload_n 1, 1), some (.invokevirtual 26, 3), none, none, some (.astore_n 3, 1), some (.aload_n 3, 1), some (.ifnonnull 5, 3), none, none, some (.iconst (-1), 1), some (.ireturn, 1), some (.aload_n 0, 1)],
  [some (.iconst 1, 1), some (.iload_n 1, 1), some (.ishl, 1), some (.iconst 0, 1), some (.invokevirtual 87, 3), none, none, some (.iconst 0, 1), some (.istore 4, 2), none, some (.iconst 0, 1), some (.istore 5, 2), none, some (.iload 5, 2), none, some (.sipush 256, 3)],
  [none, none, some (.if_icmp .ge 50, 3), none, none, some (.aload_n 0, 1), some (.aload_n 3, 1), some (.aload_n 3, 1), some (.getfield 38, 3), none, none, some (.iload 4, 2), none, some (.ior, 1), some (.invokevirtual 91, 3), none],
  [none, some (.iconst (-1), 1), some (.if_icmp .eq 11, 3), none, none, some (.aload_n 3, 1), some (.getfield 38, 3), none, none, some (.iload 4, 2), none, some (.ior, 1), some (.ireturn, 1), some (.iload 4, 2), none, some (.iload_n 2, 1)],
  [some (.if_icmp .ne 6, 3), none, none, some (.goto 17, 3), none, none, some (.iload 4, 2), none, some (.iload_n 2, 1), some (.isub, 1), some (.iload_n 2, 1), some (.iand, 1), some (.istore 4, 2), none, some (.iinc 5 1, 3), none],
  [none, some (.goto (-52), 3), none, none, some (.iconst (-1), 1), some (.ireturn, 1)]]
def mt_Ju_firstMissing : List (List (Option (Instr × Nat))) := [
  [some (.aload_n 0, 1), some (.getfield 9, 3), none, none, some (.getfield 95, 3), none, none, some (.aload_n 0, 1), some (.aload_n 1, 1), some (.iload_n 2, 1), some (.invokevirtual 98, 3), none, none, some (.iconst (-1), 1), some (.ixor, 1), some (.iand, 1)],
  [some (.istore_n 3, 1), some (.iconst 0, 1), some (.istore 4, 2), none, some (.iload 4, 2), none, some (.iconst 4, 1), some (.if_icmp .ge 21, 3), none, none, some (.iload_n 3, 1), some (.iconst 1, 1), some (.iload 4, 2), none, some (.ishl, 1), some (.iand, 1)],
  [some (.ifCond .eq 6, 3), none, none, some (.iload 4, 2), none, some (.ireturn, 1), some (.iinc 4 1, 3), none, none, some (.goto (-21), 3), none, none, some (.iconst (-1), 1), some (.ireturn, 1)]]
def mt_Le_init : List (List (Option (Instr × Nat))) := [
  [some (.aload_n 0, 1), some (.invokespecial 1, 3), none, none, some (.return_, 1)]]
def mt_Le_isMixed : List (List (Option (Instr × Nat))) := [
  [some (.aload_n 0, 1), some (.getfield 7, 3), none, none, some (.ifCond .eq 14, 3), none, none, some (.aload_n 0, 1), some (.getfield 13, 3), none, none, some (.ifCond .eq 7, 3), none, none, some (.iconst 1, 1), some (.goto 4, 3)],
  [none, none, some (.iconst 0, 1), some (.ireturn, 1)]]
def mt_Ma_init : List (List (Option (Instr × Nat))) := [
  [some (.aload_n 0, 1), some (.invokespecial 3, 3), none, none, some (.aload_n 0, 1), some (.aload_n 1, 1), some (.putfield 9, 3), none, none, some (.aload_n 0, 1), some (.bipush 12, 2), none, some (.anewarray 15, 3), none, none, some (.putfield 17, 3)],
  [none, none, some (.iconst 0, 1), some (.istore_n 2, 1), some (.iload_n 2, 1), some (.bipush 12, 2), none, some (.if_icmp .ge 22, 3), none, none, some (.aload_n 0, 1), some (.getfield 17, 3), none, none, some (.iload_n 2, 1), some (.new 15, 3)],
  [none, none, some (.dup, 1), some (.invokespecial 21, 3), none, none, some (.aastore, 1), some (.iinc 2 1, 3), none, none, some (.goto (-22), 3), none, none, some (.return_, 1)]]
def mt_Ma_forgetAll : List (List (Option (Instr × Nat))) := [
  [some (.aload_n 0, 1), some (.iconst 0, 1), some (.putfield 22, 3), none, none, some (.aload_n 0, 1), some (.iconst 0, 1), some (.putfield 26, 3), none, none, some (.aload_n 0, 1), some (.iconst 0, 1), some (.putfield 29, 3), none, none, some (.aload_n 0, 1)],
  [some (.iconst 0, 1), some (.putfield 32, 3), none, none, some (.aload_n 0, 1), some (.iconst 0, 1), some (.putfield 35, 3), none, none, some (.return_, 1)]]
def mt_Ma_letterAt : List (List (Option (Instr × Nat))) := [
  [some (.iload_n 1, 1), some (.aload_n 0, 1), some (.getfield 22, 3), none, none, some (.if_icmp .ge 24, 3), none, none, some (.iload_n 1, 1), some (.aload_n 0, 1), some (.getfield 17, 3), none, none, some (.arraylength, 1), some (.invokestatic 38, 3), none],
  [none, some (.ifCond .eq 12, 3), none, none, some (.aload_n 0, 1), some (.getfield 17, 3), none, none, some (.iload_n 1, 1), some (.aaload, 1), some (.goto 4, 3), none, none, some (.aconst_null, 1), some (.areturn, 1)]]
def mt_Ma_post : List (List (Option (Instr × Nat))) := [
  [some (.aload_n 0, 1), some (.getfield 9, 3), none, none, some (.iload_n 1, 1), some (.invokevirtual 42, 3), none, none, some (.astore_n 2, 1), some (.aload_n 2, 1), some (.ifnull 18, 3), none, none, some (.aload_n 0, 1), some (.getfield 22, 3), none],
  [none, some (.aload_n 0, 1), some (.getfield 17, 3), none, none, some (.arraylength, 1), some (.invokestatic 38, 3), none, none, some (.ifCond .ne 5, 3), none, none, some (.iconst 0, 1), some (.ireturn, 1), some (.aload_n 0, 1), some (.getfield 17, 3)],
  [none, none, some (.aload_n 0, 1), some (.getfield 22, 3), none, none, some (.aaload, 1), some (.astore_n 3, 1), some (.aload_n 3, 1), some (.iload_n 1, 1), some (.putfield 48, 3), none, none, some (.aload_n 3, 1), some (.aload_n 2, 1), some (.getfield 51, 3)],
  [none, none, some (.putfield 56, 3), none, none, some (.aload_n 3, 1), some (.iconst 0, 1), some (.putfield 59, 3), none, none, some (.aload_n 3, 1), some (.iconst 1, 1), some (.aload_n 2, 1), some (.getfield 51, 3), none, none],
  [some (.ishl, 1), some (.putfield 62, 3), none, none, some (.aload_n 3, 1), some (.aload_n 2, 1), some (.getfield 65, 3), none, none, some (.putfield 68, 3), none, none, some (.aload_n 3, 1), some (.aload_n 2, 1), some (.getfield 71, 3), none],
  [none, some (.iconst 2, 1), some (.if_icmp .ne 7, 3), none, none, some (.iconst 1, 1), some (.goto 4, 3), none, none, some (.iconst 0, 1), some (.putfield 74, 3), none, none, some (.aload_n 3, 1), some (.iconst 0, 1), some (.putfield 78, 3)],
  [none, none, some (.aload_n 3, 1), some (.iconst 0, 1), some (.putfield 81, 3), none, none, some (.aload_n 0, 1), some (.dup, 1), some (.getfield 22, 3), none, none, some (.iconst 1, 1), some (.iadd, 1), some (.putfield 22, 3), none],
  [none, some (.iconst 1, 1), some (.ireturn, 1)]]
def mt_Ma_staleness : List (List (Option (Instr × Nat))) := [
  [some (.aload_n 0, 1), some (.getfield 9, 3), none, none, some (.aload_n 1, 1), some (.getfield 48, 3), none, none, some (.invokevirtual 42, 3), none, none, some (.astore_n 2, 1), some (.aload_n 2, 1), some (.ifnonnull 7, 3), none, none],
  [some (.iconst 0, 1), some (.goto 12, 3), none, none, some (.aload_n 2, 1), some (.getfield 65, 3), none, none, some (.aload_n 1, 1), some (.getfield 68, 3), none, none, some (.isub, 1), some (.ireturn, 1)]]
def mt_Ma_hasStale : List (List (Option (Instr × Nat))) := [
  [some (.iconst 0, 1), some (.istore_n 2, 1), some (.iload_n 2, 1), some (.aload_n 0, 1), some (.getfield 22, 3), none, none, some (.if_icmp .ge 43, 3), none, none, some (.iload_n 2, 1), some (.bipush 12, 2), none, some (.if_icmp .ge 37, 3), none, none],
  [some (.aload_n 0, 1), some (.getfield 17, 3), none, none, some (.iload_n 2, 1), some (.aaload, 1), some (.getfield 48, 3), none, none, some (.iload_n 1, 1), some (.if_icmp .ne 18, 3), none, none, some (.aload_n 0, 1), some (.aload_n 0, 1), some (.getfield 17, 3)],
  [none, none, some (.iload_n 2, 1), some (.aaload, 1), some (.invokevirtual 84, 3), none, none, some (.ifCond .le 5, 3), none, none, some (.iconst 1, 1), some (.ireturn, 1), some (.iinc 2 1, 3), none, none, some (.goto (-45), 3)],
  [none, none, some (.iconst 0, 1), some (.ireturn, 1)]]
def mt_Ma_countOf : List (List (Option (Instr × Nat))) := [
  [some (.iconst 0, 1), some (.istore_n 3, 1), some (.iconst 0, 1), some (.istore 4, 2), none, some (.iload 4, 2), none, some (.aload_n 0, 1), some (.getfield 22, 3), none, none, some (.if_icmp .ge 47, 3), none, none, some (.iload 4, 2), none],
  [some (.bipush 12, 2), none, some (.if_icmp .ge 40, 3), none, none, some (.aload_n 0, 1), some (.getfield 17, 3), none, none, some (.iload 4, 2), none, some (.aaload, 1), some (.getfield 48, 3), none, none, some (.iload_n 1, 1)],
  [some (.if_icmp .ne 20, 3), none, none, some (.aload_n 0, 1), some (.getfield 17, 3), none, none, some (.iload 4, 2), none, some (.aaload, 1), some (.getfield 74, 3), none, none, some (.iload_n 2, 1), some (.if_icmp .ne 6, 3), none],
  [none, some (.iinc 3 1, 3), none, none, some (.iinc 4 1, 3), none, none, some (.goto (-50), 3), none, none, some (.iload_n 3, 1), some (.ireturn, 1)]]
def mt_Ma_hopAll : List (List (Option (Instr × Nat))) := [
  [some (.iconst 0, 1), some (.istore_n 1, 1), some (.iconst 0, 1), some (.istore_n 2, 1), some (.iconst 0, 1), some (.istore_n 3, 1), some (.iload_n 3, 1), some (.aload_n 0, 1), some (.getfield 22, 3), none, none, some (.if_icmp .ge 90, 3), none, none, some (.iload_n 3, 1), some (.bipush 12, 2)],
  [none, some (.if_icmp .ge 84, 3), none, none, some (.aload_n 0, 1), some (.getfield 17, 3), none, none, some (.iload_n 3, 1), some (.aaload, 1), some (.astore 4, 2), none, some (.aload_n 0, 1), some (.aload 4, 2), none, some (.invokevirtual 88, 3)],
  [none, none, some (.istore 5, 2), none, some (.iload 5, 2), none, some (.ifCond .ne 29, 3), none, none, some (.aload_n 0, 1), some (.getfield 17, 3), none, none, some (.iload_n 3, 1), some (.aload_n 0, 1), some (.getfield 17, 3)],
  [none, none, some (.iload_n 1, 1), some (.aaload, 1), some (.aastore, 1), some (.aload_n 0, 1), some (.getfield 17, 3), none, none, some (.iload_n 1, 1), some (.aload 4, 2), none, some (.aastore, 1), some (.iinc 1 1, 3), none, none],
  [some (.goto 31, 3), none, none, some (.iload 5, 2), none, some (.iconst 1, 1), some (.if_icmp .ne 15, 3), none, none, some (.iinc 2 1, 3), none, none, some (.aload_n 0, 1), some (.aload 4, 2), none, some (.invokevirtual 91, 3)],
  [none, none, some (.goto 13, 3), none, none, some (.aload_n 0, 1), some (.dup, 1), some (.getfield 35, 3), none, none, some (.iconst 1, 1), some (.iadd, 1), some (.putfield 35, 3), none, none, some (.iinc 3 1, 3)],
  [none, none, some (.goto (-92), 3), none, none, some (.aload_n 0, 1), some (.iload_n 1, 1), some (.putfield 22, 3), none, none, some (.iload_n 2, 1), some (.ireturn, 1)]]
def mt_Ma_hop : List (List (Option (Instr × Nat))) := [
  [some (.aload_n 0, 1), some (.getfield 9, 3), none, none, some (.aload_n 1, 1), some (.getfield 48, 3), none, none, some (.invokevirtual 42, 3), none, none, some (.astore_n 2, 1), some (.aload_n 2, 1), some (.ifnonnull 5, 3), none, none],
  [some (.iconst 2, 1), some (.ireturn, 1), some (.aload_n 1, 1), some (.getfield 74, 3), none, none, some (.ifCond .ne 17, 3), none, none, some (.aload_n 2, 1), some (.getfield 95, 3), none, none, some (.iconst 1, 1), some (.aload_n 1, 1), some (.getfield 56, 3)],
  [none, none, some (.ishl, 1), some (.iand, 1), some (.ifCond .eq 7, 3), none, none, some (.iconst 1, 1), some (.goto 4, 3), none, none, some (.iconst 0, 1), some (.istore_n 3, 1), some (.iload_n 3, 1), some (.ifCond .eq 14, 3), none],
  [none, some (.aload_n 2, 1), some (.aload_n 1, 1), some (.getfield 56, 3), none, none, some (.invokevirtual 98, 3), none, none, some (.goto 11, 3), none, none, some (.aload_n 2, 1), some (.aload_n 1, 1), some (.getfield 56, 3), none],
  [none, some (.invokevirtual 102, 3), none, none, some (.istore 4, 2), none, some (.aload_n 0, 1), some (.getfield 9, 3), none, none, some (.aload_n 1, 1), some (.getfield 56, 3), none, none, some (.iload 4, 2), none],
  [some (.invokevirtual 105, 3), none, none, some (.ifCond .ne 5, 3), none, none, some (.iconst 2, 1), some (.ireturn, 1), some (.aload_n 2, 1), some (.aload_n 1, 1), some (.getfield 56, 3), none, none, some (.invokevirtual 109, 3), none, none],
  [some (.ifCond .eq 31, 3), none, none, some (.aload_n 1, 1), some (.dup, 1), some (.getfield 78, 3), none, none, some (.iload_n 3, 1), some (.ifCond .ne 7, 3), none, none, some (.iconst 1, 1), some (.goto 4, 3), none, none],
  [some (.iconst 0, 1), some (.ior, 1), some (.putfield 78, 3), none, none, some (.aload_n 1, 1), some (.dup, 1), some (.getfield 81, 3), none, none, some (.iload_n 3, 1), some (.ior, 1), some (.putfield 81, 3), none, none, some (.aload_n 1, 1)],
  [some (.iload 4, 2), none, some (.putfield 56, 3), none, none, some (.aload_n 1, 1), some (.dup, 1), some (.getfield 62, 3), none, none, some (.iconst 1, 1), some (.iload 4, 2), none, some (.ishl, 1), some (.ior, 1), some (.putfield 62, 3)],
  [none, none, some (.aload_n 1, 1), some (.dup, 1), some (.getfield 59, 3), none, none, some (.iconst 1, 1), some (.iadd, 1), some (.putfield 59, 3), none, none, some (.iload 4, 2), none, some (.aload_n 2, 1), some (.getfield 113, 3)],
  [none, none, some (.if_icmp .ne 5, 3), none, none, some (.iconst 1, 1), some (.ireturn, 1), some (.aload_n 1, 1), some (.getfield 59, 3), none, none, some (.bipush 20, 2), none, some (.if_icmp .lt 7, 3), none, none],
  [some (.iconst 2, 1), some (.goto 4, 3), none, none, some (.iconst 0, 1), some (.ireturn, 1)]]
def mt_Ma_noteArrival : List (List (Option (Instr × Nat))) := [
  [some (.aload_n 0, 1), some (.dup, 1), some (.getfield 26, 3), none, none, some (.iconst 1, 1), some (.iadd, 1), some (.putfield 26, 3), none, none, some (.aload_n 0, 1), some (.getfield 9, 3), none, none, some (.aload_n 1, 1), some (.getfield 48, 3)],
  [none, none, some (.invokevirtual 42, 3), none, none, some (.astore_n 2, 1), some (.aload_n 2, 1), some (.ifnull 35, 3), none, none, some (.aload_n 2, 1), some (.getfield 116, 3), none, none, some (.iconst (-1), 1), some (.if_icmp .eq 27, 3)],
  [none, none, some (.aload_n 1, 1), some (.getfield 62, 3), none, none, some (.iconst 1, 1), some (.aload_n 2, 1), some (.getfield 116, 3), none, none, some (.ishl, 1), some (.iand, 1), some (.ifCond .ne 13, 3), none, none],
  [some (.aload_n 0, 1), some (.dup, 1), some (.getfield 29, 3), none, none, some (.iconst 1, 1), some (.iadd, 1), some (.putfield 29, 3), none, none, some (.aload_n 1, 1), some (.invokevirtual 119, 3), none, none, some (.ifCond .eq 13, 3), none],
  [none, some (.aload_n 0, 1), some (.dup, 1), some (.getfield 32, 3), none, none, some (.iconst 1, 1), some (.iadd, 1), some (.putfield 32, 3), none, none, some (.return_, 1)]]
def mt_Ne_init : List (List (Option (Instr × Nat))) := [
  [some (.aload_n 0, 1), some (.invokespecial 3, 3), none, none, some (.aload_n 0, 1), some (.bipush 15, 2), none, some (.putfield 9, 3), none, none, some (.aload_n 0, 1), some (.bipush 6, 2), none, some (.putfield 15, 3), none, none],
  [some (.aload_n 0, 1), some (.iconst 2, 1), some (.putfield 18, 3), none, none, some (.aload_n 0, 1), some (.bipush 64, 2), none, some (.newarray .int, 2), none, some (.putfield 21, 3), none, none, some (.aload_n 0, 1), some (.iconst 3, 1), some (.anewarray 25, 3)],
  [none, none, some (.putfield 27, 3), none, none, some (.iconst 0, 1), some (.istore_n 1, 1), some (.iload_n 1, 1), some (.iconst 3, 1), some (.if_icmp .ge 22, 3), none, none, some (.aload_n 0, 1), some (.getfield 27, 3), none, none],
  [some (.iload_n 1, 1), some (.new 25, 3), none, none, some (.dup, 1), some (.invokespecial 31, 3), none, none, some (.aastore, 1), some (.iinc 1 1, 3), none, none, some (.goto (-21), 3), none, none, some (.return_, 1)]]
def mt_Ne_startAnew : List (List (Option (Instr × Nat))) := [
  [some (.aload_n 0, 1), some (.iload_n 1, 1), some (.putfield 18, 3), none, none, some (.iconst 0, 1), some (.istore_n 2, 1), some (.iload_n 2, 1), some (.bipush 64, 2), none, some (.if_icmp .ge 16, 3), none, none, some (.aload_n 0, 1), some (.getfield 21, 3), none],
  [none, some (.iload_n 2, 1), some (.iconst 0, 1), some (.iastore, 1), some (.iinc 2 1, 3), none, none, some (.goto (-16), 3), none, none, some (.iconst 0, 1), some (.istore_n 2, 1), some (.iload_n 2, 1), some (.iconst 3, 1), some (.if_icmp .ge 21, 3), none],
  [none, some (.aload_n 0, 1), some (.getfield 27, 3), none, none, some (.iload_n 2, 1), some (.aaload, 1), some (.iconst 0, 1), some (.iconst 1, 1), some (.iconst 1, 1), some (.invokevirtual 32, 3), none, none, some (.iinc 2 1, 3), none, none],
  [some (.goto (-20), 3), none, none, some (.return_, 1)]]
def mt_Ne_calmFlows : List (List (Option (Instr × Nat))) := [
  [some (.iconst 0, 1), some (.istore_n 1, 1), some (.iload_n 1, 1), some (.iconst 3, 1), some (.if_icmp .ge 18, 3), none, none, some (.aload_n 0, 1), some (.getfield 27, 3), none, none, some (.iload_n 1, 1), some (.aaload, 1), some (.invokevirtual 36, 3), none, none],
  [some (.iinc 1 1, 3), none, none, some (.goto (-17), 3), none, none, some (.return_, 1)]]
def mt_Ne_isNode : List (List (Option (Instr × Nat))) := [
  [some (.iload_n 1, 1), some (.ifCond .lt 21, 3), none, none, some (.iload_n 1, 1), some (.aload_n 0, 1), some (.getfield 18, 3), none, none, some (.if_icmp .ge 13, 3), none, none, some (.iload_n 1, 1), some (.bipush 8, 2), none, some (.if_icmp .ge 7, 3)],
  [none, none, some (.iconst 1, 1), some (.goto 4, 3), none, none, some (.iconst 0, 1), some (.ireturn, 1)]]
def mt_Ne_flowAt : List (List (Option (Instr × Nat))) := [
  [some (.iload_n 1, 1), some (.aload_n 0, 1), some (.getfield 27, 3), none, none, some (.arraylength, 1), some (.invokestatic 39, 3), none, none, some (.ifCond .eq 12, 3), none, none, some (.aload_n 0, 1), some (.getfield 27, 3), none, none],
  [some (.iload_n 1, 1), some (.aaload, 1), some (.goto 4, 3), none, none, some (.aconst_null, 1), some (.areturn, 1)]]
def mt_Ne_roomAt : List (List (Option (Instr × Nat))) := [
  [some (.aload_n 0, 1), some (.iload_n 1, 1), some (.invokevirtual 43, 3), none, none, some (.ifCond .eq 25, 3), none, none, some (.aload_n 0, 1), some (.iload_n 2, 1), some (.invokevirtual 43, 3), none, none, some (.ifCond .eq 17, 3), none, none],
  [some (.aload_n 0, 1), some (.getfield 21, 3), none, none, some (.iload_n 1, 1), some (.bipush 8, 2), none, some (.imul, 1), some (.iload_n 2, 1), some (.iadd, 1), some (.iaload, 1), some (.goto 4, 3), none, none, some (.iconst 0, 1), some (.ireturn, 1)]]
def mt_Ne_setRoom : List (List (Option (Instr × Nat))) := [
  [some (.aload_n 0, 1), some (.iload_n 1, 1), some (.invokevirtual 43, 3), none, none, some (.ifCond .eq 23, 3), none, none, some (.aload_n 0, 1), some (.iload_n 2, 1), some (.invokevirtual 43, 3), none, none, some (.ifCond .eq 15, 3), none, none],
  [some (.aload_n 0, 1), some (.getfield 21, 3), none, none, some (.iload_n 1, 1), some (.bipush 8, 2), none, some (.imul, 1), some (.iload_n 2, 1), some (.iadd, 1), some (.iload_n 3, 1), some (.iastore, 1), some (.return_, 1)]]
def mt_Ne_linkCount : List (List (Option (Instr × Nat))) := [
  [some (.iconst 0, 1), some (.istore_n 1, 1), some (.iconst 0, 1), some (.istore_n 2, 1), some (.iload_n 2, 1), some (.bipush 64, 2), none, some (.if_icmp .ge 21, 3), none, none, some (.aload_n 0, 1), some (.getfield 21, 3), none, none, some (.iload_n 2, 1), some (.iaload, 1)],
  [some (.ifCond .le 6, 3), none, none, some (.iinc 1 1, 3), none, none, some (.iinc 2 1, 3), none, none, some (.goto (-21), 3), none, none, some (.iload_n 1, 1), some (.ireturn, 1)]]
def mt_Ne_tableAt : List (List (Option (Instr × Nat))) := [
  [some (.iconst 0, 1), some (.istore_n 2, 1), some (.iconst 0, 1), some (.istore_n 3, 1), some (.iload_n 3, 1), some (.iconst 3, 1), some (.if_icmp .ge 56, 3), none, none, some (.aload_n 0, 1), some (.getfield 27, 3), none, none, some (.iload_n 3, 1), some (.aaload, 1), some (.astore 4, 2)],
  [none, some (.aload 4, 2), none, some (.iload_n 1, 1), some (.aload 4, 2), none, some (.getfield 47, 3), none, none, some (.invokevirtual 50, 3), none, none, some (.iconst (-1), 1), some (.if_icmp .eq 6, 3), none, none],
  [some (.iinc 2 1, 3), none, none, some (.aload 4, 2), none, some (.getfield 54, 3), none, none, some (.ifCond .eq 16, 3), none, none, some (.aload 4, 2), none, some (.iload_n 1, 1), some (.invokevirtual 57, 3), none],
  [none, some (.iconst (-1), 1), some (.if_icmp .eq 6, 3), none, none, some (.iinc 2 1, 3), none, none, some (.iinc 3 1, 3), none, none, some (.goto (-55), 3), none, none, some (.iload_n 2, 1), some (.ireturn, 1)]]
def mt_Ne_greatestTable : List (List (Option (Instr × Nat))) := [
  [some (.iconst 0, 1), some (.istore_n 1, 1), some (.iconst 0, 1), some (.istore_n 2, 1), some (.iload_n 2, 1), some (.aload_n 0, 1), some (.getfield 18, 3), none, none, some (.if_icmp .ge 19, 3), none, none, some (.iload_n 1, 1), some (.aload_n 0, 1), some (.iload_n 2, 1), some (.invokevirtual 61, 3)],
  [none, none, some (.invokestatic 64, 3), none, none, some (.istore_n 1, 1), some (.iinc 2 1, 3), none, none, some (.goto (-21), 3), none, none, some (.iload_n 1, 1), some (.ireturn, 1)]]
def mt_Pa_init : List (List (Option (Instr × Nat))) := [
  [some (.aload_n 0, 1), some (.invokespecial 3, 3), none, none, some (.aload_n 0, 1), some (.bipush 8, 2), none, some (.newarray .int, 2), none, some (.putfield 9, 3), none, none, some (.return_, 1)]]
def mt_Pa_follow : List (List (Option (Instr × Nat))) := [
  [some (.iconst 0, 1), some (.istore 4, 2), none, some (.iload 4, 2), none, some (.bipush 8, 2), none, some (.if_icmp .ge 17, 3), none, none, some (.aload_n 0, 1), some (.getfield 9, 3), none, none, some (.iload 4, 2), none],
  [some (.iconst (-1), 1), some (.iastore, 1), some (.iinc 4 1, 3), none, none, some (.goto (-18), 3), none, none, some (.aload_n 2, 1), some (.getfield 15, 3), none, none, some (.istore 4, 2), none, some (.aload_n 0, 1), some (.iconst 1, 1)],
  [some (.iload 4, 2), none, some (.ishl, 1), some (.putfield 21, 3), none, none, some (.iconst 0, 1), some (.istore 5, 2), none, some (.iload 5, 2), none, some (.bipush 8, 2), none, some (.if_icmp .ge 79, 3), none, none],
  [some (.aload_n 1, 1), some (.iload 4, 2), none, some (.invokevirtual 24, 3), none, none, some (.ifCond .eq 70, 3), none, none, some (.aload_n 2, 1), some (.iload 4, 2), none, some (.iload_n 3, 1), some (.invokevirtual 30, 3), none, none],
  [some (.istore 6, 2), none, some (.aload_n 1, 1), some (.iload 4, 2), none, some (.iload 6, 2), none, some (.invokevirtual 34, 3), none, none, some (.ifCond .eq 50, 3), none, none, some (.aload_n 0, 1), some (.getfield 21, 3), none],
  [none, some (.iconst 1, 1), some (.iload 6, 2), none, some (.ishl, 1), some (.iand, 1), some (.ifCond .eq 6, 3), none, none, some (.goto 35, 3), none, none, some (.aload_n 0, 1), some (.getfield 9, 3), none, none],
  [some (.iload 4, 2), none, some (.iload 6, 2), none, some (.iastore, 1), some (.aload_n 0, 1), some (.dup, 1), some (.getfield 21, 3), none, none, some (.iconst 1, 1), some (.iload 6, 2), none, some (.ishl, 1), some (.ior, 1), some (.putfield 21, 3)],
  [none, none, some (.iload 6, 2), none, some (.istore 4, 2), none, some (.iinc 5 1, 3), none, none, some (.goto (-80), 3), none, none, some (.aload_n 0, 1), some (.iload 4, 2), none, some (.putfield 37, 3)],
  [none, none, some (.aload_n 0, 1), some (.iload 4, 2), none, some (.aload_n 2, 1), some (.getfield 40, 3), none, none, some (.if_icmp .ne 7, 3), none, none, some (.iconst 1, 1), some (.goto 4, 3), none, none],
  [some (.iconst 0, 1), some (.putfield 43, 3), none, none, some (.return_, 1)]]
def mt_Pl_init : List (List (Option (Instr × Nat))) := [
  [some (.aload_n 0, 1), some (.invokespecial 3, 3), none, none, some (.aload_n 0, 1), some (.aload_n 1, 1), some (.putfield 9, 3), none, none, some (.aload_n 0, 1), some (.aload_n 2, 1), some (.putfield 15, 3), none, none, some (.aload_n 0, 1), some (.sipush 256, 3)],
  [none, none, some (.newarray .boolean, 2), none, some (.putfield 19, 3), none, none, some (.aload_n 0, 1), some (.sipush 256, 3), none, none, some (.newarray .boolean, 2), none, some (.putfield 23, 3), none, none],
  [some (.aload_n 0, 1), some (.sipush 256, 3), none, none, some (.newarray .int, 2), none, some (.putfield 26, 3), none, none, some (.aload_n 0, 1), some (.sipush 256, 3), none, none, some (.newarray .int, 2), none, some (.putfield 30, 3)],
  [none, none, some (.return_, 1)]]
def mt_Pl_findPlan : List (List (Option (Instr × Nat))) := [
  [some (.aload_n 0, 1), some (.getfield 9, 3), none, none, some (.iload_n 1, 1), some (.invokevirtual 33, 3), none, none, some (.astore_n 3, 1), some (.aload_n 3, 1), some (.ifnonnull 5, 3), none, none, some (.iconst 0, 1), some (.ireturn, 1), some (.aload_n 0, 1)],
  [some (.aload_n 3, 1), some (.getfield 39, 3), none, none, some (.putfield 45, 3), none, none, some (.aload_n 0, 1), some (.aload_n 3, 1), some (.invokevirtual 46, 3), none, none, some (.putfield 50, 3), none, none, some (.aload_n 0, 1)],
  [some (.getfield 15, 3), none, none, some (.iconst 1, 1), some (.iload_n 1, 1), some (.ishl, 1), some (.iload_n 2, 1), some (.invokevirtual 52, 3), none, none, some (.aload_n 0, 1), some (.getfield 50, 3), none, none, some (.aload_n 0, 1), some (.getfield 45, 3)],
  [none, none, some (.iconst (-1), 1), some (.ixor, 1), some (.iand, 1), some (.istore 4, 2), none, some (.iload 4, 2), none, some (.istore 5, 2), none, some (.iconst 0, 1), some (.istore 6, 2), none, some (.iload 6, 2), none],
  [some (.sipush 256, 3), none, none, some (.if_icmp .ge 38, 3), none, none, some (.aload_n 0, 1), some (.aload_n 3, 1), some (.aload_n 0, 1), some (.getfield 45, 3), none, none, some (.iload 5, 2), none, some (.ior, 1), some (.invokevirtual 58, 3)],
  [none, none, some (.iload 5, 2), none, some (.ifCond .ne 6, 3), none, none, some (.goto 18, 3), none, none, some (.iload 5, 2), none, some (.iconst 1, 1), some (.isub, 1), some (.iload 4, 2), none],
  [some (.iand, 1), some (.istore 5, 2), none, some (.iinc 6 1, 3), none, none, some (.goto (-40), 3), none, none, some (.aload_n 0, 1), some (.aload_n 0, 1), some (.getfield 45, 3), none, none, some (.invokevirtual 62, 3), none],
  [none, some (.iconst (-1), 1), some (.if_icmp .eq 7, 3), none, none, some (.iconst 1, 1), some (.goto 4, 3), none, none, some (.iconst 0, 1), some (.ireturn, 1)]]
def mt_Pl_settle : List (List (Option (Instr × Nat))) := [
  [some (.iload_n 2, 1), some (.sipush 256, 3), none, none, some (.invokestatic 66, 3), none, none, some (.ifCond .ne 4, 3), none, none, some (.return_, 1), some (.aload_n 0, 1), some (.getfield 19, 3), none, none, some (.iload_n 2, 1)],
  [some (.aload_n 0, 1), some (.getfield 9, 3), none, none, some (.getfield 70, 3), none, none, some (.aload_n 0, 1), some (.getfield 15, 3), none, none, some (.aload_n 1, 1), some (.iload_n 2, 1), some (.invokevirtual 73, 3), none, none],
  [some (.iconst (-1), 1), some (.ixor, 1), some (.iand, 1), some (.ifCond .ne 7, 3), none, none, some (.iconst 1, 1), some (.goto 4, 3), none, none, some (.iconst 0, 1), some (.bastore, 1), some (.aload_n 0, 1), some (.getfield 26, 3), none, none],
  [some (.iload_n 2, 1), some (.iload_n 2, 1), some (.aload_n 0, 1), some (.getfield 50, 3), none, none, some (.if_icmp .ne 7, 3), none, none, some (.iconst 0, 1), some (.goto 4, 3), none, none, some (.iconst (-1), 1), some (.iastore, 1), some (.aload_n 0, 1)],
  [some (.getfield 30, 3), none, none, some (.iload_n 2, 1), some (.iconst 0, 1), some (.iastore, 1), some (.aload_n 0, 1), some (.getfield 19, 3), none, none, some (.iload_n 2, 1), some (.baload, 1), some (.ifCond .eq 16, 3), none, none, some (.iload_n 2, 1)],
  [some (.aload_n 0, 1), some (.getfield 50, 3), none, none, some (.if_icmp .eq 8, 3), none, none, some (.aload_n 0, 1), some (.iload_n 2, 1), some (.invokevirtual 77, 3), none, none, some (.return_, 1)]]
def mt_Pl_chooseFirstRound : List (List (Option (Instr × Nat))) := [
  [some (.aload_n 0, 1), some (.getfield 50, 3), none, none, some (.iload_n 1, 1), some (.iconst (-1), 1), some (.ixor, 1), some (.iand, 1), some (.sipush 255, 3), none, none, some (.iand, 1), some (.istore_n 2, 1), some (.aload_n 0, 1), some (.getfield 23, 3), none],
  [none, some (.iconst 0, 1), some (.iconst 1, 1), some (.bastore, 1), some (.iconst 0, 1), some (.istore_n 3, 1), some (.iconst 1, 1), some (.istore 4, 2), none, some (.iload 4, 2), none, some (.sipush 256, 3), none, none, some (.if_icmp .ge 136, 3), none],
  [none, some (.iload_n 3, 1), some (.iload_n 2, 1), some (.if_icmp .eq 131, 3), none, none, some (.iload_n 3, 1), some (.iload_n 2, 1), some (.isub, 1), some (.iload_n 2, 1), some (.iand, 1), some (.istore_n 3, 1), some (.iload_n 1, 1), some (.iload_n 3, 1), some (.ior, 1), some (.istore 5, 2)],
  [none, some (.aload_n 0, 1), some (.getfield 23, 3), none, none, some (.iload_n 3, 1), some (.aload_n 0, 1), some (.getfield 19, 3), none, none, some (.iload 5, 2), none, some (.baload, 1), some (.ifCond .eq 15, 3), none, none],
  [some (.aload_n 0, 1), some (.iload_n 3, 1), some (.invokevirtual 81, 3), none, none, some (.ifCond .eq 7, 3), none, none, some (.iconst 1, 1), some (.goto 4, 3), none, none, some (.iconst 0, 1), some (.bastore, 1), some (.aload_n 0, 1), some (.getfield 23, 3)],
  [none, none, some (.iload_n 3, 1), some (.baload, 1), some (.ifCond .eq 18, 3), none, none, some (.aload_n 0, 1), some (.getfield 26, 3), none, none, some (.iload 5, 2), none, some (.iaload, 1), some (.iconst (-1), 1), some (.if_icmp .eq 7, 3)],
  [none, none, some (.iconst 1, 1), some (.goto 4, 3), none, none, some (.iconst 0, 1), some (.istore 6, 2), none, some (.iload 6, 2), none, some (.ifCond .eq 53, 3), none, none, some (.aload_n 0, 1), some (.getfield 26, 3)],
  [none, none, some (.iload_n 1, 1), some (.iaload, 1), some (.iconst (-1), 1), some (.if_icmp .eq 21, 3), none, none, some (.aload_n 0, 1), some (.getfield 26, 3), none, none, some (.iload 5, 2), none, some (.iaload, 1), some (.iconst 1, 1)],
  [some (.iadd, 1), some (.aload_n 0, 1), some (.getfield 26, 3), none, none, some (.iload_n 1, 1), some (.iaload, 1), some (.if_icmp .gt 25, 3), none, none, some (.aload_n 0, 1), some (.getfield 26, 3), none, none, some (.iload_n 1, 1), some (.aload_n 0, 1)],
  [some (.getfield 26, 3), none, none, some (.iload 5, 2), none, some (.iaload, 1), some (.iconst 1, 1), some (.iadd, 1), some (.iastore, 1), some (.aload_n 0, 1), some (.getfield 30, 3), none, none, some (.iload_n 1, 1), some (.iload_n 3, 1), some (.iastore, 1)],
  [some (.iinc 4 1, 3), none, none, some (.goto (-138), 3), none, none, some (.return_, 1)]]
def mt_Pl_arePartsSafe : List (List (Option (Instr × Nat))) := [
  [some (.iconst 0, 1), some (.istore_n 2, 1), some (.iload_n 2, 1), some (.bipush 8, 2), none, some (.if_icmp .ge 34, 3), none, none, some (.iload_n 1, 1), some (.iconst 1, 1), some (.iload_n 2, 1), some (.ishl, 1), some (.iand, 1), some (.ifCond .eq 20, 3), none, none],
  [some (.aload_n 0, 1), some (.getfield 23, 3), none, none, some (.iload_n 1, 1), some (.iconst 1, 1), some (.iload_n 2, 1), some (.ishl, 1), some (.iconst (-1), 1), some (.ixor, 1), some (.iand, 1), some (.baload, 1), some (.ifCond .ne 5, 3), none, none, some (.iconst 0, 1)],
  [some (.ireturn, 1), some (.iinc 2 1, 3), none, none, some (.goto (-34), 3), none, none, some (.iconst 1, 1), some (.ireturn, 1)]]
def mt_Pl_fewestFrom : List (List (Option (Instr × Nat))) := [
  [some (.iload_n 1, 1), some (.sipush 256, 3), none, none, some (.invokestatic 66, 3), none, none, some (.ifCond .eq 12, 3), none, none, some (.aload_n 0, 1), some (.getfield 26, 3), none, none, some (.iload_n 1, 1), some (.iaload, 1)],
  [some (.goto 4, 3), none, none, some (.iconst (-1), 1), some (.ireturn, 1)]]
def mt_Pl_roundCount : List (List (Option (Instr × Nat))) := [
  [some (.aload_n 0, 1), some (.aload_n 0, 1), some (.getfield 45, 3), none, none, some (.invokevirtual 62, 3), none, none, some (.ireturn, 1)]]
def mt_Pl_roundAt : List (List (Option (Instr × Nat))) := [
  [some (.aload_n 0, 1), some (.getfield 45, 3), none, none, some (.istore_n 2, 1), some (.iconst 0, 1), some (.istore_n 3, 1), some (.iload_n 3, 1), some (.iload_n 1, 1), some (.if_icmp .ge 23, 3), none, none, some (.iload_n 3, 1), some (.bipush 8, 2), none, some (.if_icmp .ge 17, 3)],
  [none, none, some (.iload_n 2, 1), some (.aload_n 0, 1), some (.iload_n 2, 1), some (.invokevirtual 85, 3), none, none, some (.ior, 1), some (.istore_n 2, 1), some (.iinc 3 1, 3), none, none, some (.goto (-22), 3), none, none],
  [some (.aload_n 0, 1), some (.iload_n 2, 1), some (.invokevirtual 85, 3), none, none, some (.ireturn, 1)]]
def mt_Pl_firstFrom : List (List (Option (Instr × Nat))) := [
  [some (.iload_n 1, 1), some (.sipush 256, 3), none, none, some (.invokestatic 66, 3), none, none, some (.ifCond .eq 12, 3), none, none, some (.aload_n 0, 1), some (.getfield 30, 3), none, none, some (.iload_n 1, 1), some (.iaload, 1)],
  [some (.goto 4, 3), none, none, some (.iconst 0, 1), some (.ireturn, 1)]]
def mt_Re_init : List (List (Option (Instr × Nat))) := [
  [some (.aload_n 0, 1), some (.invokespecial 3, 3), none, none, some (.aload_n 0, 1), some (.aload_n 1, 1), some (.putfield 9, 3), none, none, some (.aload_n 0, 1), some (.sipush 200, 3), none, none, some (.newarray .int, 2), none, some (.putfield 15, 3)],
  [none, none, some (.aload_n 0, 1), some (.bipush 120, 2), none, some (.newarray .int, 2), none, some (.putfield 19, 3), none, none, some (.aload_n 0, 1), some (.iconst 3, 1), some (.newarray .int, 2), none, some (.putfield 22, 3), none],
  [none, some (.aload_n 0, 1), some (.iconst 3, 1), some (.newarray .int, 2), none, some (.putfield 25, 3), none, none, some (.return_, 1)]]
def mt_Re_append : List (List (Option (Instr × Nat))) := [
  [some (.aload_n 0, 1), some (.getfield 28, 3), none, none, some (.aload_n 0, 1), some (.getfield 15, 3), none, none, some (.arraylength, 1), some (.invokestatic 32, 3), none, none, some (.ifCond .ne 5, 3), none, none, some (.iconst 0, 1)],
  [some (.ireturn, 1), some (.aload_n 0, 1), some (.getfield 15, 3), none, none, some (.aload_n 0, 1), some (.getfield 28, 3), none, none, some (.iload_n 1, 1), some (.iastore, 1), some (.aload_n 0, 1), some (.dup, 1), some (.getfield 28, 3), none, none],
  [some (.iconst 1, 1), some (.iadd, 1), some (.putfield 28, 3), none, none, some (.iconst 1, 1), some (.ireturn, 1)]]
def mt_Re_findFault : List (List (Option (Instr × Nat))) := [
  [some (.aload_n 0, 1), some (.invokevirtual 36, 3), none, none, some (.aload_n 0, 1), some (.iconst 0, 1), some (.putfield 39, 3), none, none, some (.aload_n 0, 1), some (.iconst 0, 1), some (.putfield 42, 3), none, none, some (.iconst 0, 1), some (.istore_n 1, 1)],
  [some (.iload_n 1, 1), some (.bipush 24, 2), none, some (.if_icmp .ge 47, 3), none, none, some (.aload_n 0, 1), some (.invokevirtual 45, 3), none, none, some (.aload_n 0, 1), some (.invokevirtual 48, 3), none, none, some (.ifCond .ne 8, 3), none],
  [none, some (.aload_n 0, 1), some (.getfield 52, 3), none, none, some (.ireturn, 1), some (.aload_n 0, 1), some (.getfield 55, 3), none, none, some (.iconst 3, 1), some (.if_icmp .ne 5, 3), none, none, some (.iconst (-1), 1), some (.ireturn, 1)],
  [some (.aload_n 0, 1), some (.invokevirtual 58, 3), none, none, some (.ifCond .ne 8, 3), none, none, some (.aload_n 0, 1), some (.getfield 52, 3), none, none, some (.ireturn, 1), some (.iinc 1 1, 3), none, none, some (.goto (-47), 3)],
  [none, none, some (.aload_n 0, 1), some (.getfield 52, 3), none, none, some (.ireturn, 1)]]
def mt_Re_foreseeNet : List (List (Option (Instr × Nat))) := [
  [some (.aload_n 0, 1), some (.aload_n 0, 1), some (.getfield 9, 3), none, none, some (.getfield 61, 3), none, none, some (.putfield 66, 3), none, none, some (.iconst 0, 1), some (.istore_n 1, 1), some (.iload_n 1, 1), some (.iconst 3, 1), some (.if_icmp .ge 42, 3)],
  [none, none, some (.aload_n 0, 1), some (.getfield 9, 3), none, none, some (.iload_n 1, 1), some (.invokevirtual 67, 3), none, none, some (.astore_n 2, 1), some (.aload_n 2, 1), some (.ifnull 23, 3), none, none, some (.aload_n 0, 1)],
  [some (.getfield 22, 3), none, none, some (.iload_n 1, 1), some (.aload_n 2, 1), some (.getfield 71, 3), none, none, some (.iastore, 1), some (.aload_n 0, 1), some (.getfield 25, 3), none, none, some (.iload_n 1, 1), some (.aload_n 2, 1), some (.getfield 76, 3)],
  [none, none, some (.iastore, 1), some (.iinc 1 1, 3), none, none, some (.goto (-41), 3), none, none, some (.return_, 1)]]
def mt_Re_letterAt : List (List (Option (Instr × Nat))) := [
  [some (.iload_n 1, 1), some (.aload_n 0, 1), some (.getfield 28, 3), none, none, some (.if_icmp .ge 24, 3), none, none, some (.iload_n 1, 1), some (.aload_n 0, 1), some (.getfield 15, 3), none, none, some (.arraylength, 1), some (.invokestatic 32, 3), none],
  [none, some (.ifCond .eq 12, 3), none, none, some (.aload_n 0, 1), some (.getfield 15, 3), none, none, some (.iload_n 1, 1), some (.iaload, 1), some (.goto 4, 3), none, none, some (.iconst (-1), 1), some (.ireturn, 1)]]
def mt_Re_nextToken : List (List (Option (Instr × Nat))) := [
  [some (.aload_n 0, 1), some (.aload_n 0, 1), some (.getfield 42, 3), none, none, some (.putfield 52, 3), none, none, some (.aload_n 0, 1), some (.getfield 52, 3), none, none, some (.aload_n 0, 1), some (.getfield 28, 3), none, none],
  [some (.if_icmp .ge 29, 3), none, none, some (.aload_n 0, 1), some (.aload_n 0, 1), some (.getfield 52, 3), none, none, some (.invokevirtual 79, 3), none, none, some (.bipush 32, 2), none, some (.if_icmp .ne 16, 3), none, none],
  [some (.aload_n 0, 1), some (.dup, 1), some (.getfield 52, 3), none, none, some (.iconst 1, 1), some (.iadd, 1), some (.putfield 52, 3), none, none, some (.goto (-34), 3), none, none, some (.aload_n 0, 1), some (.aload_n 0, 1), some (.aload_n 0, 1)],
  [some (.getfield 52, 3), none, none, some (.invokevirtual 79, 3), none, none, some (.invokestatic 83, 3), none, none, some (.putfield 55, 3), none, none, some (.aload_n 0, 1), some (.aload_n 0, 1), some (.getfield 52, 3), none],
  [none, some (.putfield 42, 3), none, none, some (.aload_n 0, 1), some (.getfield 55, 3), none, none, some (.iconst 3, 1), some (.if_icmp .ne 4, 3), none, none, some (.return_, 1), some (.aload_n 0, 1), some (.dup, 1), some (.getfield 42, 3)],
  [none, none, some (.iconst 1, 1), some (.iadd, 1), some (.putfield 42, 3), none, none, some (.aload_n 0, 1), some (.getfield 55, 3), none, none, some (.iconst 2, 1), some (.if_icmp .eq 45, 3), none, none, some (.aload_n 0, 1)],
  [some (.getfield 42, 3), none, none, some (.aload_n 0, 1), some (.getfield 28, 3), none, none, some (.if_icmp .ge 34, 3), none, none, some (.aload_n 0, 1), some (.aload_n 0, 1), some (.getfield 42, 3), none, none, some (.invokevirtual 79, 3)],
  [none, none, some (.invokestatic 83, 3), none, none, some (.aload_n 0, 1), some (.getfield 55, 3), none, none, some (.if_icmp .ne 16, 3), none, none, some (.aload_n 0, 1), some (.dup, 1), some (.getfield 42, 3), none],
  [none, some (.iconst 1, 1), some (.iadd, 1), some (.putfield 42, 3), none, none, some (.goto (-47), 3), none, none, some (.return_, 1)]]
def mt_Re_kindOf : List (List (Option (Instr × Nat))) := [
  [some (.iload_n 0, 1), some (.iconst (-1), 1), some (.if_icmp .ne 5, 3), none, none, some (.iconst 3, 1), some (.ireturn, 1), some (.iload_n 0, 1), some (.bipush 97, 2), none, some (.if_icmp .lt 11, 3), none, none, some (.iload_n 0, 1), some (.bipush 122, 2), none],
  [some (.if_icmp .gt 5, 3), none, none, some (.iconst 0, 1), some (.ireturn, 1), some (.iload_n 0, 1), some (.bipush 48, 2), none, some (.if_icmp .lt 13, 3), none, none, some (.iload_n 0, 1), some (.bipush 57, 2), none, some (.if_icmp .gt 7, 3), none],
  [none, some (.iconst 1, 1), some (.goto 4, 3), none, none, some (.iconst 2, 1), some (.ireturn, 1)]]
def mt_Re_isSemicolon : List (List (Option (Instr × Nat))) := [
  [some (.aload_n 0, 1), some (.getfield 55, 3), none, none, some (.iconst 2, 1), some (.if_icmp .ne 20, 3), none, none, some (.aload_n 0, 1), some (.aload_n 0, 1), some (.getfield 52, 3), none, none, some (.invokevirtual 79, 3), none, none],
  [some (.bipush 59, 2), none, some (.if_icmp .ne 7, 3), none, none, some (.iconst 1, 1), some (.goto 4, 3), none, none, some (.iconst 0, 1), some (.ireturn, 1)]]
def mt_Re_readClause : List (List (Option (Instr × Nat))) := [
  [some (.aload_n 0, 1), some (.getfield 39, 3), none, none, some (.iconst 5, 1), some (.imul, 1), some (.istore_n 1, 1), some (.aload_n 0, 1), some (.invokevirtual 86, 3), none, none, some (.istore_n 2, 1), some (.iload_n 2, 1), some (.iconst (-1), 1), some (.if_icmp .eq 14, 3), none],
  [none, some (.iload_n 1, 1), some (.iconst 5, 1), some (.iadd, 1), some (.aload_n 0, 1), some (.getfield 19, 3), none, none, some (.arraylength, 1), some (.if_icmp .le 5, 3), none, none, some (.iconst 0, 1), some (.ireturn, 1), some (.aload_n 0, 1), some (.getfield 19, 3)],
  [none, none, some (.iload_n 1, 1), some (.iload_n 2, 1), some (.iastore, 1), some (.aload_n 0, 1), some (.invokevirtual 45, 3), none, none, some (.iload_n 2, 1), some (.invokestatic 90, 3), none, none, some (.istore_n 3, 1), some (.iconst 1, 1), some (.istore 4, 2)],
  [none, some (.iload 4, 2), none, some (.iload_n 3, 1), some (.if_icmp .gt 74, 3), none, none, some (.iload 4, 2), none, some (.iconst 5, 1), some (.if_icmp .ge 68, 3), none, none, some (.aload_n 0, 1), some (.getfield 55, 3), none],
  [none, some (.iconst 1, 1), some (.if_icmp .ne 16, 3), none, none, some (.aload_n 0, 1), some (.getfield 42, 3), none, none, some (.aload_n 0, 1), some (.getfield 52, 3), none, none, some (.isub, 1), some (.iconst 1, 1), some (.if_icmp .eq 5, 3)],
  [none, none, some (.iconst 0, 1), some (.ireturn, 1), some (.aload_n 0, 1), some (.getfield 19, 3), none, none, some (.iload_n 1, 1), some (.iload 4, 2), none, some (.iadd, 1), some (.aload_n 0, 1), some (.aload_n 0, 1), some (.getfield 52, 3), none],
  [none, some (.invokevirtual 79, 3), none, none, some (.bipush 48, 2), none, some (.isub, 1), some (.iastore, 1), some (.aload_n 0, 1), some (.iload_n 1, 1), some (.iload 4, 2), none, some (.invokevirtual 93, 3), none, none, some (.ifCond .ne 5, 3)],
  [none, none, some (.iconst 0, 1), some (.ireturn, 1), some (.aload_n 0, 1), some (.invokevirtual 45, 3), none, none, some (.iinc 4 1, 3), none, none, some (.goto (-74), 3), none, none, some (.aload_n 0, 1), some (.dup, 1)],
  [some (.getfield 39, 3), none, none, some (.iconst 1, 1), some (.iadd, 1), some (.putfield 39, 3), none, none, some (.aload_n 0, 1), some (.iload_n 1, 1), some (.invokevirtual 96, 3), none, none, some (.iconst 1, 1), some (.ireturn, 1)]]
def mt_Re_clauseKind : List (List (Option (Instr × Nat))) := [
  [some (.aload_n 0, 1), some (.getfield 55, 3), none, none, some (.ifCond .ne 30, 3), none, none, some (.iconst 0, 1), some (.istore_n 1, 1), some (.iload_n 1, 1), some (.bipush 6, 2), none, some (.if_icmp .ge 22, 3), none, none, some (.aload_n 0, 1)],
  [some (.iload_n 1, 1), some (.invokestatic 100, 3), none, none, some (.invokevirtual 104, 3), none, none, some (.ifCond .eq 5, 3), none, none, some (.iload_n 1, 1), some (.ireturn, 1), some (.iinc 1 1, 3), none, none, some (.goto (-22), 3)],
  [none, none, some (.iconst (-1), 1), some (.ireturn, 1)]]
def mt_Re_tokenIs : List (List (Option (Instr × Nat))) := [
  [some (.aload_n 0, 1), some (.getfield 42, 3), none, none, some (.aload_n 0, 1), some (.getfield 52, 3), none, none, some (.isub, 1), some (.aload_n 1, 1), some (.invokevirtual 108, 3), none, none, some (.if_icmp .eq 5, 3), none, none],
  [some (.iconst 0, 1), some (.ireturn, 1), some (.iconst 0, 1), some (.istore_n 2, 1), some (.iload_n 2, 1), some (.aload_n 1, 1), some (.invokevirtual 108, 3), none, none, some (.if_icmp .ge 29, 3), none, none, some (.aload_n 0, 1), some (.aload_n 0, 1), some (.getfield 52, 3), none],
  [none, some (.iload_n 2, 1), some (.iadd, 1), some (.invokevirtual 79, 3), none, none, some (.aload_n 1, 1), some (.iload_n 2, 1), some (.invokevirtual 112, 3), none, none, some (.if_icmp .eq 5, 3), none, none, some (.iconst 0, 1), some (.ireturn, 1)],
  [some (.iinc 2 1, 3), none, none, some (.goto (-31), 3), none, none, some (.iconst 1, 1), some (.ireturn, 1)]]
def mt_Re_wordOf : List (List (Option (Instr × Nat))) := [
  [some (.iload_n 0, 1), some (.tableswitch 50 0 4 #[35, 38, 41, 44, 47], 35), none, none, none, none, none, none, none, none, none, none, none, none, none, none],
  [none, none, none, none, none, none, none, none, none, none, none, none, none, none, none, none],
  [none, none, none, none, some (.ldc 116, 2), none, some (.areturn, 1), some (.ldc 117, 2), none, some (.areturn, 1), some (.ldc 119, 2), none, some (.areturn, 1), some (.ldc 121, 2), none, some (.areturn, 1)],
  [some (.ldc 123, 2), none, some (.areturn, 1), some (.ldc 125, 2), none, some (.areturn, 1)]]
def mt_Re_numbersOf : List (List (Option (Instr × Nat))) := [
  [some (.iload_n 0, 1), some (.tableswitch 37 0 3 #[31, 37, 35, 33], 31), none, none, none, none, none, none, none, none, none, none, none, none, none, none],
  [none, none, none, none, none, none, none, none, none, none, none, none, none, none, none, none],
  [some (.iconst 1, 1), some (.ireturn, 1), some (.iconst 2, 1), some (.ireturn, 1), some (.iconst 4, 1), some (.ireturn, 1), some (.iconst 3, 1), some (.ireturn, 1)]]
def mt_Re_clauseAt : List (List (Option (Instr × Nat))) := [
  [some (.iload_n 1, 1), some (.aload_n 0, 1), some (.getfield 19, 3), none, none, some (.arraylength, 1), some (.invokestatic 32, 3), none, none, some (.ifCond .eq 12, 3), none, none, some (.aload_n 0, 1), some (.getfield 19, 3), none, none],
  [some (.iload_n 1, 1), some (.iaload, 1), some (.goto 4, 3), none, none, some (.iconst (-1), 1), some (.ireturn, 1)]]
def mt_Re_sourceOf : List (List (Option (Instr × Nat))) := [
  [some (.iload_n 1, 1), some (.aload_n 0, 1), some (.getfield 22, 3), none, none, some (.arraylength, 1), some (.invokestatic 32, 3), none, none, some (.ifCond .eq 12, 3), none, none, some (.aload_n 0, 1), some (.getfield 22, 3), none, none],
  [some (.iload_n 1, 1), some (.iaload, 1), some (.goto 4, 3), none, none, some (.iconst (-1), 1), some (.ireturn, 1)]]
def mt_Re_goalOf : List (List (Option (Instr × Nat))) := [
  [some (.iload_n 1, 1), some (.aload_n 0, 1), some (.getfield 25, 3), none, none, some (.arraylength, 1), some (.invokestatic 32, 3), none, none, some (.ifCond .eq 12, 3), none, none, some (.aload_n 0, 1), some (.getfield 25, 3), none, none],
  [some (.iload_n 1, 1), some (.iaload, 1), some (.goto 4, 3), none, none, some (.iconst (-1), 1), some (.ireturn, 1)]]
def mt_Re_numberFits : List (List (Option (Instr × Nat))) := [
  [some (.aload_n 0, 1), some (.iload_n 1, 1), some (.invokevirtual 127, 3), none, none, some (.istore_n 3, 1), some (.aload_n 0, 1), some (.iload_n 1, 1), some (.iconst 1, 1), some (.iadd, 1), some (.invokevirtual 127, 3), none, none, some (.istore 4, 2), none, some (.aload_n 0, 1)],
  [some (.iload_n 1, 1), some (.iload_n 2, 1), some (.iadd, 1), some (.invokevirtual 127, 3), none, none, some (.istore 5, 2), none, some (.iload 5, 2), none, some (.aload_n 0, 1), some (.getfield 66, 3), none, none, some (.if_icmp .ge 7, 3), none],
  [none, some (.iconst 1, 1), some (.goto 4, 3), none, none, some (.iconst 0, 1), some (.istore 6, 2), none, some (.iload 5, 2), none, some (.aload_n 0, 1), some (.iload_n 1, 1), some (.iload_n 2, 1), some (.iadd, 1), some (.iconst 1, 1), some (.isub, 1)],
  [some (.invokevirtual 127, 3), none, none, some (.if_icmp .eq 7, 3), none, none, some (.iconst 1, 1), some (.goto 4, 3), none, none, some (.iconst 0, 1), some (.istore 7, 2), none, some (.iload_n 3, 1), some (.ifCond .ne 22, 3), none],
  [none, some (.iload 5, 2), none, some (.iconst 2, 1), some (.if_icmp .lt 14, 3), none, none, some (.iload 5, 2), none, some (.bipush 8, 2), none, some (.if_icmp .gt 7, 3), none, none, some (.iconst 1, 1), some (.goto 4, 3)],
  [none, none, some (.iconst 0, 1), some (.ireturn, 1), some (.iload_n 3, 1), some (.iconst 1, 1), some (.if_icmp .ne 49, 3), none, none, some (.iload_n 2, 1), some (.iconst 1, 1), some (.if_icmp .ne 8, 3), none, none, some (.iload 6, 2), none],
  [some (.goto 38, 3), none, none, some (.iload_n 2, 1), some (.iconst 2, 1), some (.if_icmp .ne 21, 3), none, none, some (.iload 6, 2), none, some (.ifCond .eq 12, 3), none, none, some (.iload 7, 2), none, some (.ifCond .eq 7, 3)],
  [none, none, some (.iconst 1, 1), some (.goto 19, 3), none, none, some (.iconst 0, 1), some (.goto 15, 3), none, none, some (.iload 5, 2), none, some (.bipush 9, 2), none, some (.if_icmp .gt 7, 3), none],
  [none, some (.iconst 1, 1), some (.goto 4, 3), none, none, some (.iconst 0, 1), some (.ireturn, 1), some (.iload_n 2, 1), some (.iconst 1, 1), some (.if_icmp .ne 15, 3), none, none, some (.iload 5, 2), none, some (.iconst 3, 1), some (.if_icmp .ge 7, 3)],
  [none, none, some (.iconst 1, 1), some (.goto 4, 3), none, none, some (.iconst 0, 1), some (.ireturn, 1), some (.iload_n 3, 1), some (.iconst 2, 1), some (.if_icmp .ne 27, 3), none, none, some (.iload_n 2, 1), some (.iconst 4, 1), some (.if_icmp .ne 22, 3)],
  [none, none, some (.iload 5, 2), none, some (.iconst 1, 1), some (.if_icmp .lt 14, 3), none, none, some (.iload 5, 2), none, some (.bipush 9, 2), none, some (.if_icmp .gt 7, 3), none, none, some (.iconst 1, 1)],
  [some (.goto 4, 3), none, none, some (.iconst 0, 1), some (.ireturn, 1), some (.iload_n 2, 1), some (.iconst 3, 1), some (.if_icmp .ne 19, 3), none, none, some (.iload 6, 2), none, some (.ifCond .eq 12, 3), none, none, some (.iload 7, 2)],
  [none, some (.ifCond .eq 7, 3), none, none, some (.iconst 1, 1), some (.goto 4, 3), none, none, some (.iconst 0, 1), some (.ireturn, 1), some (.iload_n 3, 1), some (.iconst 2, 1), some (.if_icmp .ne 6, 3), none, none, some (.iload 6, 2)],
  [none, some (.ireturn, 1), some (.iload 5, 2), none, some (.aload_n 0, 1), some (.iload 4, 2), none, some (.invokevirtual 130, 3), none, none, some (.if_icmp .ne 7, 3), none, none, some (.iconst 1, 1), some (.goto 4, 3), none],
  [none, some (.iconst 0, 1), some (.istore 8, 2), none, some (.iload 5, 2), none, some (.aload_n 0, 1), some (.iload 4, 2), none, some (.invokevirtual 133, 3), none, none, some (.if_icmp .ne 7, 3), none, none, some (.iconst 1, 1)],
  [some (.goto 4, 3), none, none, some (.iconst 0, 1), some (.istore 9, 2), none, some (.iload 6, 2), none, some (.ifCond .eq 22, 3), none, none, some (.iload 8, 2), none, some (.ifCond .ne 17, 3), none, none],
  [some (.iload_n 3, 1), some (.iconst 3, 1), some (.if_icmp .ne 8, 3), none, none, some (.iload 9, 2), none, some (.ifCond .ne 7, 3), none, none, some (.iconst 1, 1), some (.goto 4, 3), none, none, some (.iconst 0, 1), some (.ireturn, 1)]]
def mt_Re_foresee : List (List (Option (Instr × Nat))) := [
  [some (.aload_n 0, 1), some (.iload_n 1, 1), some (.invokevirtual 127, 3), none, none, some (.istore_n 2, 1), some (.aload_n 0, 1), some (.iload_n 1, 1), some (.iconst 1, 1), some (.iadd, 1), some (.invokevirtual 127, 3), none, none, some (.istore_n 3, 1), some (.iload_n 2, 1), some (.ifCond .ne 39, 3)],
  [none, none, some (.aload_n 0, 1), some (.iload_n 3, 1), some (.putfield 66, 3), none, none, some (.iconst 0, 1), some (.istore 4, 2), none, some (.iload 4, 2), none, some (.iconst 3, 1), some (.if_icmp .ge 25, 3), none, none],
  [some (.aload_n 0, 1), some (.getfield 22, 3), none, none, some (.iload 4, 2), none, some (.iconst 0, 1), some (.iastore, 1), some (.aload_n 0, 1), some (.getfield 25, 3), none, none, some (.iload 4, 2), none, some (.iconst 1, 1), some (.iastore, 1)],
  [some (.iinc 4 1, 3), none, none, some (.goto (-25), 3), none, none, some (.iload_n 2, 1), some (.iconst 2, 1), some (.if_icmp .ne 37, 3), none, none, some (.iload_n 3, 1), some (.iconst 3, 1), some (.invokestatic 32, 3), none, none],
  [some (.ifCond .eq 29, 3), none, none, some (.aload_n 0, 1), some (.getfield 22, 3), none, none, some (.iload_n 3, 1), some (.aload_n 0, 1), some (.iload_n 1, 1), some (.iconst 2, 1), some (.iadd, 1), some (.invokevirtual 127, 3), none, none, some (.iastore, 1)],
  [some (.aload_n 0, 1), some (.getfield 25, 3), none, none, some (.iload_n 3, 1), some (.aload_n 0, 1), some (.iload_n 1, 1), some (.iconst 3, 1), some (.iadd, 1), some (.invokevirtual 127, 3), none, none, some (.iastore, 1), some (.return_, 1)]]
def mt_Re_doClauses : List (List (Option (Instr × Nat))) := [
  [some (.iconst 0, 1), some (.istore_n 1, 1), some (.iload_n 1, 1), some (.aload_n 0, 1), some (.getfield 39, 3), none, none, some (.if_icmp .ge 22, 3), none, none, some (.iload_n 1, 1), some (.bipush 24, 2), none, some (.if_icmp .ge 16, 3), none, none],
  [some (.aload_n 0, 1), some (.iload_n 1, 1), some (.iconst 5, 1), some (.imul, 1), some (.invokevirtual 136, 3), none, none, some (.iinc 1 1, 3), none, none, some (.goto (-24), 3), none, none, some (.return_, 1)]]
def mt_Re_doClause : List (List (Option (Instr × Nat))) := [
  [some (.aload_n 0, 1), some (.iload_n 1, 1), some (.invokevirtual 127, 3), none, none, some (.istore_n 2, 1), some (.aload_n 0, 1), some (.iload_n 1, 1), some (.iconst 1, 1), some (.iadd, 1), some (.invokevirtual 127, 3), none, none, some (.istore_n 3, 1), some (.aload_n 0, 1), some (.iload_n 1, 1)],
  [some (.iconst 2, 1), some (.iadd, 1), some (.invokevirtual 127, 3), none, none, some (.istore 4, 2), none, some (.aload_n 0, 1), some (.iload_n 1, 1), some (.iconst 3, 1), some (.iadd, 1), some (.invokevirtual 127, 3), none, none, some (.istore 5, 2), none],
  [some (.iload_n 2, 1), some (.ifCond .ne 12, 3), none, none, some (.aload_n 0, 1), some (.getfield 9, 3), none, none, some (.iload_n 3, 1), some (.invokevirtual 139, 3), none, none, some (.return_, 1), some (.iload_n 2, 1), some (.iconst 1, 1), some (.if_icmp .ne 16, 3)],
  [none, none, some (.aload_n 0, 1), some (.getfield 9, 3), none, none, some (.iload_n 3, 1), some (.iload 4, 2), none, some (.iload 5, 2), none, some (.invokevirtual 142, 3), none, none, some (.return_, 1), some (.aload_n 0, 1)],
  [some (.getfield 9, 3), none, none, some (.iload_n 3, 1), some (.invokevirtual 67, 3), none, none, some (.astore 6, 2), none, some (.aload 6, 2), none, some (.ifnonnull 4, 3), none, none, some (.return_, 1), some (.iload_n 2, 1)],
  [some (.iconst 2, 1), some (.if_icmp .ne 22, 3), none, none, some (.aload 6, 2), none, some (.iload 4, 2), none, some (.iload 5, 2), none, some (.aload_n 0, 1), some (.iload_n 1, 1), some (.iconst 4, 1), some (.iadd, 1), some (.invokevirtual 127, 3), none],
  [none, some (.invokevirtual 146, 3), none, none, some (.goto 44, 3), none, none, some (.iload_n 2, 1), some (.iconst 3, 1), some (.if_icmp .ne 13, 3), none, none, some (.aload 6, 2), none, some (.iload 4, 2), none],
  [some (.putfield 149, 3), none, none, some (.goto 29, 3), none, none, some (.iload_n 2, 1), some (.iconst 4, 1), some (.if_icmp .ne 15, 3), none, none, some (.aload 6, 2), none, some (.iload 4, 2), none, some (.iload 5, 2)],
  [none, some (.invokevirtual 151, 3), none, none, some (.goto 12, 3), none, none, some (.aload 6, 2), none, some (.iload 4, 2), none, some (.iload 5, 2), none, some (.invokevirtual 155, 3), none, none],
  [some (.return_, 1)]]
def mt_Mx_init : List (List (Option (Instr × Nat))) := [
  [some (.aload_n 0, 1), some (.invokespecial 3, 3), none, none, some (.aload_n 0, 1), some (.new 9, 3), none, none, some (.dup, 1), some (.invokespecial 11, 3), none, none, some (.putfield 12, 3), none, none, some (.aload_n 0, 1)],
  [some (.new 16, 3), none, none, some (.dup, 1), some (.aload_n 0, 1), some (.getfield 12, 3), none, none, some (.invokespecial 18, 3), none, none, some (.putfield 21, 3), none, none, some (.aload_n 0, 1), some (.new 25, 3)],
  [none, none, some (.dup, 1), some (.aload_n 0, 1), some (.getfield 12, 3), none, none, some (.aload_n 0, 1), some (.getfield 21, 3), none, none, some (.invokespecial 27, 3), none, none, some (.putfield 30, 3), none],
  [none, some (.aload_n 0, 1), some (.new 34, 3), none, none, some (.dup, 1), some (.aload_n 0, 1), some (.getfield 12, 3), none, none, some (.invokespecial 36, 3), none, none, some (.putfield 37, 3), none, none],
  [some (.aload_n 0, 1), some (.new 41, 3), none, none, some (.dup, 1), some (.aload_n 0, 1), some (.getfield 12, 3), none, none, some (.invokespecial 43, 3), none, none, some (.putfield 44, 3), none, none, some (.return_, 1)]]
def mt_Mx_write : List (List (Option (Instr × Nat))) := [
  [some (.iload_n 1, 1), some (.ifCond .lt 10, 3), none, none, some (.iload_n 1, 1), some (.sipush 255, 3), none, none, some (.if_icmp .le 6, 3), none, none, some (.bipush (-3), 2), none, some (.ireturn, 1), some (.aload_n 0, 1), some (.getfield 44, 3)],
  [none, none, some (.iload_n 1, 1), some (.invokevirtual 48, 3), none, none, some (.ifCond .eq 13, 3), none, none, some (.aload_n 0, 1), some (.getfield 44, 3), none, none, some (.getfield 52, 3), none, none],
  [some (.goto 5, 3), none, none, some (.bipush (-5), 2), none, some (.ireturn, 1)]]
def mt_Mx_erase : List (List (Option (Instr × Nat))) := [
  [some (.aload_n 0, 1), some (.getfield 44, 3), none, none, some (.getfield 52, 3), none, none, some (.istore_n 1, 1), some (.aload_n 0, 1), some (.getfield 44, 3), none, none, some (.iconst 0, 1), some (.putfield 52, 3), none, none],
  [some (.iload_n 1, 1), some (.ireturn, 1)]]
def mt_Mx_fault : List (List (Option (Instr × Nat))) := [
  [some (.aload_n 0, 1), some (.getfield 44, 3), none, none, some (.invokevirtual 56, 3), none, none, some (.ireturn, 1)]]
def mt_Mx_rules : List (List (Option (Instr × Nat))) := [
  [some (.aload_n 0, 1), some (.getfield 44, 3), none, none, some (.invokevirtual 56, 3), none, none, some (.iconst (-1), 1), some (.if_icmp .eq 6, 3), none, none, some (.bipush (-4), 2), none, some (.ireturn, 1), some (.aload_n 0, 1), some (.getfield 44, 3)],
  [none, none, some (.invokevirtual 60, 3), none, none, some (.aload_n 0, 1), some (.getfield 12, 3), none, none, some (.invokevirtual 63, 3), none, none, some (.aload_n 0, 1), some (.getfield 37, 3), none, none],
  [some (.invokevirtual 66, 3), none, none, some (.aload_n 0, 1), some (.getfield 44, 3), none, none, some (.iconst 0, 1), some (.putfield 52, 3), none, none, some (.aload_n 0, 1), some (.getfield 44, 3), none, none, some (.getfield 69, 3)],
  [none, none, some (.ireturn, 1)]]
def mt_Mx_room : List (List (Option (Instr × Nat))) := [
  [some (.aload_n 0, 1), some (.getfield 12, 3), none, none, some (.iload_n 1, 1), some (.invokevirtual 72, 3), none, none, some (.ifCond .eq 14, 3), none, none, some (.aload_n 0, 1), some (.getfield 12, 3), none, none, some (.iload_n 2, 1)],
  [some (.invokevirtual 72, 3), none, none, some (.ifCond .ne 6, 3), none, none, some (.bipush (-2), 2), none, some (.ireturn, 1), some (.aload_n 0, 1), some (.getfield 12, 3), none, none, some (.iload_n 1, 1), some (.iload_n 2, 1), some (.invokevirtual 75, 3)],
  [none, none, some (.ireturn, 1)]]
def mt_Mx_load : List (List (Option (Instr × Nat))) := [
  [some (.aload_n 0, 1), some (.getfield 12, 3), none, none, some (.iload_n 1, 1), some (.invokevirtual 72, 3), none, none, some (.ifCond .eq 14, 3), none, none, some (.aload_n 0, 1), some (.getfield 12, 3), none, none, some (.iload_n 2, 1)],
  [some (.invokevirtual 72, 3), none, none, some (.ifCond .ne 6, 3), none, none, some (.bipush (-2), 2), none, some (.ireturn, 1), some (.aload_n 0, 1), some (.getfield 21, 3), none, none, some (.iconst 0, 1), some (.iconst 0, 1), some (.invokevirtual 79, 3)],
  [none, none, some (.aload_n 0, 1), some (.getfield 21, 3), none, none, some (.iload_n 1, 1), some (.iload_n 2, 1), some (.invokevirtual 83, 3), none, none, some (.ireturn, 1)]]
def mt_Mx_flow : List (List (Option (Instr × Nat))) := [
  [some (.aload_n 0, 1), some (.getfield 12, 3), none, none, some (.iload_n 1, 1), some (.invokevirtual 86, 3), none, none, some (.astore_n 3, 1), some (.aload_n 3, 1), some (.ifnonnull 6, 3), none, none, some (.bipush (-2), 2), none, some (.ireturn, 1)],
  [some (.iload_n 2, 1), some (.tableswitch 87 0 7 #[47, 52, 57, 62, 67, 72, 77, 82], 47), none, none, none, none, none, none, none, none, none, none, none, none, none, none],
  [none, none, none, none, none, none, none, none, none, none, none, none, none, none, none, none],
  [none, none, none, none, none, none, none, none, none, none, none, none, none, none, none, none],
  [some (.aload_n 3, 1), some (.getfield 90, 3), none, none, some (.ireturn, 1), some (.aload_n 3, 1), some (.getfield 95, 3), none, none, some (.ireturn, 1), some (.aload_n 3, 1), some (.getfield 98, 3), none, none, some (.ireturn, 1), some (.aload_n 3, 1)],
  [some (.getfield 101, 3), none, none, some (.ireturn, 1), some (.aload_n 3, 1), some (.invokevirtual 104, 3), none, none, some (.ireturn, 1), some (.aload_n 3, 1), some (.getfield 107, 3), none, none, some (.ireturn, 1), some (.aload_n 3, 1), some (.getfield 110, 3)],
  [none, none, some (.ireturn, 1), some (.aload_n 3, 1), some (.getfield 113, 3), none, none, some (.ireturn, 1), some (.bipush (-3), 2), none, some (.ireturn, 1)]]
def mt_Mx_rule : List (List (Option (Instr × Nat))) := [
  [some (.aload_n 0, 1), some (.getfield 12, 3), none, none, some (.iload_n 1, 1), some (.invokevirtual 86, 3), none, none, some (.astore 4, 2), none, some (.aload 4, 2), none, some (.ifnull 14, 3), none, none, some (.aload_n 0, 1)],
  [some (.getfield 12, 3), none, none, some (.iload_n 2, 1), some (.invokevirtual 72, 3), none, none, some (.ifCond .ne 6, 3), none, none, some (.bipush (-2), 2), none, some (.ireturn, 1), some (.iload_n 3, 1), some (.tableswitch 52 0 2 #[26, 33, 40], 26), none],
  [none, none, none, none, none, none, none, none, none, none, none, none, none, none, none, none],
  [none, none, none, none, none, none, none, none, some (.aload 4, 2), none, some (.iload_n 2, 1), some (.invokevirtual 116, 3), none, none, some (.ireturn, 1), some (.aload 4, 2)],
  [none, some (.iload_n 2, 1), some (.invokevirtual 120, 3), none, none, some (.ireturn, 1), some (.aload 4, 2), none, some (.iload_n 2, 1), some (.aload 4, 2), none, some (.getfield 107, 3), none, none, some (.invokevirtual 123, 3), none],
  [none, some (.ireturn, 1), some (.bipush (-3), 2), none, some (.ireturn, 1)]]
def mt_Mx_table : List (List (Option (Instr × Nat))) := [
  [some (.aload_n 0, 1), some (.getfield 12, 3), none, none, some (.iload_n 1, 1), some (.invokevirtual 72, 3), none, none, some (.ifCond .eq 14, 3), none, none, some (.aload_n 0, 1), some (.getfield 12, 3), none, none, some (.iload_n 1, 1)],
  [some (.invokevirtual 126, 3), none, none, some (.goto 5, 3), none, none, some (.bipush (-2), 2), none, some (.ireturn, 1)]]
def mt_Mx_link : List (List (Option (Instr × Nat))) := [
  [some (.aload_n 0, 1), some (.getfield 12, 3), none, none, some (.iload_n 1, 1), some (.invokevirtual 72, 3), none, none, some (.ifCond .eq 19, 3), none, none, some (.aload_n 0, 1), some (.getfield 12, 3), none, none, some (.iload_n 2, 1)],
  [some (.invokevirtual 72, 3), none, none, some (.ifCond .eq 8, 3), none, none, some (.iload_n 1, 1), some (.iload_n 2, 1), some (.if_icmp .ne 6, 3), none, none, some (.bipush (-2), 2), none, some (.ireturn, 1), some (.iload_n 3, 1), some (.ifCond .lt 9, 3)],
  [none, none, some (.iload_n 3, 1), some (.bipush 9, 2), none, some (.if_icmp .le 6, 3), none, none, some (.bipush (-3), 2), none, some (.ireturn, 1), some (.aload_n 0, 1), some (.getfield 12, 3), none, none, some (.iload_n 1, 1)],
  [some (.iload_n 2, 1), some (.invokevirtual 75, 3), none, none, some (.istore 4, 2), none, some (.aload_n 0, 1), some (.getfield 12, 3), none, none, some (.iload_n 1, 1), some (.iload_n 2, 1), some (.iload_n 3, 1), some (.invokevirtual 129, 3), none, none],
  [some (.iload 4, 2), none, some (.ireturn, 1)]]
def mt_Mx_want : List (List (Option (Instr × Nat))) := [
  [some (.iload_n 1, 1), some (.ifCond .lt 9, 3), none, none, some (.iload_n 1, 1), some (.bipush 15, 2), none, some (.if_icmp .le 6, 3), none, none, some (.bipush (-3), 2), none, some (.ireturn, 1), some (.aload_n 0, 1), some (.getfield 12, 3), none],
  [none, some (.getfield 133, 3), none, none, some (.istore_n 2, 1), some (.aload_n 0, 1), some (.getfield 12, 3), none, none, some (.iload_n 1, 1), some (.putfield 133, 3), none, none, some (.iload_n 2, 1), some (.ireturn, 1)]]
def mt_Mx_slots : List (List (Option (Instr × Nat))) := [
  [some (.iload_n 1, 1), some (.iconst 1, 1), some (.if_icmp .lt 9, 3), none, none, some (.iload_n 1, 1), some (.bipush 6, 2), none, some (.if_icmp .le 6, 3), none, none, some (.bipush (-3), 2), none, some (.ireturn, 1), some (.aload_n 0, 1), some (.getfield 12, 3)],
  [none, none, some (.getfield 136, 3), none, none, some (.istore_n 2, 1), some (.aload_n 0, 1), some (.getfield 12, 3), none, none, some (.iload_n 1, 1), some (.putfield 136, 3), none, none, some (.iload_n 2, 1), some (.ireturn, 1)]]
def mt_Mx_turn : List (List (Option (Instr × Nat))) := [
  [some (.aload_n 0, 1), some (.getfield 12, 3), none, none, some (.iload_n 1, 1), some (.invokevirtual 86, 3), none, none, some (.astore_n 3, 1), some (.aload_n 3, 1), some (.ifnonnull 6, 3), none, none, some (.bipush (-2), 2), none, some (.ireturn, 1)],
  [some (.aload_n 3, 1), some (.iload_n 2, 1), some (.invokevirtual 139, 3), none, none, some (.ifCond .ne 6, 3), none, none, some (.bipush (-3), 2), none, some (.ireturn, 1), some (.aload_n 3, 1), some (.getfield 110, 3), none, none, some (.ifCond .ne 27, 3)],
  [none, none, some (.aload_n 0, 1), some (.getfield 37, 3), none, none, some (.iload_n 1, 1), some (.invokevirtual 142, 3), none, none, some (.ifCond .ne 16, 3), none, none, some (.aload_n 0, 1), some (.getfield 21, 3), none],
  [none, some (.iload_n 1, 1), some (.iload_n 2, 1), some (.invokevirtual 145, 3), none, none, some (.iconst (-1), 1), some (.if_icmp .eq 6, 3), none, none, some (.bipush (-4), 2), none, some (.ireturn, 1), some (.aload_n 3, 1), some (.iload_n 2, 1), some (.invokevirtual 148, 3)],
  [none, none, some (.aload_n 3, 1), some (.getfield 107, 3), none, none, some (.ireturn, 1)]]
def mt_Mx_force : List (List (Option (Instr × Nat))) := [
  [some (.aload_n 0, 1), some (.getfield 12, 3), none, none, some (.iload_n 1, 1), some (.invokevirtual 86, 3), none, none, some (.astore_n 3, 1), some (.aload_n 3, 1), some (.ifnonnull 6, 3), none, none, some (.bipush (-2), 2), none, some (.ireturn, 1)],
  [some (.aload_n 3, 1), some (.iload_n 2, 1), some (.invokevirtual 139, 3), none, none, some (.ifCond .ne 6, 3), none, none, some (.bipush (-3), 2), none, some (.ireturn, 1), some (.aload_n 3, 1), some (.getfield 110, 3), none, none, some (.ifCond .eq 6, 3)],
  [none, none, some (.bipush (-4), 2), none, some (.ireturn, 1), some (.aload_n 3, 1), some (.iload_n 2, 1), some (.invokevirtual 148, 3), none, none, some (.aload_n 3, 1), some (.getfield 107, 3), none, none, some (.ireturn, 1)]]
def mt_Mx_advance : List (List (Option (Instr × Nat))) := [
  [some (.aload_n 0, 1), some (.getfield 12, 3), none, none, some (.iload_n 1, 1), some (.invokevirtual 86, 3), none, none, some (.astore_n 2, 1), some (.aload_n 2, 1), some (.ifnonnull 6, 3), none, none, some (.bipush (-2), 2), none, some (.ireturn, 1)],
  [some (.aload_n 2, 1), some (.getfield 110, 3), none, none, some (.ifCond .ne 25, 3), none, none, some (.aload_n 0, 1), some (.getfield 37, 3), none, none, some (.iload_n 1, 1), some (.invokevirtual 142, 3), none, none, some (.ifCond .ne 14, 3)],
  [none, none, some (.aload_n 2, 1), some (.getfield 107, 3), none, none, some (.aload_n 2, 1), some (.invokevirtual 104, 3), none, none, some (.if_icmp .ne 6, 3), none, none, some (.bipush (-4), 2), none, some (.ireturn, 1)],
  [some (.aload_n 0, 1), some (.getfield 30, 3), none, none, some (.iload_n 1, 1), some (.iconst 0, 1), some (.invokevirtual 152, 3), none, none, some (.ifCond .ne 5, 3), none, none, some (.iconst (-1), 1), some (.ireturn, 1), some (.aload_n 0, 1), some (.getfield 30, 3)],
  [none, none, some (.iconst 0, 1), some (.invokevirtual 156, 3), none, none, some (.istore_n 3, 1), some (.aload_n 2, 1), some (.iload_n 3, 1), some (.invokevirtual 148, 3), none, none, some (.iload_n 3, 1), some (.ireturn, 1)]]
def mt_Mx_reverse : List (List (Option (Instr × Nat))) := [
  [some (.aload_n 0, 1), some (.getfield 12, 3), none, none, some (.iload_n 1, 1), some (.invokevirtual 86, 3), none, none, some (.astore_n 2, 1), some (.aload_n 2, 1), some (.ifnonnull 6, 3), none, none, some (.bipush (-2), 2), none, some (.ireturn, 1)],
  [some (.aload_n 2, 1), some (.getfield 110, 3), none, none, some (.ifCond .ne 10, 3), none, none, some (.aload_n 2, 1), some (.getfield 113, 3), none, none, some (.ifCond .ne 6, 3), none, none, some (.bipush (-4), 2), none],
  [some (.ireturn, 1), some (.aload_n 2, 1), some (.invokevirtual 159, 3), none, none, some (.aload_n 2, 1), some (.getfield 107, 3), none, none, some (.ireturn, 1)]]
def mt_Mx_ready : List (List (Option (Instr × Nat))) := [
  [some (.aload_n 0, 1), some (.getfield 12, 3), none, none, some (.iload_n 1, 1), some (.invokevirtual 86, 3), none, none, some (.astore_n 2, 1), some (.aload_n 2, 1), some (.ifnonnull 6, 3), none, none, some (.bipush (-2), 2), none, some (.ireturn, 1)],
  [some (.aload_n 2, 1), some (.getfield 110, 3), none, none, some (.ifCond .ne 10, 3), none, none, some (.aload_n 2, 1), some (.getfield 107, 3), none, none, some (.ifCond .eq 6, 3), none, none, some (.bipush (-4), 2), none],
  [some (.ireturn, 1), some (.aload_n 2, 1), some (.iconst 1, 1), some (.putfield 110, 3), none, none, some (.aload_n 0, 1), some (.getfield 12, 3), none, none, some (.invokevirtual 162, 3), none, none, some (.istore_n 3, 1), some (.iload_n 3, 1), some (.aload_n 0, 1)],
  [some (.getfield 12, 3), none, none, some (.getfield 136, 3), none, none, some (.if_icmp .le 11, 3), none, none, some (.aload_n 2, 1), some (.iconst 0, 1), some (.putfield 110, 3), none, none, some (.bipush (-5), 2), none],
  [some (.ireturn, 1), some (.iload_n 3, 1), some (.ireturn, 1)]]
def mt_Mx_flip : List (List (Option (Instr × Nat))) := [
  [some (.aload_n 0, 1), some (.getfield 12, 3), none, none, some (.iload_n 1, 1), some (.invokevirtual 86, 3), none, none, some (.astore_n 2, 1), some (.aload_n 2, 1), some (.ifnonnull 6, 3), none, none, some (.bipush (-2), 2), none, some (.ireturn, 1)],
  [some (.aload_n 2, 1), some (.getfield 110, 3), none, none, some (.iconst 1, 1), some (.if_icmp .eq 6, 3), none, none, some (.bipush (-4), 2), none, some (.ireturn, 1), some (.aload_n 2, 1), some (.iconst 2, 1), some (.putfield 110, 3), none, none],
  [some (.aload_n 0, 1), some (.getfield 37, 3), none, none, some (.iload_n 1, 1), some (.iconst 1, 1), some (.invokevirtual 165, 3), none, none, some (.aload_n 0, 1), some (.getfield 37, 3), none, none, some (.iload_n 1, 1), some (.iconst 0, 1), some (.invokevirtual 165, 3)],
  [none, none, some (.iadd, 1), some (.ireturn, 1)]]
def mt_Mx_finish : List (List (Option (Instr × Nat))) := [
  [some (.aload_n 0, 1), some (.getfield 12, 3), none, none, some (.iload_n 1, 1), some (.invokevirtual 86, 3), none, none, some (.astore_n 2, 1), some (.aload_n 2, 1), some (.ifnonnull 6, 3), none, none, some (.bipush (-2), 2), none, some (.ireturn, 1)],
  [some (.aload_n 2, 1), some (.getfield 110, 3), none, none, some (.iconst 2, 1), some (.if_icmp .ne 15, 3), none, none, some (.aload_n 0, 1), some (.getfield 37, 3), none, none, some (.iload_n 1, 1), some (.iconst 0, 1), some (.invokevirtual 165, 3), none],
  [none, some (.ifCond .le 6, 3), none, none, some (.bipush (-4), 2), none, some (.ireturn, 1), some (.aload_n 2, 1), some (.aload_n 2, 1), some (.invokevirtual 104, 3), none, none, some (.putfield 107, 3), none, none, some (.aload_n 2, 1)],
  [some (.iconst 0, 1), some (.putfield 110, 3), none, none, some (.aload_n 2, 1), some (.iconst 0, 1), some (.putfield 113, 3), none, none, some (.aload_n 2, 1), some (.getfield 107, 3), none, none, some (.ireturn, 1)]]
def mt_Mx_cancel : List (List (Option (Instr × Nat))) := [
  [some (.aload_n 0, 1), some (.getfield 12, 3), none, none, some (.iload_n 1, 1), some (.invokevirtual 86, 3), none, none, some (.astore_n 2, 1), some (.aload_n 2, 1), some (.ifnonnull 6, 3), none, none, some (.bipush (-2), 2), none, some (.ireturn, 1)],
  [some (.aload_n 2, 1), some (.getfield 110, 3), none, none, some (.ifCond .eq 15, 3), none, none, some (.aload_n 0, 1), some (.getfield 37, 3), none, none, some (.iload_n 1, 1), some (.iconst 1, 1), some (.invokevirtual 165, 3), none, none],
  [some (.ifCond .le 6, 3), none, none, some (.bipush (-4), 2), none, some (.ireturn, 1), some (.aload_n 2, 1), some (.getfield 110, 3), none, none, some (.istore_n 3, 1), some (.aload_n 2, 1), some (.iconst 0, 1), some (.putfield 110, 3), none, none],
  [some (.iload_n 3, 1), some (.ireturn, 1)]]
def mt_Mx_send : List (List (Option (Instr × Nat))) := [
  [some (.aload_n 0, 1), some (.getfield 12, 3), none, none, some (.iload_n 1, 1), some (.invokevirtual 86, 3), none, none, some (.ifnonnull 6, 3), none, none, some (.bipush (-2), 2), none, some (.ireturn, 1), some (.aload_n 0, 1), some (.getfield 37, 3)],
  [none, none, some (.iload_n 1, 1), some (.invokevirtual 169, 3), none, none, some (.ifCond .eq 13, 3), none, none, some (.aload_n 0, 1), some (.getfield 37, 3), none, none, some (.getfield 171, 3), none, none],
  [some (.goto 5, 3), none, none, some (.bipush (-5), 2), none, some (.ireturn, 1)]]
def mt_Mx_tick : List (List (Option (Instr × Nat))) := [
  [some (.aload_n 0, 1), some (.getfield 37, 3), none, none, some (.invokevirtual 174, 3), none, none, some (.ireturn, 1)]]
def mt_Mx_sound : List (List (Option (Instr × Nat))) := [
  [some (.aload_n 0, 1), some (.getfield 12, 3), none, none, some (.iload_n 1, 1), some (.invokevirtual 86, 3), none, none, some (.astore_n 3, 1), some (.aload_n 3, 1), some (.ifnonnull 6, 3), none, none, some (.bipush (-2), 2), none, some (.ireturn, 1)],
  [some (.aload_n 3, 1), some (.iload_n 2, 1), some (.invokevirtual 177, 3), none, none, some (.ifCond .ne 6, 3), none, none, some (.bipush (-3), 2), none, some (.ireturn, 1), some (.aload_n 0, 1), some (.getfield 21, 3), none, none, some (.iconst 1, 1)],
  [some (.iload_n 1, 1), some (.ishl, 1), some (.iconst 0, 1), some (.invokevirtual 79, 3), none, none, some (.aload_n 0, 1), some (.getfield 21, 3), none, none, some (.aload_n 3, 1), some (.iload_n 2, 1), some (.invokevirtual 180, 3), none, none, some (.ireturn, 1)]]
def mt_Mx_walk : List (List (Option (Instr × Nat))) := [
  [some (.aload_n 0, 1), some (.getfield 12, 3), none, none, some (.iload_n 1, 1), some (.invokevirtual 86, 3), none, none, some (.astore 4, 2), none, some (.aload 4, 2), none, some (.ifnonnull 6, 3), none, none, some (.bipush (-2), 2)],
  [none, some (.ireturn, 1), some (.aload 4, 2), none, some (.iload_n 2, 1), some (.invokevirtual 177, 3), none, none, some (.ifCond .ne 6, 3), none, none, some (.bipush (-3), 2), none, some (.ireturn, 1), some (.aload_n 0, 1), some (.getfield 21, 3)],
  [none, none, some (.getfield 184, 3), none, none, some (.astore 5, 2), none, some (.aload 5, 2), none, some (.aload_n 0, 1), some (.getfield 12, 3), none, none, some (.aload 4, 2), none, some (.iload_n 2, 1)],
  [some (.invokevirtual 188, 3), none, none, some (.iload_n 3, 1), some (.tableswitch 49 0 2 #[28, 34, 43], 28), none, none, none, none, none, none, none, none, none, none, none],
  [none, none, none, none, none, none, none, none, none, none, none, none, none, none, none, none],
  [some (.aload 5, 2), none, some (.getfield 194, 3), none, none, some (.ireturn, 1), some (.aload 5, 2), none, some (.getfield 194, 3), none, none, some (.invokestatic 197, 3), none, none, some (.ireturn, 1), some (.aload 5, 2)],
  [none, some (.getfield 202, 3), none, none, some (.ireturn, 1), some (.bipush (-3), 2), none, some (.ireturn, 1)]]
def mt_Mx_safe : List (List (Option (Instr × Nat))) := [
  [some (.aload_n 0, 1), some (.getfield 12, 3), none, none, some (.iload_n 1, 1), some (.invokevirtual 86, 3), none, none, some (.astore 4, 2), none, some (.aload 4, 2), none, some (.ifnonnull 6, 3), none, none, some (.bipush (-2), 2)],
  [none, some (.ireturn, 1), some (.aload 4, 2), none, some (.iload_n 2, 1), some (.invokevirtual 139, 3), none, none, some (.ifCond .eq 12, 3), none, none, some (.iload_n 3, 1), some (.ifCond .lt 8, 3), none, none, some (.iload_n 3, 1)],
  [some (.iconst 2, 1), some (.if_icmp .le 6, 3), none, none, some (.bipush (-3), 2), none, some (.ireturn, 1), some (.aload_n 0, 1), some (.getfield 21, 3), none, none, some (.iload_n 1, 1), some (.iload_n 2, 1), some (.invokevirtual 145, 3), none, none],
  [some (.istore 5, 2), none, some (.iload_n 3, 1), some (.ifCond .ne 15, 3), none, none, some (.iload 5, 2), none, some (.iconst (-1), 1), some (.if_icmp .ne 7, 3), none, none, some (.iconst 1, 1), some (.goto 4, 3), none, none],
  [some (.iconst 0, 1), some (.ireturn, 1), some (.iload_n 3, 1), some (.iconst 1, 1), some (.if_icmp .eq 9, 3), none, none, some (.iload 5, 2), none, some (.iconst (-1), 1), some (.if_icmp .ne 6, 3), none, none, some (.iload 5, 2), none, some (.ireturn, 1)],
  [some (.aload_n 0, 1), some (.getfield 21, 3), none, none, some (.aload 4, 2), none, some (.iload 5, 2), none, some (.invokevirtual 205, 3), none, none, some (.ireturn, 1)]]
def mt_Mx_plan : List (List (Option (Instr × Nat))) := [
  [some (.aload_n 0, 1), some (.getfield 12, 3), none, none, some (.iload_n 1, 1), some (.invokevirtual 86, 3), none, none, some (.ifnonnull 6, 3), none, none, some (.bipush (-2), 2), none, some (.ireturn, 1), some (.aload_n 0, 1), some (.getfield 30, 3)],
  [none, none, some (.iload_n 1, 1), some (.iconst 0, 1), some (.invokevirtual 152, 3), none, none, some (.ifCond .ne 6, 3), none, none, some (.bipush (-4), 2), none, some (.ireturn, 1), some (.iload_n 2, 1), some (.ifCond .lt 14, 3), none],
  [none, some (.iload_n 2, 1), some (.aload_n 0, 1), some (.getfield 30, 3), none, none, some (.invokevirtual 208, 3), none, none, some (.if_icmp .lt 6, 3), none, none, some (.bipush (-3), 2), none, some (.ireturn, 1), some (.aload_n 0, 1)],
  [some (.getfield 30, 3), none, none, some (.iload_n 2, 1), some (.invokevirtual 156, 3), none, none, some (.ireturn, 1)]]
def mt_Mx_rounds : List (List (Option (Instr × Nat))) := [
  [some (.aload_n 0, 1), some (.getfield 12, 3), none, none, some (.iload_n 1, 1), some (.invokevirtual 86, 3), none, none, some (.ifnonnull 6, 3), none, none, some (.bipush (-2), 2), none, some (.ireturn, 1), some (.aload_n 0, 1), some (.getfield 30, 3)],
  [none, none, some (.iload_n 1, 1), some (.iconst 0, 1), some (.invokevirtual 152, 3), none, none, some (.ifCond .eq 13, 3), none, none, some (.aload_n 0, 1), some (.getfield 30, 3), none, none, some (.invokevirtual 208, 3), none],
  [none, some (.goto 4, 3), none, none, some (.iconst (-1), 1), some (.ireturn, 1)]]
def mt_Mx_order : List (List (Option (Instr × Nat))) := [
  [some (.iload_n 1, 1), some (.ifCond .lt 8, 3), none, none, some (.iload_n 1, 1), some (.iconst 3, 1), some (.if_icmp .lt 6, 3), none, none, some (.bipush (-3), 2), none, some (.ireturn, 1), some (.iconst 0, 1), some (.istore_n 2, 1), some (.iload_n 2, 1), some (.iconst 3, 1)],
  [some (.iadd, 1), some (.getstatic 210, 3), none, none, some (.arraylength, 1), some (.if_icmp .gt 71, 3), none, none, some (.iconst 0, 1), some (.istore_n 3, 1), some (.iconst 0, 1), some (.istore 4, 2), none, some (.iload_n 3, 1), some (.iconst 3, 1), some (.if_icmp .ge 42, 3)],
  [none, none, some (.aload_n 0, 1), some (.getfield 30, 3), none, none, some (.getstatic 210, 3), none, none, some (.iload_n 2, 1), some (.iload_n 3, 1), some (.iadd, 1), some (.iaload, 1), some (.iload 4, 2), none, some (.invokevirtual 152, 3)],
  [none, none, some (.ifCond .eq 23, 3), none, none, some (.iload 4, 2), none, some (.iconst 1, 1), some (.getstatic 210, 3), none, none, some (.iload_n 2, 1), some (.iload_n 3, 1), some (.iadd, 1), some (.iaload, 1), some (.ishl, 1)],
  [some (.ior, 1), some (.istore 4, 2), none, some (.iinc 3 1, 3), none, none, some (.goto (-41), 3), none, none, some (.iload_n 3, 1), some (.iconst 3, 1), some (.if_icmp .ne 11, 3), none, none, some (.getstatic 210, 3), none],
  [none, some (.iload_n 2, 1), some (.iload_n 1, 1), some (.iadd, 1), some (.iaload, 1), some (.ireturn, 1), some (.iinc 2 3, 3), none, none, some (.goto (-75), 3), none, none, some (.iconst (-1), 1), some (.ireturn, 1)]]
def mt_Mx_waits : List (List (Option (Instr × Nat))) := [
  [some (.aload_n 0, 1), some (.getfield 12, 3), none, none, some (.iload_n 1, 1), some (.invokevirtual 86, 3), none, none, some (.astore_n 3, 1), some (.aload_n 3, 1), some (.ifnull 14, 3), none, none, some (.aload_n 0, 1), some (.getfield 12, 3), none],
  [none, some (.iload_n 2, 1), some (.invokevirtual 86, 3), none, none, some (.ifnonnull 6, 3), none, none, some (.bipush (-2), 2), none, some (.ireturn, 1), some (.aload_n 3, 1), some (.invokevirtual 104, 3), none, none, some (.istore 4, 2)],
  [none, some (.aload_n 0, 1), some (.getfield 21, 3), none, none, some (.iconst 1, 1), some (.iload_n 1, 1), some (.ishl, 1), some (.iconst 0, 1), some (.invokevirtual 79, 3), none, none, some (.aload_n 0, 1), some (.getfield 21, 3), none, none],
  [some (.aload_n 3, 1), some (.iload 4, 2), none, some (.invokevirtual 180, 3), none, none, some (.istore 5, 2), none, some (.aload_n 0, 1), some (.getfield 21, 3), none, none, some (.iconst 1, 1), some (.iload_n 1, 1), some (.ishl, 1), some (.iconst 1, 1)],
  [some (.iload_n 2, 1), some (.ishl, 1), some (.ior, 1), some (.iconst 0, 1), some (.invokevirtual 79, 3), none, none, some (.aload_n 0, 1), some (.getfield 21, 3), none, none, some (.aload_n 3, 1), some (.iload 4, 2), none, some (.invokevirtual 180, 3), none],
  [none, some (.istore 6, 2), none, some (.iload 5, 2), none, some (.iconst 1, 1), some (.iand, 1), some (.ifCond .eq 23, 3), none, none, some (.iload 5, 2), none, some (.bipush 8, 2), none, some (.iand, 1), some (.ifCond .ne 15, 3)],
  [none, none, some (.iload 6, 2), none, some (.bipush 8, 2), none, some (.iand, 1), some (.ifCond .eq 7, 3), none, none, some (.iconst 1, 1), some (.goto 4, 3), none, none, some (.iconst 0, 1), some (.istore 7, 2)],
  [none, some (.iload 7, 2), none, some (.ifCond .eq 7, 3), none, none, some (.iconst 1, 1), some (.goto 4, 3), none, none, some (.iconst 0, 1), some (.ireturn, 1)]]
def mt_Mx_letter : List (List (Option (Instr × Nat))) := [
  [some (.aload_n 0, 1), some (.getfield 37, 3), none, none, some (.iload_n 1, 1), some (.invokevirtual 214, 3), none, none, some (.astore_n 3, 1), some (.aload_n 3, 1), some (.ifnonnull 6, 3), none, none, some (.bipush (-2), 2), none, some (.ireturn, 1)],
  [some (.iload_n 2, 1), some (.tableswitch 89 0 5 #[39, 44, 49, 54, 67, 76], 39), none, none, none, none, none, none, none, none, none, none, none, none, none, none],
  [none, none, none, none, none, none, none, none, none, none, none, none, none, none, none, none],
  [none, none, none, none, none, none, none, none, some (.aload_n 3, 1), some (.getfield 218, 3), none, none, some (.ireturn, 1), some (.aload_n 3, 1), some (.getfield 223, 3), none],
  [none, some (.ireturn, 1), some (.aload_n 3, 1), some (.getfield 226, 3), none, none, some (.ireturn, 1), some (.aload_n 3, 1), some (.getfield 229, 3), none, none, some (.ifCond .eq 7, 3), none, none, some (.iconst 1, 1), some (.goto 4, 3)],
  [none, none, some (.iconst 0, 1), some (.ireturn, 1), some (.aload_n 0, 1), some (.getfield 37, 3), none, none, some (.aload_n 3, 1), some (.invokevirtual 233, 3), none, none, some (.ireturn, 1), some (.aload_n 3, 1), some (.invokevirtual 237, 3), none],
  [none, some (.ifCond .eq 7, 3), none, none, some (.iconst 1, 1), some (.goto 4, 3), none, none, some (.iconst 0, 1), some (.ireturn, 1), some (.bipush (-3), 2), none, some (.ireturn, 1)]]
def mt_Mx_count : List (List (Option (Instr × Nat))) := [
  [some (.iload_n 1, 1), some (.tableswitch 147 0 10 #[59, 67, 75, 83, 91, 99, 107, 115, 123, 131, 139], 59), none, none, none, none, none, none, none, none, none, none, none, none, none, none],
  [none, none, none, none, none, none, none, none, none, none, none, none, none, none, none, none],
  [none, none, none, none, none, none, none, none, none, none, none, none, none, none, none, none],
  [none, none, none, none, none, none, none, none, none, none, none, none, some (.aload_n 0, 1), some (.getfield 12, 3), none, none],
  [some (.getfield 241, 3), none, none, some (.ireturn, 1), some (.aload_n 0, 1), some (.getfield 12, 3), none, none, some (.invokevirtual 244, 3), none, none, some (.ireturn, 1), some (.aload_n 0, 1), some (.getfield 12, 3), none, none],
  [some (.getfield 133, 3), none, none, some (.ireturn, 1), some (.aload_n 0, 1), some (.getfield 12, 3), none, none, some (.getfield 136, 3), none, none, some (.ireturn, 1), some (.aload_n 0, 1), some (.getfield 37, 3), none, none],
  [some (.getfield 171, 3), none, none, some (.ireturn, 1), some (.aload_n 0, 1), some (.getfield 37, 3), none, none, some (.getfield 247, 3), none, none, some (.ireturn, 1), some (.aload_n 0, 1), some (.getfield 37, 3), none, none],
  [some (.getfield 250, 3), none, none, some (.ireturn, 1), some (.aload_n 0, 1), some (.getfield 37, 3), none, none, some (.getfield 253, 3), none, none, some (.ireturn, 1), some (.aload_n 0, 1), some (.getfield 37, 3), none, none],
  [some (.getfield 256, 3), none, none, some (.ireturn, 1), some (.aload_n 0, 1), some (.getfield 44, 3), none, none, some (.getfield 52, 3), none, none, some (.ireturn, 1), some (.aload_n 0, 1), some (.getfield 12, 3), none, none],
  [some (.invokevirtual 162, 3), none, none, some (.ireturn, 1), some (.bipush (-3), 2), none, some (.ireturn, 1)]]
def mt_Mx_isPlace : List (List (Option (Instr × Nat))) := [
  [some (.iload_n 0, 1), some (.ifCond .lt 12, 3), none, none, some (.iload_n 0, 1), some (.iload_n 1, 1), some (.if_icmp .ge 7, 3), none, none, some (.iconst 1, 1), some (.goto 4, 3), none, none, some (.iconst 0, 1), some (.ireturn, 1)]]
def mt_Mo_init : List (List (Option (Instr × Nat))) := [
  [some (.aload_n 0, 1), some (.invokespecial 1, 3), none, none, some (.aload_n 0, 1), some (.iconst 2, 1), some (.putfield 7, 3), none, none, some (.aload_n 0, 1), some (.bipush 64, 2), none, some (.newarray .int, 2), none, some (.putfield 13, 3), none],
  [none, some (.aload_n 0, 1), some (.iconst 3, 1), some (.newarray .int, 2), none, some (.putfield 17, 3), none, none, some (.aload_n 0, 1), some (.iconst 3, 1), some (.newarray .int, 2), none, some (.putfield 20, 3), none, none, some (.aload_n 0, 1)],
  [some (.iconst 3, 1), some (.newarray .int, 2), none, some (.putfield 23, 3), none, none, some (.aload_n 0, 1), some (.iconst 3, 1), some (.newarray .int, 2), none, some (.putfield 26, 3), none, none, some (.aload_n 0, 1), some (.bipush 24, 2), none],
  [some (.newarray .int, 2), none, some (.putfield 29, 3), none, none, some (.aload_n 0, 1), some (.bipush 24, 2), none, some (.newarray .int, 2), none, some (.putfield 32, 3), none, none, some (.aload_n 0, 1), some (.bipush 15, 2), none],
  [some (.putfield 35, 3), none, none, some (.aload_n 0, 1), some (.bipush 6, 2), none, some (.putfield 38, 3), none, none, some (.aload_n 0, 1), some (.iconst 3, 1), some (.newarray .int, 2), none, some (.putfield 41, 3), none, none],
  [some (.aload_n 0, 1), some (.iconst 3, 1), some (.newarray .int, 2), none, some (.putfield 44, 3), none, none, some (.aload_n 0, 1), some (.bipush 24, 2), none, some (.newarray .int, 2), none, some (.putfield 47, 3), none, none, some (.aload_n 0, 1)],
  [some (.iconst 3, 1), some (.newarray .int, 2), none, some (.putfield 50, 3), none, none, some (.aload_n 0, 1), some (.iconst 3, 1), some (.newarray .int, 2), none, some (.putfield 53, 3), none, none, some (.aload_n 0, 1), some (.bipush 96, 2), none],
  [some (.newarray .int, 2), none, some (.putfield 56, 3), none, none, some (.aload_n 0, 1), some (.sipush 200, 3), none, none, some (.newarray .int, 2), none, some (.putfield 59, 3), none, none, some (.aload_n 0, 1), some (.iconst 3, 1)],
  [some (.newarray .int, 2), none, some (.putfield 62, 3), none, none, some (.aload_n 0, 1), some (.iconst 3, 1), some (.newarray .int, 2), none, some (.putfield 65, 3), none, none, some (.aload_n 0, 1), some (.iconst 4, 1), some (.newarray .int, 2), none],
  [some (.putfield 68, 3), none, none, some (.aload_n 0, 1), some (.bipush 24, 2), none, some (.newarray .int, 2), none, some (.dup, 1), some (.iconst 0, 1), some (.bipush 110, 2), none, some (.iastore, 1), some (.dup, 1), some (.iconst 1, 1), some (.bipush 101, 2)],
  [none, some (.iastore, 1), some (.dup, 1), some (.iconst 2, 1), some (.bipush 116, 2), none, some (.iastore, 1), some (.dup, 1), some (.iconst 3, 1), some (.iconst 0, 1), some (.iastore, 1), some (.dup, 1), some (.iconst 4, 1), some (.bipush 108, 2), none, some (.iastore, 1)],
  [some (.dup, 1), some (.iconst 5, 1), some (.bipush 105, 2), none, some (.iastore, 1), some (.dup, 1), some (.bipush 6, 2), none, some (.bipush 110, 2), none, some (.iastore, 1), some (.dup, 1), some (.bipush 7, 2), none, some (.bipush 107, 2), none],
  [some (.iastore, 1), some (.dup, 1), some (.bipush 8, 2), none, some (.bipush 102, 2), none, some (.iastore, 1), some (.dup, 1), some (.bipush 9, 2), none, some (.bipush 108, 2), none, some (.iastore, 1), some (.dup, 1), some (.bipush 10, 2), none],
  [some (.bipush 111, 2), none, some (.iastore, 1), some (.dup, 1), some (.bipush 11, 2), none, some (.bipush 119, 2), none, some (.iastore, 1), some (.dup, 1), some (.bipush 12, 2), none, some (.bipush 112, 2), none, some (.iastore, 1), some (.dup, 1)],
  [some (.bipush 13, 2), none, some (.bipush 111, 2), none, some (.iastore, 1), some (.dup, 1), some (.bipush 14, 2), none, some (.bipush 115, 2), none, some (.iastore, 1), some (.dup, 1), some (.bipush 15, 2), none, some (.bipush 116, 2), none],
  [some (.iastore, 1), some (.dup, 1), some (.bipush 16, 2), none, some (.bipush 111, 2), none, some (.iastore, 1), some (.dup, 1), some (.bipush 17, 2), none, some (.bipush 108, 2), none, some (.iastore, 1), some (.dup, 1), some (.bipush 18, 2), none],
  [some (.bipush 100, 2), none, some (.iastore, 1), some (.dup, 1), some (.bipush 19, 2), none, some (.iconst 0, 1), some (.iastore, 1), some (.dup, 1), some (.bipush 20, 2), none, some (.bipush 110, 2), none, some (.iastore, 1), some (.dup, 1), some (.bipush 21, 2)],
  [none, some (.bipush 101, 2), none, some (.iastore, 1), some (.dup, 1), some (.bipush 22, 2), none, some (.bipush 119, 2), none, some (.iastore, 1), some (.dup, 1), some (.bipush 23, 2), none, some (.iconst 0, 1), some (.iastore, 1), some (.putfield 71, 3)],
  [none, none, some (.aload_n 0, 1), some (.bipush 8, 2), none, some (.newarray .int, 2), none, some (.putfield 74, 3), none, none, some (.aload_n 0, 1), some (.iconst 3, 1), some (.newarray .int, 2), none, some (.putfield 77, 3), none],
  [none, some (.aload_n 0, 1), some (.bipush 64, 2), none, some (.newarray .int, 2), none, some (.putfield 80, 3), none, none, some (.aload_n 0, 1), some (.sipush 256, 3), none, none, some (.newarray .boolean, 2), none, some (.putfield 83, 3)],
  [none, none, some (.aload_n 0, 1), some (.sipush 256, 3), none, none, some (.newarray .int, 2), none, some (.putfield 87, 3), none, none, some (.aload_n 0, 1), some (.sipush 256, 3), none, none, some (.newarray .int, 2)],
  [none, some (.putfield 90, 3), none, none, some (.aload_n 0, 1), some (.iconst 2, 1), some (.invokevirtual 93, 3), none, none, some (.return_, 1)]]
def mt_Mo_in : List (List (Option (Instr × Nat))) := [
  [some (.lload_n 0, 1), some (.lload_n 2, 1), some (.lcmp, 1), some (.ifCond .lt 14, 3), none, none, some (.lload_n 0, 1), some (.lload 4, 2), none, some (.lcmp, 1), some (.ifCond .gt 7, 3), none, none, some (.iconst 1, 1), some (.goto 4, 3), none],
  [none, some (.iconst 0, 1), some (.ireturn, 1)]]
def mt_Mo_has : List (List (Option (Instr × Nat))) := [
  [some (.iload_n 0, 1), some (.iload_n 1, 1), some (.ishr, 1), some (.iconst 1, 1), some (.iand, 1), some (.iconst 1, 1), some (.if_icmp .ne 7, 3), none, none, some (.iconst 1, 1), some (.goto 4, 3), none, none, some (.iconst 0, 1), some (.ireturn, 1)]]
def mt_Mo_isNode : List (List (Option (Instr × Nat))) := [
  [some (.iload_n 1, 1), some (.i2l, 1), some (.lconst 0, 1), some (.aload_n 0, 1), some (.getfield 7, 3), none, none, some (.iconst 1, 1), some (.isub, 1), some (.i2l, 1), some (.invokestatic 97, 3), none, none, some (.ireturn, 1)]]
def mt_Mo_isFlow : List (List (Option (Instr × Nat))) := [
  [some (.iload_n 0, 1), some (.i2l, 1), some (.lconst 0, 1), some (.ldc2_w 101, 3), none, none, some (.invokestatic 97, 3), none, none, some (.ireturn, 1)]]
def mt_Mo_flows : List (List (Option (Instr × Nat))) := [
  [some (.aload_n 0, 1), some (.getfield 17, 3), none, none, some (.iload_n 1, 1), some (.iload_n 2, 1), some (.iastore, 1), some (.aload_n 0, 1), some (.getfield 20, 3), none, none, some (.iload_n 1, 1), some (.iload_n 3, 1), some (.iastore, 1), some (.aload_n 0, 1), some (.getfield 23, 3)],
  [none, none, some (.iload_n 1, 1), some (.iload 4, 2), none, some (.iastore, 1), some (.aload_n 0, 1), some (.getfield 26, 3), none, none, some (.iload_n 1, 1), some (.iconst (-1), 1), some (.iastore, 1), some (.iconst 0, 1), some (.istore 5, 2), none],
  [some (.iload 5, 2), none, some (.bipush 8, 2), none, some (.if_icmp .ge 35, 3), none, none, some (.aload_n 0, 1), some (.getfield 29, 3), none, none, some (.bipush 8, 2), none, some (.iload_n 1, 1), some (.imul, 1), some (.iload 5, 2)],
  [none, some (.iadd, 1), some (.iconst (-1), 1), some (.iastore, 1), some (.aload_n 0, 1), some (.getfield 32, 3), none, none, some (.bipush 8, 2), none, some (.iload_n 1, 1), some (.imul, 1), some (.iload 5, 2), none, some (.iadd, 1), some (.iconst (-1), 1)],
  [some (.iastore, 1), some (.iinc 5 1, 3), none, none, some (.goto (-36), 3), none, none, some (.return_, 1)]]
def mt_Mo_begins : List (List (Option (Instr × Nat))) := [
  [some (.aload_n 0, 1), some (.iload_n 1, 1), some (.putfield 7, 3), none, none, some (.iconst 0, 1), some (.istore_n 2, 1), some (.iload_n 2, 1), some (.bipush 64, 2), none, some (.if_icmp .ge 16, 3), none, none, some (.aload_n 0, 1), some (.getfield 13, 3), none],
  [none, some (.iload_n 2, 1), some (.iconst 0, 1), some (.iastore, 1), some (.iinc 2 1, 3), none, none, some (.goto (-16), 3), none, none, some (.iconst 0, 1), some (.istore_n 2, 1), some (.iload_n 2, 1), some (.iconst 3, 1), some (.if_icmp .ge 17, 3), none],
  [none, some (.aload_n 0, 1), some (.iload_n 2, 1), some (.iconst 0, 1), some (.iconst 1, 1), some (.iconst 1, 1), some (.invokevirtual 103, 3), none, none, some (.iinc 2 1, 3), none, none, some (.goto (-16), 3), none, none, some (.return_, 1)]]
def mt_Mo_write : List (List (Option (Instr × Nat))) := [
  [some (.iload_n 1, 1), some (.i2l, 1), some (.lconst 0, 1), some (.ldc2_w 107, 3), none, none, some (.invokestatic 97, 3), none, none, some (.ifCond .ne 6, 3), none, none, some (.bipush (-3), 2), none, some (.ireturn, 1), some (.aload_n 0, 1)],
  [some (.getfield 109, 3), none, none, some (.sipush 200, 3), none, none, some (.if_icmp .ne 6, 3), none, none, some (.bipush (-5), 2), none, some (.ireturn, 1), some (.aload_n 0, 1), some (.getfield 59, 3), none, none],
  [some (.aload_n 0, 1), some (.getfield 109, 3), none, none, some (.iload_n 1, 1), some (.iastore, 1), some (.aload_n 0, 1), some (.dup, 1), some (.getfield 109, 3), none, none, some (.iconst 1, 1), some (.iadd, 1), some (.putfield 109, 3), none, none],
  [some (.aload_n 0, 1), some (.getfield 109, 3), none, none, some (.ireturn, 1)]]
def mt_Mo_erase : List (List (Option (Instr × Nat))) := [
  [some (.aload_n 0, 1), some (.getfield 109, 3), none, none, some (.istore_n 1, 1), some (.aload_n 0, 1), some (.iconst 0, 1), some (.putfield 109, 3), none, none, some (.iload_n 1, 1), some (.ireturn, 1)]]
def mt_Mo_isSmall : List (List (Option (Instr × Nat))) := [
  [some (.iload_n 0, 1), some (.i2l, 1), some (.ldc2_w 112, 3), none, none, some (.ldc2_w 114, 3), none, none, some (.invokestatic 97, 3), none, none, some (.ireturn, 1)]]
def mt_Mo_isDigit : List (List (Option (Instr × Nat))) := [
  [some (.iload_n 0, 1), some (.i2l, 1), some (.ldc2_w 116, 3), none, none, some (.ldc2_w 118, 3), none, none, some (.invokestatic 97, 3), none, none, some (.ireturn, 1)]]
def mt_Mo_nextToken : List (List (Option (Instr × Nat))) := [
  [some (.aload_n 0, 1), some (.aload_n 0, 1), some (.getfield 120, 3), none, none, some (.putfield 123, 3), none, none, some (.aload_n 0, 1), some (.getfield 123, 3), none, none, some (.aload_n 0, 1), some (.getfield 109, 3), none, none],
  [some (.if_icmp .ge 30, 3), none, none, some (.aload_n 0, 1), some (.getfield 59, 3), none, none, some (.aload_n 0, 1), some (.getfield 123, 3), none, none, some (.iaload, 1), some (.bipush 32, 2), none, some (.if_icmp .ne 16, 3), none],
  [none, some (.aload_n 0, 1), some (.dup, 1), some (.getfield 123, 3), none, none, some (.iconst 1, 1), some (.iadd, 1), some (.putfield 123, 3), none, none, some (.goto (-35), 3), none, none, some (.aload_n 0, 1), some (.aload_n 0, 1)],
  [some (.getfield 123, 3), none, none, some (.aload_n 0, 1), some (.getfield 109, 3), none, none, some (.if_icmp .ge 12, 3), none, none, some (.aload_n 0, 1), some (.getfield 123, 3), none, none, some (.iconst 1, 1), some (.iadd, 1)],
  [some (.goto 7, 3), none, none, some (.aload_n 0, 1), some (.getfield 123, 3), none, none, some (.putfield 120, 3), none, none, some (.aload_n 0, 1), some (.getfield 123, 3), none, none, some (.aload_n 0, 1), some (.getfield 109, 3)],
  [none, none, some (.if_icmp .ge 57, 3), none, none, some (.aload_n 0, 1), some (.getfield 59, 3), none, none, some (.aload_n 0, 1), some (.getfield 123, 3), none, none, some (.iaload, 1), some (.invokestatic 126, 3), none],
  [none, some (.ifCond .eq 42, 3), none, none, some (.aload_n 0, 1), some (.getfield 120, 3), none, none, some (.aload_n 0, 1), some (.getfield 109, 3), none, none, some (.if_icmp .ge 96, 3), none, none, some (.aload_n 0, 1)],
  [some (.getfield 59, 3), none, none, some (.aload_n 0, 1), some (.getfield 120, 3), none, none, some (.iaload, 1), some (.invokestatic 126, 3), none, none, some (.ifCond .eq 81, 3), none, none, some (.aload_n 0, 1), some (.dup, 1)],
  [some (.getfield 120, 3), none, none, some (.iconst 1, 1), some (.iadd, 1), some (.putfield 120, 3), none, none, some (.goto (-36), 3), none, none, some (.aload_n 0, 1), some (.getfield 123, 3), none, none, some (.aload_n 0, 1)],
  [some (.getfield 109, 3), none, none, some (.if_icmp .ge 57, 3), none, none, some (.aload_n 0, 1), some (.getfield 59, 3), none, none, some (.aload_n 0, 1), some (.getfield 123, 3), none, none, some (.iaload, 1), some (.invokestatic 130, 3)],
  [none, none, some (.ifCond .eq 42, 3), none, none, some (.aload_n 0, 1), some (.getfield 120, 3), none, none, some (.aload_n 0, 1), some (.getfield 109, 3), none, none, some (.if_icmp .ge 31, 3), none, none],
  [some (.aload_n 0, 1), some (.getfield 59, 3), none, none, some (.aload_n 0, 1), some (.getfield 120, 3), none, none, some (.iaload, 1), some (.invokestatic 130, 3), none, none, some (.ifCond .eq 16, 3), none, none, some (.aload_n 0, 1)],
  [some (.dup, 1), some (.getfield 120, 3), none, none, some (.iconst 1, 1), some (.iadd, 1), some (.putfield 120, 3), none, none, some (.goto (-36), 3), none, none, some (.return_, 1)]]
def mt_Mo_wordHere : List (List (Option (Instr × Nat))) := [
  [some (.iconst 0, 1), some (.istore_n 1, 1), some (.iload_n 1, 1), some (.iconst 5, 1), some (.if_icmp .gt 109, 3), none, none, some (.aload_n 0, 1), some (.getfield 120, 3), none, none, some (.aload_n 0, 1), some (.getfield 123, 3), none, none, some (.if_icmp .le 20, 3)],
  [none, none, some (.aload_n 0, 1), some (.getfield 120, 3), none, none, some (.aload_n 0, 1), some (.getfield 123, 3), none, none, some (.isub, 1), some (.iconst 5, 1), some (.if_icmp .ge 7, 3), none, none, some (.iconst 1, 1)],
  [some (.goto 4, 3), none, none, some (.iconst 0, 1), some (.istore_n 2, 1), some (.iconst 0, 1), some (.istore_n 3, 1), some (.iload_n 3, 1), some (.iconst 4, 1), some (.if_icmp .ge 60, 3), none, none, some (.iload_n 2, 1), some (.ifCond .eq 56, 3), none, none],
  [some (.aload_n 0, 1), some (.getfield 71, 3), none, none, some (.iconst 4, 1), some (.iload_n 1, 1), some (.imul, 1), some (.iload_n 3, 1), some (.iadd, 1), some (.iaload, 1), some (.aload_n 0, 1), some (.getfield 123, 3), none, none, some (.iload_n 3, 1), some (.iadd, 1)],
  [some (.aload_n 0, 1), some (.getfield 120, 3), none, none, some (.if_icmp .ge 17, 3), none, none, some (.aload_n 0, 1), some (.getfield 59, 3), none, none, some (.aload_n 0, 1), some (.getfield 123, 3), none, none, some (.iload_n 3, 1)],
  [some (.iadd, 1), some (.iaload, 1), some (.goto 4, 3), none, none, some (.iconst 0, 1), some (.if_icmp .ne 7, 3), none, none, some (.iconst 1, 1), some (.goto 4, 3), none, none, some (.iconst 0, 1), some (.istore_n 2, 1), some (.iinc 3 1, 3)],
  [none, none, some (.goto (-59), 3), none, none, some (.iload_n 2, 1), some (.ifCond .eq 5, 3), none, none, some (.iload_n 1, 1), some (.ireturn, 1), some (.iinc 1 1, 3), none, none, some (.goto (-108), 3), none],
  [none, some (.iconst (-1), 1), some (.ireturn, 1)]]
def mt_Mo_number : List (List (Option (Instr × Nat))) := [
  [some (.aload_n 0, 1), some (.getfield 123, 3), none, none, some (.aload_n 0, 1), some (.getfield 109, 3), none, none, some (.if_icmp .eq 31, 3), none, none, some (.aload_n 0, 1), some (.getfield 59, 3), none, none, some (.aload_n 0, 1)],
  [some (.getfield 123, 3), none, none, some (.iaload, 1), some (.invokestatic 130, 3), none, none, some (.ifCond .eq 16, 3), none, none, some (.aload_n 0, 1), some (.getfield 120, 3), none, none, some (.aload_n 0, 1), some (.getfield 123, 3)],
  [none, none, some (.isub, 1), some (.iconst 1, 1), some (.if_icmp .le 5, 3), none, none, some (.iconst 0, 1), some (.ireturn, 1), some (.aload_n 0, 1), some (.getfield 59, 3), none, none, some (.aload_n 0, 1), some (.getfield 123, 3), none],
  [none, some (.iaload, 1), some (.bipush 48, 2), none, some (.isub, 1), some (.istore 6, 2), none, some (.iload 6, 2), none, some (.i2l, 1), some (.iload_n 2, 1), some (.i2l, 1), some (.iload_n 3, 1), some (.i2l, 1), some (.invokestatic 97, 3), none],
  [none, some (.ifCond .eq 21, 3), none, none, some (.iload 6, 2), none, some (.iload 4, 2), none, some (.if_icmp .eq 14, 3), none, none, some (.iload 6, 2), none, some (.iload 5, 2), none, some (.if_icmp .eq 7, 3)],
  [none, none, some (.iconst 1, 1), some (.goto 4, 3), none, none, some (.iconst 0, 1), some (.istore 7, 2), none, some (.iload 7, 2), none, some (.ifCond .eq 15, 3), none, none, some (.aload_n 0, 1), some (.getfield 68, 3)],
  [none, none, some (.iload_n 1, 1), some (.iload 6, 2), none, some (.iastore, 1), some (.aload_n 0, 1), some (.invokevirtual 133, 3), none, none, some (.iload 7, 2), none, some (.ireturn, 1)]]
def mt_Mo_node : List (List (Option (Instr × Nat))) := [
  [some (.aload_n 0, 1), some (.iload_n 1, 1), some (.iconst 0, 1), some (.aload_n 0, 1), some (.getfield 136, 3), none, none, some (.iconst 1, 1), some (.isub, 1), some (.iload_n 2, 1), some (.iload_n 3, 1), some (.invokevirtual 139, 3), none, none, some (.ireturn, 1)]]
def mt_Mo_readsRest : List (List (Option (Instr × Nat))) := [
  [some (.iload_n 1, 1), some (.tableswitch 190 0 3 #[31, 42, 86, 142], 31), none, none, none, none, none, none, none, none, none, none, none, none, none, none],
  [none, none, none, none, none, none, none, none, none, none, none, none, none, none, none, none],
  [some (.aload_n 0, 1), some (.iconst 0, 1), some (.iconst 2, 1), some (.bipush 8, 2), none, some (.iconst (-1), 1), some (.iconst (-1), 1), some (.invokevirtual 139, 3), none, none, some (.ireturn, 1), some (.aload_n 0, 1), some (.iconst 0, 1), some (.iconst (-1), 1), some (.iconst (-1), 1), some (.invokevirtual 143, 3)],
  [none, none, some (.ifCond .eq 35, 3), none, none, some (.aload_n 0, 1), some (.iconst 1, 1), some (.aload_n 0, 1), some (.getfield 68, 3), none, none, some (.iconst 0, 1), some (.iaload, 1), some (.iconst (-1), 1), some (.invokevirtual 143, 3), none],
  [none, some (.ifCond .eq 20, 3), none, none, some (.aload_n 0, 1), some (.iconst 2, 1), some (.iconst 0, 1), some (.bipush 9, 2), none, some (.iconst (-1), 1), some (.iconst (-1), 1), some (.invokevirtual 139, 3), none, none, some (.ifCond .eq 7, 3), none],
  [none, some (.iconst 1, 1), some (.goto 4, 3), none, none, some (.iconst 0, 1), some (.ireturn, 1), some (.aload_n 0, 1), some (.iconst 0, 1), some (.iconst 0, 1), some (.iconst 2, 1), some (.iconst (-1), 1), some (.iconst (-1), 1), some (.invokevirtual 139, 3), none, none],
  [some (.ifCond .eq 45, 3), none, none, some (.aload_n 0, 1), some (.iconst 1, 1), some (.iconst (-1), 1), some (.iconst (-1), 1), some (.invokevirtual 143, 3), none, none, some (.ifCond .eq 35, 3), none, none, some (.aload_n 0, 1), some (.iconst 2, 1), some (.aload_n 0, 1)],
  [some (.getfield 68, 3), none, none, some (.iconst 1, 1), some (.iaload, 1), some (.iconst (-1), 1), some (.invokevirtual 143, 3), none, none, some (.ifCond .eq 20, 3), none, none, some (.aload_n 0, 1), some (.iconst 3, 1), some (.iconst 1, 1), some (.bipush 9, 2)],
  [none, some (.iconst (-1), 1), some (.iconst (-1), 1), some (.invokevirtual 139, 3), none, none, some (.ifCond .eq 7, 3), none, none, some (.iconst 1, 1), some (.goto 4, 3), none, none, some (.iconst 0, 1), some (.ireturn, 1), some (.aload_n 0, 1)],
  [some (.iconst 0, 1), some (.iconst 0, 1), some (.iconst 2, 1), some (.iconst (-1), 1), some (.iconst (-1), 1), some (.invokevirtual 139, 3), none, none, some (.ifCond .eq 37, 3), none, none, some (.aload_n 0, 1), some (.iconst 1, 1), some (.aload_n 0, 1), some (.getfield 62, 3), none],
  [none, some (.aload_n 0, 1), some (.getfield 68, 3), none, none, some (.iconst 0, 1), some (.iaload, 1), some (.iaload, 1), some (.aload_n 0, 1), some (.getfield 65, 3), none, none, some (.aload_n 0, 1), some (.getfield 68, 3), none, none],
  [some (.iconst 0, 1), some (.iaload, 1), some (.iaload, 1), some (.invokevirtual 143, 3), none, none, some (.ifCond .eq 7, 3), none, none, some (.iconst 1, 1), some (.goto 4, 3), none, none, some (.iconst 0, 1), some (.ireturn, 1), some (.aload_n 0, 1)],
  [some (.iconst 0, 1), some (.iconst 0, 1), some (.iconst 2, 1), some (.iconst (-1), 1), some (.iconst (-1), 1), some (.invokevirtual 139, 3), none, none, some (.ifCond .eq 42, 3), none, none, some (.aload_n 0, 1), some (.iconst 1, 1), some (.aload_n 0, 1), some (.getfield 65, 3), none],
  [none, some (.aload_n 0, 1), some (.getfield 68, 3), none, none, some (.iconst 0, 1), some (.iaload, 1), some (.iaload, 1), some (.iconst (-1), 1), some (.invokevirtual 143, 3), none, none, some (.ifCond .eq 22, 3), none, none, some (.aload_n 0, 1)],
  [some (.iconst 2, 1), some (.aload_n 0, 1), some (.getfield 68, 3), none, none, some (.iconst 1, 1), some (.iaload, 1), some (.iconst (-1), 1), some (.invokevirtual 143, 3), none, none, some (.ifCond .eq 7, 3), none, none, some (.iconst 1, 1), some (.goto 4, 3)],
  [none, none, some (.iconst 0, 1), some (.ireturn, 1)]]
def mt_Mo_does : List (List (Option (Instr × Nat))) := [
  [some (.aload_n 0, 1), some (.getfield 68, 3), none, none, some (.iconst 0, 1), some (.iaload, 1), some (.istore_n 2, 1), some (.iload_n 1, 1), some (.tableswitch 145 0 4 #[36, 49, 79, 105, 120], 36), none, none, none, none, none, none, none],
  [none, none, none, none, none, none, none, none, none, none, none, none, none, none, none, none],
  [none, none, none, none, none, none, none, none, none, none, none, none, some (.aload_n 0, 1), some (.aload_n 0, 1), some (.getfield 68, 3), none],
  [none, some (.iconst 0, 1), some (.iaload, 1), some (.invokevirtual 93, 3), none, none, some (.goto 121, 3), none, none, some (.aload_n 0, 1), some (.getfield 13, 3), none, none, some (.bipush 8, 2), none, some (.aload_n 0, 1)],
  [some (.getfield 68, 3), none, none, some (.iconst 0, 1), some (.iaload, 1), some (.imul, 1), some (.aload_n 0, 1), some (.getfield 68, 3), none, none, some (.iconst 1, 1), some (.iaload, 1), some (.iadd, 1), some (.aload_n 0, 1), some (.getfield 68, 3), none],
  [none, some (.iconst 2, 1), some (.iaload, 1), some (.iastore, 1), some (.goto 91, 3), none, none, some (.aload_n 0, 1), some (.iload_n 2, 1), some (.aload_n 0, 1), some (.getfield 68, 3), none, none, some (.iconst 1, 1), some (.iaload, 1), some (.aload_n 0, 1)],
  [some (.getfield 68, 3), none, none, some (.iconst 2, 1), some (.iaload, 1), some (.aload_n 0, 1), some (.getfield 68, 3), none, none, some (.iconst 3, 1), some (.iaload, 1), some (.invokevirtual 103, 3), none, none, some (.goto 65, 3), none],
  [none, some (.aload_n 0, 1), some (.getfield 26, 3), none, none, some (.iload_n 2, 1), some (.aload_n 0, 1), some (.getfield 68, 3), none, none, some (.iconst 1, 1), some (.iaload, 1), some (.iastore, 1), some (.goto 50, 3), none, none],
  [some (.aload_n 0, 1), some (.getfield 29, 3), none, none, some (.bipush 8, 2), none, some (.iload_n 2, 1), some (.imul, 1), some (.aload_n 0, 1), some (.getfield 68, 3), none, none, some (.iconst 1, 1), some (.iaload, 1), some (.iadd, 1), some (.aload_n 0, 1)],
  [some (.getfield 68, 3), none, none, some (.iconst 2, 1), some (.iaload, 1), some (.iastore, 1), some (.goto 25, 3), none, none, some (.aload_n 0, 1), some (.getfield 32, 3), none, none, some (.bipush 8, 2), none, some (.iload_n 2, 1)],
  [some (.imul, 1), some (.aload_n 0, 1), some (.getfield 68, 3), none, none, some (.iconst 1, 1), some (.iaload, 1), some (.iadd, 1), some (.aload_n 0, 1), some (.getfield 68, 3), none, none, some (.iconst 2, 1), some (.iaload, 1), some (.iastore, 1), some (.return_, 1)]]
def mt_Mo_readsClause : List (List (Option (Instr × Nat))) := [
  [some (.aload_n 0, 1), some (.invokevirtual 147, 3), none, none, some (.istore_n 1, 1), some (.iload_n 1, 1), some (.iconst (-1), 1), some (.if_icmp .ne 5, 3), none, none, some (.iconst 0, 1), some (.ireturn, 1), some (.aload_n 0, 1), some (.invokevirtual 133, 3), none, none],
  [some (.aload_n 0, 1), some (.iload_n 1, 1), some (.invokevirtual 151, 3), none, none, some (.ifCond .ne 5, 3), none, none, some (.iconst 0, 1), some (.ireturn, 1), some (.iload_n 1, 1), some (.ifCond .ne 43, 3), none, none, some (.aload_n 0, 1), some (.aload_n 0, 1)],
  [some (.getfield 68, 3), none, none, some (.iconst 0, 1), some (.iaload, 1), some (.putfield 136, 3), none, none, some (.iconst 0, 1), some (.istore_n 2, 1), some (.iload_n 2, 1), some (.iconst 3, 1), some (.if_icmp .ge 23, 3), none, none, some (.aload_n 0, 1)],
  [some (.getfield 62, 3), none, none, some (.iload_n 2, 1), some (.iconst 0, 1), some (.iastore, 1), some (.aload_n 0, 1), some (.getfield 65, 3), none, none, some (.iload_n 2, 1), some (.iconst 1, 1), some (.iastore, 1), some (.iinc 2 1, 3), none, none],
  [some (.goto (-22), 3), none, none, some (.goto 42, 3), none, none, some (.iload_n 1, 1), some (.iconst 2, 1), some (.if_icmp .ne 37, 3), none, none, some (.aload_n 0, 1), some (.getfield 62, 3), none, none, some (.aload_n 0, 1)],
  [some (.getfield 68, 3), none, none, some (.iconst 0, 1), some (.iaload, 1), some (.aload_n 0, 1), some (.getfield 68, 3), none, none, some (.iconst 1, 1), some (.iaload, 1), some (.iastore, 1), some (.aload_n 0, 1), some (.getfield 65, 3), none, none],
  [some (.aload_n 0, 1), some (.getfield 68, 3), none, none, some (.iconst 0, 1), some (.iaload, 1), some (.aload_n 0, 1), some (.getfield 68, 3), none, none, some (.iconst 2, 1), some (.iaload, 1), some (.iastore, 1), some (.aload_n 0, 1), some (.getfield 154, 3), none],
  [none, some (.ifCond .eq 8, 3), none, none, some (.aload_n 0, 1), some (.iload_n 1, 1), some (.invokevirtual 158, 3), none, none, some (.iconst 1, 1), some (.ireturn, 1)]]
def mt_Mo_reads : List (List (Option (Instr × Nat))) := [
  [some (.aload_n 0, 1), some (.iload_n 1, 1), some (.putfield 154, 3), none, none, some (.aload_n 0, 1), some (.iconst 0, 1), some (.putfield 120, 3), none, none, some (.aload_n 0, 1), some (.iconst 1, 1), some (.putfield 161, 3), none, none, some (.aload_n 0, 1)],
  [some (.aload_n 0, 1), some (.getfield 7, 3), none, none, some (.putfield 136, 3), none, none, some (.iconst 0, 1), some (.istore_n 2, 1), some (.iload_n 2, 1), some (.iconst 3, 1), some (.if_icmp .ge 33, 3), none, none, some (.aload_n 0, 1), some (.getfield 62, 3)],
  [none, none, some (.iload_n 2, 1), some (.aload_n 0, 1), some (.getfield 17, 3), none, none, some (.iload_n 2, 1), some (.iaload, 1), some (.iastore, 1), some (.aload_n 0, 1), some (.getfield 65, 3), none, none, some (.iload_n 2, 1), some (.aload_n 0, 1)],
  [some (.getfield 20, 3), none, none, some (.iload_n 2, 1), some (.iaload, 1), some (.iastore, 1), some (.iinc 2 1, 3), none, none, some (.goto (-32), 3), none, none, some (.aload_n 0, 1), some (.invokevirtual 133, 3), none, none],
  [some (.aload_n 0, 1), some (.invokevirtual 164, 3), none, none, some (.istore_n 2, 1), some (.iload_n 2, 1), some (.ifCond .eq 69, 3), none, none, some (.aload_n 0, 1), some (.getfield 123, 3), none, none, some (.aload_n 0, 1), some (.getfield 109, 3), none],
  [none, some (.if_icmp .ge 58, 3), none, none, some (.aload_n 0, 1), some (.getfield 161, 3), none, none, some (.bipush 24, 2), none, some (.if_icmp .ge 21, 3), none, none, some (.aload_n 0, 1), some (.getfield 59, 3), none],
  [none, some (.aload_n 0, 1), some (.getfield 123, 3), none, none, some (.iaload, 1), some (.bipush 59, 2), none, some (.if_icmp .ne 7, 3), none, none, some (.iconst 1, 1), some (.goto 4, 3), none, none, some (.iconst 0, 1)],
  [some (.istore_n 2, 1), some (.iload_n 2, 1), some (.ifCond .eq (-45), 3), none, none, some (.aload_n 0, 1), some (.invokevirtual 133, 3), none, none, some (.aload_n 0, 1), some (.invokevirtual 164, 3), none, none, some (.istore_n 2, 1), some (.aload_n 0, 1), some (.dup, 1)],
  [some (.getfield 161, 3), none, none, some (.iconst 1, 1), some (.iadd, 1), some (.putfield 161, 3), none, none, some (.goto (-67), 3), none, none, some (.iload_n 2, 1), some (.ireturn, 1)]]
def mt_Mo_fault : List (List (Option (Instr × Nat))) := [
  [some (.aload_n 0, 1), some (.iconst 0, 1), some (.invokevirtual 168, 3), none, none, some (.ifCond .eq 7, 3), none, none, some (.iconst (-1), 1), some (.goto 7, 3), none, none, some (.aload_n 0, 1), some (.getfield 123, 3), none, none],
  [some (.ireturn, 1)]]
def mt_Mo_rules : List (List (Option (Instr × Nat))) := [
  [some (.aload_n 0, 1), some (.iconst 0, 1), some (.invokevirtual 168, 3), none, none, some (.ifCond .ne 6, 3), none, none, some (.bipush (-4), 2), none, some (.ireturn, 1), some (.aload_n 0, 1), some (.iconst 1, 1), some (.invokevirtual 168, 3), none, none],
  [some (.pop, 1), some (.aload_n 0, 1), some (.iconst 0, 1), some (.putfield 109, 3), none, none, some (.iconst 0, 1), some (.istore_n 1, 1), some (.iload_n 1, 1), some (.iconst 3, 1), some (.if_icmp .ge 37, 3), none, none, some (.aload_n 0, 1), some (.getfield 41, 3), none],
  [none, some (.iload_n 1, 1), some (.iconst 0, 1), some (.iastore, 1), some (.aload_n 0, 1), some (.getfield 44, 3), none, none, some (.iload_n 1, 1), some (.iconst 0, 1), some (.iastore, 1), some (.aload_n 0, 1), some (.getfield 50, 3), none, none, some (.iload_n 1, 1)],
  [some (.iconst 0, 1), some (.iastore, 1), some (.aload_n 0, 1), some (.getfield 53, 3), none, none, some (.iload_n 1, 1), some (.iconst 0, 1), some (.iastore, 1), some (.iinc 1 1, 3), none, none, some (.goto (-36), 3), none, none, some (.aload_n 0, 1)],
  [some (.iconst 0, 1), some (.putfield 172, 3), none, none, some (.aload_n 0, 1), some (.iconst 0, 1), some (.putfield 175, 3), none, none, some (.aload_n 0, 1), some (.iconst 0, 1), some (.putfield 178, 3), none, none, some (.aload_n 0, 1), some (.iconst 0, 1)],
  [some (.putfield 181, 3), none, none, some (.aload_n 0, 1), some (.iconst 0, 1), some (.putfield 184, 3), none, none, some (.aload_n 0, 1), some (.getfield 161, 3), none, none, some (.ireturn, 1)]]
def mt_Mo_movers : List (List (Option (Instr × Nat))) := [
  [some (.iconst 0, 1), some (.istore_n 2, 1), some (.iconst 0, 1), some (.istore_n 3, 1), some (.iload_n 3, 1), some (.bipush 8, 2), none, some (.if_icmp .ge 44, 3), none, none, some (.iload_n 2, 1), some (.aload_n 0, 1), some (.getfield 29, 3), none, none, some (.bipush 8, 2)],
  [none, some (.iload_n 1, 1), some (.imul, 1), some (.iload_n 3, 1), some (.iadd, 1), some (.iaload, 1), some (.aload_n 0, 1), some (.getfield 32, 3), none, none, some (.bipush 8, 2), none, some (.iload_n 1, 1), some (.imul, 1), some (.iload_n 3, 1), some (.iadd, 1)],
  [some (.iaload, 1), some (.if_icmp .eq 9, 3), none, none, some (.iconst 1, 1), some (.iload_n 3, 1), some (.ishl, 1), some (.goto 4, 3), none, none, some (.iconst 0, 1), some (.ior, 1), some (.istore_n 2, 1), some (.iinc 3 1, 3), none, none],
  [some (.goto (-44), 3), none, none, some (.iload_n 2, 1), some (.ireturn, 1)]]
def mt_Mo_ruleBy : List (List (Option (Instr × Nat))) := [
  [some (.iload_n 3, 1), some (.iload_n 2, 1), some (.invokestatic 187, 3), none, none, some (.ifCond .eq 17, 3), none, none, some (.aload_n 0, 1), some (.getfield 32, 3), none, none, some (.bipush 8, 2), none, some (.iload_n 1, 1), some (.imul, 1)],
  [some (.iload_n 2, 1), some (.iadd, 1), some (.iaload, 1), some (.goto 14, 3), none, none, some (.aload_n 0, 1), some (.getfield 29, 3), none, none, some (.bipush 8, 2), none, some (.iload_n 1, 1), some (.imul, 1), some (.iload_n 2, 1), some (.iadd, 1)],
  [some (.iaload, 1), some (.ireturn, 1)]]
def mt_Mo_walks : List (List (Option (Instr × Nat))) := [
  [some (.aload_n 0, 1), some (.getfield 74, 3), none, none, some (.iconst 0, 1), some (.aload_n 0, 1), some (.getfield 17, 3), none, none, some (.iload_n 1, 1), some (.iaload, 1), some (.iastore, 1), some (.aload_n 0, 1), some (.iconst 1, 1), some (.putfield 191, 3), none],
  [none, some (.aload_n 0, 1), some (.iconst 1, 1), some (.aload_n 0, 1), some (.getfield 17, 3), none, none, some (.iload_n 1, 1), some (.iaload, 1), some (.ishl, 1), some (.putfield 194, 3), none, none, some (.iconst 1, 1), some (.istore_n 3, 1), some (.iload_n 3, 1)],
  [some (.ifCond .eq 122, 3), none, none, some (.aload_n 0, 1), some (.getfield 74, 3), none, none, some (.aload_n 0, 1), some (.getfield 191, 3), none, none, some (.iconst 1, 1), some (.isub, 1), some (.iaload, 1), some (.istore 4, 2), none],
  [some (.iload 4, 2), none, some (.aload_n 0, 1), some (.getfield 20, 3), none, none, some (.iload_n 1, 1), some (.iaload, 1), some (.if_icmp .ne 7, 3), none, none, some (.iconst (-1), 1), some (.goto 11, 3), none, none, some (.aload_n 0, 1)],
  [some (.iload_n 1, 1), some (.iload 4, 2), none, some (.iload_n 2, 1), some (.invokevirtual 197, 3), none, none, some (.istore 5, 2), none, some (.iload 5, 2), none, some (.iconst (-1), 1), some (.if_icmp .eq 35, 3), none, none, some (.aload_n 0, 1)],
  [some (.getfield 13, 3), none, none, some (.bipush 8, 2), none, some (.iload 4, 2), none, some (.imul, 1), some (.iload 5, 2), none, some (.iadd, 1), some (.iaload, 1), some (.ifCond .le 19, 3), none, none, some (.aload_n 0, 1)],
  [some (.getfield 194, 3), none, none, some (.iload 5, 2), none, some (.invokestatic 187, 3), none, none, some (.ifCond .ne 7, 3), none, none, some (.iconst 1, 1), some (.goto 4, 3), none, none, some (.iconst 0, 1)],
  [some (.istore_n 3, 1), some (.iload_n 3, 1), some (.ifCond .eq 37, 3), none, none, some (.aload_n 0, 1), some (.getfield 74, 3), none, none, some (.aload_n 0, 1), some (.getfield 191, 3), none, none, some (.iload 5, 2), none, some (.iastore, 1)],
  [some (.aload_n 0, 1), some (.dup, 1), some (.getfield 191, 3), none, none, some (.iconst 1, 1), some (.iadd, 1), some (.putfield 191, 3), none, none, some (.aload_n 0, 1), some (.dup, 1), some (.getfield 194, 3), none, none, some (.iconst 1, 1)],
  [some (.iload 5, 2), none, some (.ishl, 1), some (.ior, 1), some (.putfield 194, 3), none, none, some (.goto (-120), 3), none, none, some (.aload_n 0, 1), some (.aload_n 0, 1), some (.getfield 74, 3), none, none, some (.aload_n 0, 1)],
  [some (.getfield 191, 3), none, none, some (.iconst 1, 1), some (.isub, 1), some (.iaload, 1), some (.aload_n 0, 1), some (.getfield 20, 3), none, none, some (.iload_n 1, 1), some (.iaload, 1), some (.if_icmp .ne 7, 3), none, none, some (.iconst 1, 1)],
  [some (.goto 4, 3), none, none, some (.iconst 0, 1), some (.putfield 201, 3), none, none, some (.return_, 1)]]
def mt_Mo_needsOf : List (List (Option (Instr × Nat))) := [
  [some (.iconst 0, 1), some (.istore_n 3, 1), some (.iload_n 3, 1), some (.bipush 64, 2), none, some (.if_icmp .ge 16, 3), none, none, some (.aload_n 0, 1), some (.getfield 80, 3), none, none, some (.iload_n 3, 1), some (.iconst 0, 1), some (.iastore, 1), some (.iinc 3 1, 3)],
  [none, none, some (.goto (-16), 3), none, none, some (.iconst 0, 1), some (.istore_n 3, 1), some (.iload_n 3, 1), some (.iconst 3, 1), some (.if_icmp .ge 82, 3), none, none, some (.iload_n 3, 1), some (.iload_n 1, 1), some (.if_icmp .eq 71, 3), none],
  [none, some (.iload_n 3, 1), some (.iload_n 2, 1), some (.if_icmp .eq 66, 3), none, none, some (.aload_n 0, 1), some (.iload_n 3, 1), some (.aload_n 0, 1), some (.getfield 77, 3), none, none, some (.iload_n 3, 1), some (.iaload, 1), some (.invokevirtual 204, 3), none],
  [none, some (.iconst 1, 1), some (.istore 4, 2), none, some (.iload 4, 2), none, some (.aload_n 0, 1), some (.getfield 191, 3), none, none, some (.if_icmp .ge 43, 3), none, none, some (.aload_n 0, 1), some (.getfield 80, 3), none],
  [none, some (.bipush 8, 2), none, some (.aload_n 0, 1), some (.getfield 74, 3), none, none, some (.iload 4, 2), none, some (.iconst 1, 1), some (.isub, 1), some (.iaload, 1), some (.imul, 1), some (.aload_n 0, 1), some (.getfield 74, 3), none],
  [none, some (.iload 4, 2), none, some (.iaload, 1), some (.iadd, 1), some (.dup2, 1), some (.iaload, 1), some (.aload_n 0, 1), some (.getfield 23, 3), none, none, some (.iload_n 3, 1), some (.iaload, 1), some (.iadd, 1), some (.iastore, 1), some (.iinc 4 1, 3)],
  [none, none, some (.goto (-46), 3), none, none, some (.iinc 3 1, 3), none, none, some (.goto (-81), 3), none, none, some (.return_, 1)]]
def mt_Mo_asTurned : List (List (Option (Instr × Nat))) := [
  [some (.iconst 0, 1), some (.istore_n 1, 1), some (.iload_n 1, 1), some (.iconst 3, 1), some (.if_icmp .ge 21, 3), none, none, some (.aload_n 0, 1), some (.getfield 77, 3), none, none, some (.iload_n 1, 1), some (.aload_n 0, 1), some (.getfield 41, 3), none, none],
  [some (.iload_n 1, 1), some (.iaload, 1), some (.iastore, 1), some (.iinc 1 1, 3), none, none, some (.goto (-20), 3), none, none, some (.return_, 1)]]
def mt_Mo_isRoom : List (List (Option (Instr × Nat))) := [
  [some (.iconst 1, 1), some (.istore_n 2, 1), some (.iconst 1, 1), some (.istore_n 3, 1), some (.iload_n 3, 1), some (.aload_n 0, 1), some (.getfield 191, 3), none, none, some (.if_icmp .ge 63, 3), none, none, some (.bipush 8, 2), none, some (.aload_n 0, 1), some (.getfield 74, 3)],
  [none, none, some (.iload_n 3, 1), some (.iconst 1, 1), some (.isub, 1), some (.iaload, 1), some (.imul, 1), some (.aload_n 0, 1), some (.getfield 74, 3), none, none, some (.iload_n 3, 1), some (.iaload, 1), some (.iadd, 1), some (.istore 4, 2), none],
  [some (.iload_n 2, 1), some (.ifCond .eq 31, 3), none, none, some (.aload_n 0, 1), some (.getfield 80, 3), none, none, some (.iload 4, 2), none, some (.iaload, 1), some (.aload_n 0, 1), some (.getfield 23, 3), none, none, some (.iload_n 1, 1)],
  [some (.iaload, 1), some (.iadd, 1), some (.aload_n 0, 1), some (.getfield 13, 3), none, none, some (.iload 4, 2), none, some (.iaload, 1), some (.if_icmp .gt 7, 3), none, none, some (.iconst 1, 1), some (.goto 4, 3), none, none],
  [some (.iconst 0, 1), some (.istore_n 2, 1), some (.iinc 3 1, 3), none, none, some (.goto (-65), 3), none, none, some (.iload_n 2, 1), some (.ireturn, 1)]]
def mt_Mo_isRing : List (List (Option (Instr × Nat))) := [
  [some (.iconst 0, 1), some (.istore_n 3, 1), some (.iconst 0, 1), some (.istore 4, 2), none, some (.iload 4, 2), none, some (.aload_n 0, 1), some (.getfield 7, 3), none, none, some (.if_icmp .ge 68, 3), none, none, some (.aload_n 0, 1), some (.iload_n 1, 1)],
  [some (.iload 4, 2), none, some (.iload_n 2, 1), some (.invokevirtual 197, 3), none, none, some (.istore 5, 2), none, some (.iconst 0, 1), some (.istore 6, 2), none, some (.iload 6, 2), none, some (.bipush 8, 2), none, some (.if_icmp .ge 42, 3)],
  [none, none, some (.iload 5, 2), none, some (.iconst (-1), 1), some (.if_icmp .eq 36, 3), none, none, some (.iload_n 3, 1), some (.ifCond .ne 10, 3), none, none, some (.iload 5, 2), none, some (.iload 4, 2), none],
  [some (.if_icmp .ne 7, 3), none, none, some (.iconst 1, 1), some (.goto 4, 3), none, none, some (.iconst 0, 1), some (.istore_n 3, 1), some (.aload_n 0, 1), some (.iload_n 1, 1), some (.iload 5, 2), none, some (.iload_n 2, 1), some (.invokevirtual 197, 3), none],
  [none, some (.istore 5, 2), none, some (.iinc 6 1, 3), none, none, some (.goto (-43), 3), none, none, some (.iinc 4 1, 3), none, none, some (.goto (-71), 3), none, none, some (.iload_n 3, 1)],
  [some (.ireturn, 1)]]
def mt_Mo_holds : List (List (Option (Instr × Nat))) := [
  [some (.aload_n 0, 1), some (.iload_n 1, 1), some (.iload_n 2, 1), some (.invokevirtual 204, 3), none, none, some (.aload_n 0, 1), some (.getfield 201, 3), none, none, some (.ifCond .eq 7, 3), none, none, some (.iconst 1, 1), some (.goto 4, 3), none],
  [none, some (.iconst 0, 1), some (.istore_n 3, 1), some (.iload_n 3, 1), some (.aload_n 0, 1), some (.iload_n 1, 1), some (.iload_n 2, 1), some (.invokevirtual 208, 3), none, none, some (.ifCond .eq 7, 3), none, none, some (.iconst 0, 1), some (.goto 4, 3), none],
  [none, some (.iconst 2, 1), some (.ior, 1), some (.istore_n 3, 1), some (.iload_n 3, 1), some (.aload_n 0, 1), some (.getfield 26, 3), none, none, some (.iload_n 1, 1), some (.iaload, 1), some (.iconst (-1), 1), some (.if_icmp .eq 19, 3), none, none, some (.aload_n 0, 1)],
  [some (.getfield 194, 3), none, none, some (.aload_n 0, 1), some (.getfield 26, 3), none, none, some (.iload_n 1, 1), some (.iaload, 1), some (.invokestatic 187, 3), none, none, some (.ifCond .eq 7, 3), none, none, some (.iconst 4, 1)],
  [some (.goto 4, 3), none, none, some (.iconst 0, 1), some (.ior, 1), some (.istore_n 3, 1), some (.iload_n 3, 1), some (.aload_n 0, 1), some (.iload_n 1, 1), some (.invokevirtual 211, 3), none, none, some (.ifCond .eq 8, 3), none, none, some (.bipush 8, 2)],
  [none, some (.goto 4, 3), none, none, some (.iconst 0, 1), some (.ior, 1), some (.istore_n 3, 1), some (.iload_n 3, 1), some (.ireturn, 1)]]
def mt_Mo_isSound : List (List (Option (Instr × Nat))) := [
  [some (.aload_n 0, 1), some (.iload_n 1, 1), some (.iload_n 2, 1), some (.invokevirtual 214, 3), none, none, some (.aload_n 0, 1), some (.getfield 35, 3), none, none, some (.iand, 1), some (.aload_n 0, 1), some (.getfield 35, 3), none, none, some (.if_icmp .ne 7, 3)],
  [none, none, some (.iconst 1, 1), some (.goto 4, 3), none, none, some (.iconst 0, 1), some (.ireturn, 1)]]
def mt_Mo_isSafe : List (List (Option (Instr × Nat))) := [
  [some (.aload_n 0, 1), some (.getfield 83, 3), none, none, some (.iload_n 1, 1), some (.baload, 1), some (.istore_n 3, 1), some (.iload_n 2, 1), some (.istore 4, 2), none, some (.iload 4, 2), none, some (.ifCond .le 28, 3), none, none, some (.iload_n 3, 1)],
  [some (.ifCond .eq 24, 3), none, none, some (.aload_n 0, 1), some (.getfield 83, 3), none, none, some (.iload_n 1, 1), some (.iload 4, 2), none, some (.ior, 1), some (.baload, 1), some (.istore_n 3, 1), some (.iload 4, 2), none, some (.iconst 1, 1)],
  [some (.isub, 1), some (.iload_n 2, 1), some (.iand, 1), some (.istore 4, 2), none, some (.goto (-27), 3), none, none, some (.iload_n 3, 1), some (.ireturn, 1)]]
def mt_Mo_firstOf : List (List (Option (Instr × Nat))) := [
  [some (.iload_n 2, 1), some (.iload_n 1, 1), some (.iconst (-1), 1), some (.ixor, 1), some (.iand, 1), some (.istore 4, 2), none, some (.iload 4, 2), none, some (.ifCond .le 44, 3), none, none, some (.aload_n 0, 1), some (.getfield 87, 3), none, none],
  [some (.iload_n 1, 1), some (.iload 4, 2), none, some (.ior, 1), some (.iaload, 1), some (.iload_n 3, 1), some (.if_icmp .ne 16, 3), none, none, some (.aload_n 0, 1), some (.iload_n 1, 1), some (.iload 4, 2), none, some (.invokevirtual 218, 3), none, none],
  [some (.ifCond .eq 6, 3), none, none, some (.iload 4, 2), none, some (.ireturn, 1), some (.iload 4, 2), none, some (.iconst 1, 1), some (.isub, 1), some (.iload_n 2, 1), some (.iand, 1), some (.iload_n 1, 1), some (.iconst (-1), 1), some (.ixor, 1), some (.iand, 1)],
  [some (.istore 4, 2), none, some (.goto (-43), 3), none, none, some (.iconst 0, 1), some (.ireturn, 1)]]
def mt_Mo_plans : List (List (Option (Instr × Nat))) := [
  [some (.aload_n 0, 1), some (.iload_n 1, 1), some (.invokevirtual 221, 3), none, none, some (.istore_n 2, 1), some (.iconst 0, 1), some (.istore_n 3, 1), some (.iload_n 3, 1), some (.sipush 256, 3), none, none, some (.if_icmp .ge 53, 3), none, none, some (.aload_n 0, 1)],
  [some (.getfield 83, 3), none, none, some (.iload_n 3, 1), some (.iload_n 3, 1), some (.iload_n 2, 1), some (.iconst (-1), 1), some (.ixor, 1), some (.iand, 1), some (.ifCond .ne 16, 3), none, none, some (.aload_n 0, 1), some (.iload_n 1, 1), some (.iload_n 3, 1), some (.invokevirtual 225, 3)],
  [none, none, some (.ifCond .eq 7, 3), none, none, some (.iconst 1, 1), some (.goto 4, 3), none, none, some (.iconst 0, 1), some (.bastore, 1), some (.aload_n 0, 1), some (.getfield 87, 3), none, none, some (.iload_n 3, 1)],
  [some (.iload_n 3, 1), some (.iload_n 2, 1), some (.if_icmp .ne 7, 3), none, none, some (.iconst 0, 1), some (.goto 4, 3), none, none, some (.iconst (-1), 1), some (.iastore, 1), some (.iinc 3 1, 3), none, none, some (.goto (-54), 3), none],
  [none, some (.iconst 0, 1), some (.istore_n 3, 1), some (.iload_n 3, 1), some (.bipush 8, 2), none, some (.if_icmp .ge 85, 3), none, none, some (.iconst 0, 1), some (.istore 4, 2), none, some (.iload 4, 2), none, some (.sipush 256, 3), none],
  [none, some (.if_icmp .ge 68, 3), none, none, some (.iload 4, 2), none, some (.iload_n 2, 1), some (.iconst (-1), 1), some (.ixor, 1), some (.iand, 1), some (.ifCond .ne 53, 3), none, none, some (.aload_n 0, 1), some (.getfield 87, 3), none],
  [none, some (.iload 4, 2), none, some (.iaload, 1), some (.iconst (-1), 1), some (.if_icmp .ne 42, 3), none, none, some (.aload_n 0, 1), some (.getfield 90, 3), none, none, some (.iload 4, 2), none, some (.aload_n 0, 1), some (.iload 4, 2)],
  [none, some (.iload_n 2, 1), some (.iload_n 3, 1), some (.invokevirtual 228, 3), none, none, some (.iastore, 1), some (.aload_n 0, 1), some (.getfield 87, 3), none, none, some (.iload 4, 2), none, some (.aload_n 0, 1), some (.getfield 90, 3), none],
  [none, some (.iload 4, 2), none, some (.iaload, 1), some (.ifCond .le 9, 3), none, none, some (.iload_n 3, 1), some (.iconst 1, 1), some (.iadd, 1), some (.goto 4, 3), none, none, some (.iconst (-1), 1), some (.iastore, 1), some (.iinc 4 1, 3)],
  [none, none, some (.goto (-70), 3), none, none, some (.iinc 3 1, 3), none, none, some (.goto (-85), 3), none, none, some (.return_, 1)]]
def mt_Mo_plansNow : List (List (Option (Instr × Nat))) := [
  [some (.aload_n 0, 1), some (.invokevirtual 231, 3), none, none, some (.aload_n 0, 1), some (.iload_n 1, 1), some (.iload_n 1, 1), some (.invokevirtual 234, 3), none, none, some (.aload_n 0, 1), some (.iload_n 1, 1), some (.invokevirtual 237, 3), none, none, some (.return_, 1)]]
def mt_Mo_room : List (List (Option (Instr × Nat))) := [
  [some (.aload_n 0, 1), some (.iload_n 1, 1), some (.invokevirtual 240, 3), none, none, some (.ifCond .eq 25, 3), none, none, some (.aload_n 0, 1), some (.iload_n 2, 1), some (.invokevirtual 240, 3), none, none, some (.ifCond .eq 17, 3), none, none],
  [some (.aload_n 0, 1), some (.getfield 13, 3), none, none, some (.bipush 8, 2), none, some (.iload_n 1, 1), some (.imul, 1), some (.iload_n 2, 1), some (.iadd, 1), some (.iaload, 1), some (.goto 5, 3), none, none, some (.bipush (-2), 2), none],
  [some (.ireturn, 1)]]
def mt_Mo_load : List (List (Option (Instr × Nat))) := [
  [some (.aload_n 0, 1), some (.iload_n 1, 1), some (.invokevirtual 240, 3), none, none, some (.ifCond .eq 11, 3), none, none, some (.aload_n 0, 1), some (.iload_n 2, 1), some (.invokevirtual 240, 3), none, none, some (.ifCond .ne 6, 3), none, none],
  [some (.bipush (-2), 2), none, some (.ireturn, 1), some (.aload_n 0, 1), some (.invokevirtual 231, 3), none, none, some (.aload_n 0, 1), some (.iconst (-1), 1), some (.iconst (-1), 1), some (.invokevirtual 234, 3), none, none, some (.aload_n 0, 1), some (.getfield 80, 3), none],
  [none, some (.bipush 8, 2), none, some (.iload_n 1, 1), some (.imul, 1), some (.iload_n 2, 1), some (.iadd, 1), some (.iaload, 1), some (.ireturn, 1)]]
def mt_Mo_flow : List (List (Option (Instr × Nat))) := [
  [some (.iload_n 1, 1), some (.invokestatic 243, 3), none, none, some (.ifCond .ne 6, 3), none, none, some (.bipush (-2), 2), none, some (.ireturn, 1), some (.iload_n 2, 1), some (.tableswitch 100 0 7 #[45, 52, 59, 66, 73, 79, 86, 93], 45), none, none, none, none],
  [none, none, none, none, none, none, none, none, none, none, none, none, none, none, none, none],
  [none, none, none, none, none, none, none, none, none, none, none, none, none, none, none, none],
  [none, none, none, none, none, none, none, none, some (.aload_n 0, 1), some (.getfield 17, 3), none, none, some (.iload_n 1, 1), some (.iaload, 1), some (.ireturn, 1), some (.aload_n 0, 1)],
  [some (.getfield 20, 3), none, none, some (.iload_n 1, 1), some (.iaload, 1), some (.ireturn, 1), some (.aload_n 0, 1), some (.getfield 23, 3), none, none, some (.iload_n 1, 1), some (.iaload, 1), some (.ireturn, 1), some (.aload_n 0, 1), some (.getfield 26, 3), none],
  [none, some (.iload_n 1, 1), some (.iaload, 1), some (.ireturn, 1), some (.aload_n 0, 1), some (.iload_n 1, 1), some (.invokevirtual 221, 3), none, none, some (.ireturn, 1), some (.aload_n 0, 1), some (.getfield 41, 3), none, none, some (.iload_n 1, 1), some (.iaload, 1)],
  [some (.ireturn, 1), some (.aload_n 0, 1), some (.getfield 44, 3), none, none, some (.iload_n 1, 1), some (.iaload, 1), some (.ireturn, 1), some (.aload_n 0, 1), some (.getfield 50, 3), none, none, some (.iload_n 1, 1), some (.iaload, 1), some (.ireturn, 1), some (.bipush (-3), 2)],
  [none, some (.ireturn, 1)]]
def mt_Mo_rule : List (List (Option (Instr × Nat))) := [
  [some (.iload_n 1, 1), some (.invokestatic 243, 3), none, none, some (.ifCond .eq 11, 3), none, none, some (.aload_n 0, 1), some (.iload_n 2, 1), some (.invokevirtual 240, 3), none, none, some (.ifCond .ne 6, 3), none, none, some (.bipush (-2), 2)],
  [none, some (.ireturn, 1), some (.iload_n 3, 1), some (.tableswitch 62 0 2 #[25, 37, 49], 25), none, none, none, none, none, none, none, none, none, none, none, none],
  [none, none, none, none, none, none, none, none, none, none, none, none, some (.aload_n 0, 1), some (.getfield 29, 3), none, none],
  [some (.bipush 8, 2), none, some (.iload_n 1, 1), some (.imul, 1), some (.iload_n 2, 1), some (.iadd, 1), some (.iaload, 1), some (.ireturn, 1), some (.aload_n 0, 1), some (.getfield 32, 3), none, none, some (.bipush 8, 2), none, some (.iload_n 1, 1), some (.imul, 1)],
  [some (.iload_n 2, 1), some (.iadd, 1), some (.iaload, 1), some (.ireturn, 1), some (.aload_n 0, 1), some (.iload_n 1, 1), some (.iload_n 2, 1), some (.aload_n 0, 1), some (.getfield 41, 3), none, none, some (.iload_n 1, 1), some (.iaload, 1), some (.invokevirtual 197, 3), none, none],
  [some (.ireturn, 1), some (.bipush (-3), 2), none, some (.ireturn, 1)]]
def mt_Mo_tableWith : List (List (Option (Instr × Nat))) := [
  [some (.iconst 0, 1), some (.istore_n 3, 1), some (.iconst 0, 1), some (.istore 4, 2), none, some (.iload 4, 2), none, some (.iconst 3, 1), some (.if_icmp .ge 75, 3), none, none, some (.iload_n 3, 1), some (.aload_n 0, 1), some (.iload 4, 2), none, some (.iload_n 1, 1)],
  [some (.aload_n 0, 1), some (.getfield 41, 3), none, none, some (.iload 4, 2), none, some (.iaload, 1), some (.invokevirtual 197, 3), none, none, some (.iconst (-1), 1), some (.if_icmp .eq 7, 3), none, none, some (.iconst 1, 1), some (.goto 4, 3)],
  [none, none, some (.iconst 0, 1), some (.iadd, 1), some (.istore_n 3, 1), some (.iload_n 3, 1), some (.aload_n 0, 1), some (.getfield 44, 3), none, none, some (.iload 4, 2), none, some (.iaload, 1), some (.ifCond .ne 9, 3), none, none],
  [some (.iload 4, 2), none, some (.iload_n 2, 1), some (.if_icmp .ne 23, 3), none, none, some (.aload_n 0, 1), some (.getfield 32, 3), none, none, some (.bipush 8, 2), none, some (.iload 4, 2), none, some (.imul, 1), some (.iload_n 1, 1)],
  [some (.iadd, 1), some (.iaload, 1), some (.iconst (-1), 1), some (.if_icmp .eq 7, 3), none, none, some (.iconst 1, 1), some (.goto 4, 3), none, none, some (.iconst 0, 1), some (.iadd, 1), some (.istore_n 3, 1), some (.iinc 4 1, 3), none, none],
  [some (.goto (-75), 3), none, none, some (.iload_n 3, 1), some (.ireturn, 1)]]
def mt_Mo_table : List (List (Option (Instr × Nat))) := [
  [some (.aload_n 0, 1), some (.iload_n 1, 1), some (.invokevirtual 240, 3), none, none, some (.ifCond .eq 12, 3), none, none, some (.aload_n 0, 1), some (.iload_n 1, 1), some (.iconst (-1), 1), some (.invokevirtual 246, 3), none, none, some (.goto 5, 3), none],
  [none, some (.bipush (-2), 2), none, some (.ireturn, 1)]]
def mt_Mo_greatestTable : List (List (Option (Instr × Nat))) := [
  [some (.iconst 0, 1), some (.istore_n 2, 1), some (.iconst 0, 1), some (.istore_n 3, 1), some (.iload_n 3, 1), some (.aload_n 0, 1), some (.getfield 7, 3), none, none, some (.if_icmp .ge 30, 3), none, none, some (.aload_n 0, 1), some (.iload_n 3, 1), some (.iload_n 1, 1), some (.invokevirtual 246, 3)],
  [none, none, some (.istore 4, 2), none, some (.iload 4, 2), none, some (.iload_n 2, 1), some (.if_icmp .le 8, 3), none, none, some (.iload 4, 2), none, some (.goto 4, 3), none, none, some (.iload_n 2, 1)],
  [some (.istore_n 2, 1), some (.iinc 3 1, 3), none, none, some (.goto (-32), 3), none, none, some (.iload_n 2, 1), some (.ireturn, 1)]]
def mt_Mo_link : List (List (Option (Instr × Nat))) := [
  [some (.aload_n 0, 1), some (.iload_n 1, 1), some (.invokevirtual 240, 3), none, none, some (.ifCond .eq 16, 3), none, none, some (.aload_n 0, 1), some (.iload_n 2, 1), some (.invokevirtual 240, 3), none, none, some (.ifCond .eq 8, 3), none, none],
  [some (.iload_n 1, 1), some (.iload_n 2, 1), some (.if_icmp .ne 6, 3), none, none, some (.bipush (-2), 2), none, some (.ireturn, 1), some (.iload_n 3, 1), some (.i2l, 1), some (.lconst 0, 1), some (.ldc2_w 249, 3), none, none, some (.invokestatic 97, 3), none],
  [none, some (.ifCond .ne 6, 3), none, none, some (.bipush (-3), 2), none, some (.ireturn, 1), some (.aload_n 0, 1), some (.getfield 13, 3), none, none, some (.bipush 8, 2), none, some (.iload_n 1, 1), some (.imul, 1), some (.iload_n 2, 1)],
  [some (.iadd, 1), some (.iaload, 1), some (.istore 4, 2), none, some (.aload_n 0, 1), some (.getfield 13, 3), none, none, some (.bipush 8, 2), none, some (.iload_n 1, 1), some (.imul, 1), some (.iload_n 2, 1), some (.iadd, 1), some (.iload_n 3, 1), some (.iastore, 1)],
  [some (.iload 4, 2), none, some (.ireturn, 1)]]
def mt_Mo_want : List (List (Option (Instr × Nat))) := [
  [some (.iload_n 1, 1), some (.i2l, 1), some (.lconst 0, 1), some (.ldc2_w 251, 3), none, none, some (.invokestatic 97, 3), none, none, some (.ifCond .ne 6, 3), none, none, some (.bipush (-3), 2), none, some (.ireturn, 1), some (.aload_n 0, 1)],
  [some (.getfield 35, 3), none, none, some (.istore_n 2, 1), some (.aload_n 0, 1), some (.iload_n 1, 1), some (.putfield 35, 3), none, none, some (.iload_n 2, 1), some (.ireturn, 1)]]
def mt_Mo_slots : List (List (Option (Instr × Nat))) := [
  [some (.iload_n 1, 1), some (.i2l, 1), some (.lconst 1, 1), some (.ldc2_w 253, 3), none, none, some (.invokestatic 97, 3), none, none, some (.ifCond .ne 6, 3), none, none, some (.bipush (-3), 2), none, some (.ireturn, 1), some (.aload_n 0, 1)],
  [some (.getfield 38, 3), none, none, some (.istore_n 2, 1), some (.aload_n 0, 1), some (.iload_n 1, 1), some (.putfield 38, 3), none, none, some (.iload_n 2, 1), some (.ireturn, 1)]]
def mt_Mo_isRound : List (List (Option (Instr × Nat))) := [
  [some (.iload_n 2, 1), some (.ifCond .le 28, 3), none, none, some (.iload_n 2, 1), some (.aload_n 0, 1), some (.iload_n 1, 1), some (.invokevirtual 221, 3), none, none, some (.aload_n 0, 1), some (.getfield 41, 3), none, none, some (.iload_n 1, 1), some (.iaload, 1)],
  [some (.iconst (-1), 1), some (.ixor, 1), some (.iand, 1), some (.iconst (-1), 1), some (.ixor, 1), some (.iand, 1), some (.ifCond .ne 7, 3), none, none, some (.iconst 1, 1), some (.goto 4, 3), none, none, some (.iconst 0, 1), some (.ireturn, 1)]]
def mt_Mo_turns : List (List (Option (Instr × Nat))) := [
  [some (.aload_n 0, 1), some (.getfield 41, 3), none, none, some (.iload_n 1, 1), some (.dup2, 1), some (.iaload, 1), some (.iload_n 2, 1), some (.ior, 1), some (.iastore, 1), some (.aload_n 0, 1), some (.getfield 47, 3), none, none, some (.bipush 8, 2), none],
  [some (.iload_n 1, 1), some (.imul, 1), some (.aload_n 0, 1), some (.getfield 50, 3), none, none, some (.iload_n 1, 1), some (.iaload, 1), some (.iadd, 1), some (.iload_n 2, 1), some (.iastore, 1), some (.aload_n 0, 1), some (.getfield 50, 3), none, none, some (.iload_n 1, 1)],
  [some (.dup2, 1), some (.iaload, 1), some (.iconst 1, 1), some (.iadd, 1), some (.iastore, 1), some (.aload_n 0, 1), some (.getfield 53, 3), none, none, some (.iload_n 1, 1), some (.dup2, 1), some (.iaload, 1), some (.iconst 1, 1), some (.iadd, 1), some (.iastore, 1), some (.return_, 1)]]
def mt_Mo_isStale : List (List (Option (Instr × Nat))) := [
  [some (.iconst 0, 1), some (.istore_n 2, 1), some (.iconst 0, 1), some (.istore_n 3, 1), some (.iload_n 3, 1), some (.aload_n 0, 1), some (.getfield 172, 3), none, none, some (.if_icmp .ge 52, 3), none, none, some (.iload_n 2, 1), some (.ifCond .ne 36, 3), none, none],
  [some (.aload_n 0, 1), some (.getfield 56, 3), none, none, some (.bipush 8, 2), none, some (.iload_n 3, 1), some (.imul, 1), some (.iaload, 1), some (.iload_n 1, 1), some (.if_icmp .ne 27, 3), none, none, some (.aload_n 0, 1), some (.getfield 56, 3), none],
  [none, some (.bipush 8, 2), none, some (.iload_n 3, 1), some (.imul, 1), some (.iconst 4, 1), some (.iadd, 1), some (.iaload, 1), some (.aload_n 0, 1), some (.getfield 53, 3), none, none, some (.iload_n 1, 1), some (.iaload, 1), some (.if_icmp .ge 7, 3), none],
  [none, some (.iconst 1, 1), some (.goto 4, 3), none, none, some (.iconst 0, 1), some (.istore_n 2, 1), some (.iinc 3 1, 3), none, none, some (.goto (-54), 3), none, none, some (.iload_n 2, 1), some (.ireturn, 1)]]
def mt_Mo_lettersOf : List (List (Option (Instr × Nat))) := [
  [some (.iconst 0, 1), some (.istore_n 3, 1), some (.iconst 0, 1), some (.istore 4, 2), none, some (.iload 4, 2), none, some (.aload_n 0, 1), some (.getfield 172, 3), none, none, some (.if_icmp .ge 47, 3), none, none, some (.iload_n 3, 1), some (.aload_n 0, 1)],
  [some (.getfield 56, 3), none, none, some (.bipush 8, 2), none, some (.iload 4, 2), none, some (.imul, 1), some (.iaload, 1), some (.iload_n 1, 1), some (.if_icmp .ne 23, 3), none, none, some (.aload_n 0, 1), some (.getfield 56, 3), none],
  [none, some (.bipush 8, 2), none, some (.iload 4, 2), none, some (.imul, 1), some (.iconst 3, 1), some (.iadd, 1), some (.iaload, 1), some (.iload_n 2, 1), some (.if_icmp .ne 7, 3), none, none, some (.iconst 1, 1), some (.goto 4, 3), none],
  [none, some (.iconst 0, 1), some (.iadd, 1), some (.istore_n 3, 1), some (.iinc 4 1, 3), none, none, some (.goto (-50), 3), none, none, some (.iload_n 3, 1), some (.ireturn, 1)]]
def mt_Mo_turn : List (List (Option (Instr × Nat))) := [
  [some (.iload_n 1, 1), some (.invokestatic 243, 3), none, none, some (.ifCond .ne 6, 3), none, none, some (.bipush (-2), 2), none, some (.ireturn, 1), some (.aload_n 0, 1), some (.iload_n 1, 1), some (.iload_n 2, 1), some (.invokevirtual 255, 3), none, none],
  [some (.ifCond .ne 6, 3), none, none, some (.bipush (-3), 2), none, some (.ireturn, 1), some (.aload_n 0, 1), some (.getfield 44, 3), none, none, some (.iload_n 1, 1), some (.iaload, 1), some (.ifCond .ne 21, 3), none, none, some (.aload_n 0, 1)],
  [some (.iload_n 1, 1), some (.invokevirtual 258, 3), none, none, some (.ifCond .ne 13, 3), none, none, some (.aload_n 0, 1), some (.iload_n 1, 1), some (.iload_n 2, 1), some (.invokevirtual 261, 3), none, none, some (.iconst (-1), 1), some (.if_icmp .eq 6, 3), none],
  [none, some (.bipush (-4), 2), none, some (.ireturn, 1), some (.aload_n 0, 1), some (.iload_n 1, 1), some (.iload_n 2, 1), some (.invokevirtual 264, 3), none, none, some (.aload_n 0, 1), some (.getfield 41, 3), none, none, some (.iload_n 1, 1), some (.iaload, 1)],
  [some (.ireturn, 1)]]
def mt_Mo_force : List (List (Option (Instr × Nat))) := [
  [some (.iload_n 1, 1), some (.invokestatic 243, 3), none, none, some (.ifCond .ne 6, 3), none, none, some (.bipush (-2), 2), none, some (.ireturn, 1), some (.aload_n 0, 1), some (.iload_n 1, 1), some (.iload_n 2, 1), some (.invokevirtual 255, 3), none, none],
  [some (.ifCond .ne 6, 3), none, none, some (.bipush (-3), 2), none, some (.ireturn, 1), some (.aload_n 0, 1), some (.getfield 44, 3), none, none, some (.iload_n 1, 1), some (.iaload, 1), some (.ifCond .eq 6, 3), none, none, some (.bipush (-4), 2)],
  [none, some (.ireturn, 1), some (.aload_n 0, 1), some (.iload_n 1, 1), some (.iload_n 2, 1), some (.invokevirtual 264, 3), none, none, some (.aload_n 0, 1), some (.getfield 41, 3), none, none, some (.iload_n 1, 1), some (.iaload, 1), some (.ireturn, 1)]]
def mt_Mo_advance : List (List (Option (Instr × Nat))) := [
  [some (.iload_n 1, 1), some (.invokestatic 243, 3), none, none, some (.ifCond .ne 6, 3), none, none, some (.bipush (-2), 2), none, some (.ireturn, 1), some (.aload_n 0, 1), some (.getfield 44, 3), none, none, some (.iload_n 1, 1), some (.iaload, 1)],
  [some (.ifCond .ne 25, 3), none, none, some (.aload_n 0, 1), some (.iload_n 1, 1), some (.invokevirtual 258, 3), none, none, some (.ifCond .ne 17, 3), none, none, some (.aload_n 0, 1), some (.getfield 41, 3), none, none, some (.iload_n 1, 1)],
  [some (.iaload, 1), some (.aload_n 0, 1), some (.iload_n 1, 1), some (.invokevirtual 221, 3), none, none, some (.if_icmp .ne 6, 3), none, none, some (.bipush (-4), 2), none, some (.ireturn, 1), some (.aload_n 0, 1), some (.iload_n 1, 1), some (.invokevirtual 267, 3), none],
  [none, some (.aload_n 0, 1), some (.getfield 87, 3), none, none, some (.aload_n 0, 1), some (.getfield 41, 3), none, none, some (.iload_n 1, 1), some (.iaload, 1), some (.iaload, 1), some (.iconst (-1), 1), some (.if_icmp .ne 5, 3), none, none],
  [some (.iconst (-1), 1), some (.ireturn, 1), some (.aload_n 0, 1), some (.getfield 90, 3), none, none, some (.aload_n 0, 1), some (.getfield 41, 3), none, none, some (.iload_n 1, 1), some (.iaload, 1), some (.iaload, 1), some (.istore_n 2, 1), some (.aload_n 0, 1), some (.iload_n 1, 1)],
  [some (.iload_n 2, 1), some (.invokevirtual 264, 3), none, none, some (.iload_n 2, 1), some (.ireturn, 1)]]
def mt_Mo_reverse : List (List (Option (Instr × Nat))) := [
  [some (.iload_n 1, 1), some (.invokestatic 243, 3), none, none, some (.ifCond .ne 6, 3), none, none, some (.bipush (-2), 2), none, some (.ireturn, 1), some (.aload_n 0, 1), some (.getfield 44, 3), none, none, some (.iload_n 1, 1), some (.iaload, 1)],
  [some (.ifCond .ne 12, 3), none, none, some (.aload_n 0, 1), some (.getfield 50, 3), none, none, some (.iload_n 1, 1), some (.iaload, 1), some (.ifCond .ne 6, 3), none, none, some (.bipush (-4), 2), none, some (.ireturn, 1), some (.aload_n 0, 1)],
  [some (.getfield 50, 3), none, none, some (.iload_n 1, 1), some (.dup2, 1), some (.iaload, 1), some (.iconst 1, 1), some (.isub, 1), some (.iastore, 1), some (.aload_n 0, 1), some (.getfield 41, 3), none, none, some (.iload_n 1, 1), some (.dup2, 1), some (.iaload, 1)],
  [some (.aload_n 0, 1), some (.getfield 47, 3), none, none, some (.bipush 8, 2), none, some (.iload_n 1, 1), some (.imul, 1), some (.aload_n 0, 1), some (.getfield 50, 3), none, none, some (.iload_n 1, 1), some (.iaload, 1), some (.iadd, 1), some (.iaload, 1)],
  [some (.iconst (-1), 1), some (.ixor, 1), some (.iand, 1), some (.iastore, 1), some (.aload_n 0, 1), some (.getfield 53, 3), none, none, some (.iload_n 1, 1), some (.dup2, 1), some (.iaload, 1), some (.iconst 1, 1), some (.iadd, 1), some (.iastore, 1), some (.aload_n 0, 1), some (.getfield 41, 3)],
  [none, none, some (.iload_n 1, 1), some (.iaload, 1), some (.ireturn, 1)]]
def mt_Mo_ready : List (List (Option (Instr × Nat))) := [
  [some (.iload_n 1, 1), some (.invokestatic 243, 3), none, none, some (.ifCond .ne 6, 3), none, none, some (.bipush (-2), 2), none, some (.ireturn, 1), some (.aload_n 0, 1), some (.getfield 44, 3), none, none, some (.iload_n 1, 1), some (.iaload, 1)],
  [some (.ifCond .ne 12, 3), none, none, some (.aload_n 0, 1), some (.getfield 41, 3), none, none, some (.iload_n 1, 1), some (.iaload, 1), some (.ifCond .eq 6, 3), none, none, some (.bipush (-4), 2), none, some (.ireturn, 1), some (.aload_n 0, 1)],
  [some (.iload_n 1, 1), some (.invokevirtual 270, 3), none, none, some (.aload_n 0, 1), some (.getfield 38, 3), none, none, some (.if_icmp .le 6, 3), none, none, some (.bipush (-5), 2), none, some (.ireturn, 1), some (.aload_n 0, 1), some (.getfield 44, 3)],
  [none, none, some (.iload_n 1, 1), some (.iconst 1, 1), some (.iastore, 1), some (.aload_n 0, 1), some (.iconst (-1), 1), some (.invokevirtual 270, 3), none, none, some (.ireturn, 1)]]
def mt_Mo_flip : List (List (Option (Instr × Nat))) := [
  [some (.iload_n 1, 1), some (.invokestatic 243, 3), none, none, some (.ifCond .ne 6, 3), none, none, some (.bipush (-2), 2), none, some (.ireturn, 1), some (.aload_n 0, 1), some (.getfield 44, 3), none, none, some (.iload_n 1, 1), some (.iaload, 1)],
  [some (.iconst 1, 1), some (.if_icmp .eq 6, 3), none, none, some (.bipush (-4), 2), none, some (.ireturn, 1), some (.aload_n 0, 1), some (.getfield 44, 3), none, none, some (.iload_n 1, 1), some (.iconst 2, 1), some (.iastore, 1), some (.aload_n 0, 1), some (.iload_n 1, 1)],
  [some (.iconst 0, 1), some (.invokevirtual 273, 3), none, none, some (.aload_n 0, 1), some (.iload_n 1, 1), some (.iconst 1, 1), some (.invokevirtual 273, 3), none, none, some (.iadd, 1), some (.ireturn, 1)]]
def mt_Mo_finish : List (List (Option (Instr × Nat))) := [
  [some (.iload_n 1, 1), some (.invokestatic 243, 3), none, none, some (.ifCond .ne 6, 3), none, none, some (.bipush (-2), 2), none, some (.ireturn, 1), some (.aload_n 0, 1), some (.getfield 44, 3), none, none, some (.iload_n 1, 1), some (.iaload, 1)],
  [some (.iconst 2, 1), some (.if_icmp .ne 12, 3), none, none, some (.aload_n 0, 1), some (.iload_n 1, 1), some (.iconst 0, 1), some (.invokevirtual 273, 3), none, none, some (.ifCond .le 6, 3), none, none, some (.bipush (-4), 2), none, some (.ireturn, 1)],
  [some (.aload_n 0, 1), some (.getfield 41, 3), none, none, some (.iload_n 1, 1), some (.aload_n 0, 1), some (.iload_n 1, 1), some (.invokevirtual 221, 3), none, none, some (.iastore, 1), some (.aload_n 0, 1), some (.getfield 44, 3), none, none, some (.iload_n 1, 1)],
  [some (.iconst 0, 1), some (.iastore, 1), some (.aload_n 0, 1), some (.getfield 50, 3), none, none, some (.iload_n 1, 1), some (.iconst 0, 1), some (.iastore, 1), some (.aload_n 0, 1), some (.getfield 41, 3), none, none, some (.iload_n 1, 1), some (.iaload, 1), some (.ireturn, 1)]]
def mt_Mo_cancel : List (List (Option (Instr × Nat))) := [
  [some (.iload_n 1, 1), some (.invokestatic 243, 3), none, none, some (.ifCond .ne 6, 3), none, none, some (.bipush (-2), 2), none, some (.ireturn, 1), some (.aload_n 0, 1), some (.getfield 44, 3), none, none, some (.iload_n 1, 1), some (.iaload, 1)],
  [some (.ifCond .eq 12, 3), none, none, some (.aload_n 0, 1), some (.iload_n 1, 1), some (.iconst 1, 1), some (.invokevirtual 273, 3), none, none, some (.ifCond .le 6, 3), none, none, some (.bipush (-4), 2), none, some (.ireturn, 1), some (.aload_n 0, 1)],
  [some (.getfield 44, 3), none, none, some (.iload_n 1, 1), some (.iaload, 1), some (.istore_n 2, 1), some (.aload_n 0, 1), some (.getfield 44, 3), none, none, some (.iload_n 1, 1), some (.iconst 0, 1), some (.iastore, 1), some (.iload_n 2, 1), some (.ireturn, 1)]]
def mt_Mo_send : List (List (Option (Instr × Nat))) := [
  [some (.iload_n 1, 1), some (.invokestatic 243, 3), none, none, some (.ifCond .ne 6, 3), none, none, some (.bipush (-2), 2), none, some (.ireturn, 1), some (.aload_n 0, 1), some (.getfield 172, 3), none, none, some (.bipush 12, 2), none],
  [some (.if_icmp .ne 6, 3), none, none, some (.bipush (-5), 2), none, some (.ireturn, 1), some (.bipush 8, 2), none, some (.aload_n 0, 1), some (.getfield 172, 3), none, none, some (.imul, 1), some (.istore_n 2, 1), some (.aload_n 0, 1), some (.getfield 56, 3)],
  [none, none, some (.iload_n 2, 1), some (.iload_n 1, 1), some (.iastore, 1), some (.aload_n 0, 1), some (.getfield 56, 3), none, none, some (.iload_n 2, 1), some (.iconst 1, 1), some (.iadd, 1), some (.aload_n 0, 1), some (.getfield 17, 3), none, none],
  [some (.iload_n 1, 1), some (.iaload, 1), some (.iastore, 1), some (.aload_n 0, 1), some (.getfield 56, 3), none, none, some (.iload_n 2, 1), some (.iconst 2, 1), some (.iadd, 1), some (.iconst 0, 1), some (.iastore, 1), some (.aload_n 0, 1), some (.getfield 56, 3), none, none],
  [some (.iload_n 2, 1), some (.iconst 3, 1), some (.iadd, 1), some (.aload_n 0, 1), some (.getfield 44, 3), none, none, some (.iload_n 1, 1), some (.iaload, 1), some (.iconst 2, 1), some (.if_icmp .ne 7, 3), none, none, some (.iconst 1, 1), some (.goto 4, 3), none],
  [none, some (.iconst 0, 1), some (.iastore, 1), some (.aload_n 0, 1), some (.getfield 56, 3), none, none, some (.iload_n 2, 1), some (.iconst 4, 1), some (.iadd, 1), some (.aload_n 0, 1), some (.getfield 53, 3), none, none, some (.iload_n 1, 1), some (.iaload, 1)],
  [some (.iastore, 1), some (.aload_n 0, 1), some (.getfield 56, 3), none, none, some (.iload_n 2, 1), some (.iconst 5, 1), some (.iadd, 1), some (.iconst 0, 1), some (.iastore, 1), some (.aload_n 0, 1), some (.getfield 56, 3), none, none, some (.iload_n 2, 1), some (.bipush 6, 2)],
  [none, some (.iadd, 1), some (.iconst 0, 1), some (.iastore, 1), some (.aload_n 0, 1), some (.getfield 56, 3), none, none, some (.iload_n 2, 1), some (.bipush 7, 2), none, some (.iadd, 1), some (.iconst 0, 1), some (.iastore, 1), some (.aload_n 0, 1), some (.dup, 1)],
  [some (.getfield 172, 3), none, none, some (.iconst 1, 1), some (.iadd, 1), some (.putfield 172, 3), none, none, some (.aload_n 0, 1), some (.getfield 172, 3), none, none, some (.ireturn, 1)]]
def mt_Mo_hops : List (List (Option (Instr × Nat))) := [
  [some (.aload_n 0, 1), some (.getfield 56, 3), none, none, some (.iload_n 1, 1), some (.iaload, 1), some (.istore_n 2, 1), some (.aload_n 0, 1), some (.getfield 56, 3), none, none, some (.iload_n 1, 1), some (.iconst 1, 1), some (.iadd, 1), some (.iaload, 1), some (.istore_n 3, 1)],
  [some (.aload_n 0, 1), some (.getfield 56, 3), none, none, some (.iload_n 1, 1), some (.iconst 3, 1), some (.iadd, 1), some (.iaload, 1), some (.iconst 1, 1), some (.if_icmp .eq 16, 3), none, none, some (.aload_n 0, 1), some (.getfield 41, 3), none, none],
  [some (.iload_n 2, 1), some (.iaload, 1), some (.iload_n 3, 1), some (.invokestatic 187, 3), none, none, some (.ifCond .eq 7, 3), none, none, some (.iconst 1, 1), some (.goto 4, 3), none, none, some (.iconst 0, 1), some (.istore 4, 2), none],
  [some (.iload 4, 2), none, some (.ifCond .eq 17, 3), none, none, some (.aload_n 0, 1), some (.getfield 32, 3), none, none, some (.bipush 8, 2), none, some (.iload_n 2, 1), some (.imul, 1), some (.iload_n 3, 1), some (.iadd, 1), some (.iaload, 1)],
  [some (.goto 14, 3), none, none, some (.aload_n 0, 1), some (.getfield 29, 3), none, none, some (.bipush 8, 2), none, some (.iload_n 2, 1), some (.imul, 1), some (.iload_n 3, 1), some (.iadd, 1), some (.iaload, 1), some (.istore 5, 2), none],
  [some (.iload 5, 2), none, some (.iconst (-1), 1), some (.if_icmp .eq 18, 3), none, none, some (.aload_n 0, 1), some (.getfield 13, 3), none, none, some (.bipush 8, 2), none, some (.iload_n 3, 1), some (.imul, 1), some (.iload 5, 2), none],
  [some (.iadd, 1), some (.iaload, 1), some (.ifCond .ne 15, 3), none, none, some (.aload_n 0, 1), some (.dup, 1), some (.getfield 184, 3), none, none, some (.iconst 1, 1), some (.iadd, 1), some (.putfield 184, 3), none, none, some (.iconst 0, 1)],
  [some (.ireturn, 1), some (.aload_n 0, 1), some (.iload_n 2, 1), some (.invokevirtual 221, 3), none, none, some (.iload_n 3, 1), some (.invokestatic 187, 3), none, none, some (.ifCond .eq 24, 3), none, none, some (.aload_n 0, 1), some (.getfield 56, 3), none],
  [none, some (.iload 4, 2), none, some (.ifCond .eq 10, 3), none, none, some (.iload_n 1, 1), some (.bipush 6, 2), none, some (.iadd, 1), some (.goto 6, 3), none, none, some (.iload_n 1, 1), some (.iconst 5, 1), some (.iadd, 1)],
  [some (.iconst 1, 1), some (.iastore, 1), some (.aload_n 0, 1), some (.getfield 56, 3), none, none, some (.iload_n 1, 1), some (.iconst 1, 1), some (.iadd, 1), some (.iload 5, 2), none, some (.iastore, 1), some (.aload_n 0, 1), some (.getfield 56, 3), none, none],
  [some (.iload_n 1, 1), some (.iconst 2, 1), some (.iadd, 1), some (.dup2, 1), some (.iaload, 1), some (.iconst 1, 1), some (.iadd, 1), some (.iastore, 1), some (.aload_n 0, 1), some (.getfield 56, 3), none, none, some (.iload_n 1, 1), some (.bipush 7, 2), none, some (.iadd, 1)],
  [some (.dup2, 1), some (.iaload, 1), some (.iload 5, 2), none, some (.aload_n 0, 1), some (.getfield 26, 3), none, none, some (.iload_n 2, 1), some (.iaload, 1), some (.if_icmp .ne 7, 3), none, none, some (.iconst 1, 1), some (.goto 4, 3), none],
  [none, some (.iconst 0, 1), some (.ior, 1), some (.iastore, 1), some (.iload 5, 2), none, some (.aload_n 0, 1), some (.getfield 20, 3), none, none, some (.iload_n 2, 1), some (.iaload, 1), some (.if_icmp .ne 87, 3), none, none, some (.aload_n 0, 1)],
  [some (.dup, 1), some (.getfield 175, 3), none, none, some (.iconst 1, 1), some (.iadd, 1), some (.putfield 175, 3), none, none, some (.aload_n 0, 1), some (.dup, 1), some (.getfield 178, 3), none, none, some (.aload_n 0, 1), some (.getfield 26, 3)],
  [none, none, some (.iload_n 2, 1), some (.iaload, 1), some (.iconst (-1), 1), some (.if_icmp .eq 19, 3), none, none, some (.aload_n 0, 1), some (.getfield 56, 3), none, none, some (.iload_n 1, 1), some (.bipush 7, 2), none, some (.iadd, 1)],
  [some (.iaload, 1), some (.ifCond .ne 7, 3), none, none, some (.iconst 1, 1), some (.goto 4, 3), none, none, some (.iconst 0, 1), some (.iadd, 1), some (.putfield 178, 3), none, none, some (.aload_n 0, 1), some (.dup, 1), some (.getfield 181, 3)],
  [none, none, some (.aload_n 0, 1), some (.getfield 56, 3), none, none, some (.iload_n 1, 1), some (.iconst 5, 1), some (.iadd, 1), some (.iaload, 1), some (.aload_n 0, 1), some (.getfield 56, 3), none, none, some (.iload_n 1, 1), some (.bipush 6, 2)],
  [none, some (.iadd, 1), some (.iaload, 1), some (.iadd, 1), some (.iconst 2, 1), some (.if_icmp .ne 7, 3), none, none, some (.iconst 1, 1), some (.goto 4, 3), none, none, some (.iconst 0, 1), some (.iadd, 1), some (.putfield 181, 3), none],
  [none, some (.iconst 0, 1), some (.ireturn, 1), some (.aload_n 0, 1), some (.dup, 1), some (.getfield 184, 3), none, none, some (.aload_n 0, 1), some (.getfield 56, 3), none, none, some (.iload_n 1, 1), some (.iconst 2, 1), some (.iadd, 1), some (.iaload, 1)],
  [some (.bipush 20, 2), none, some (.if_icmp .ne 7, 3), none, none, some (.iconst 1, 1), some (.goto 4, 3), none, none, some (.iconst 0, 1), some (.iadd, 1), some (.putfield 184, 3), none, none, some (.aload_n 0, 1), some (.getfield 56, 3)],
  [none, none, some (.iload_n 1, 1), some (.iconst 2, 1), some (.iadd, 1), some (.iaload, 1), some (.bipush 20, 2), none, some (.if_icmp .ge 7, 3), none, none, some (.iconst 1, 1), some (.goto 4, 3), none, none, some (.iconst 0, 1)],
  [some (.ireturn, 1)]]
def mt_Mo_tick : List (List (Option (Instr × Nat))) := [
  [some (.aload_n 0, 1), some (.getfield 175, 3), none, none, some (.istore_n 1, 1), some (.iconst 0, 1), some (.istore_n 2, 1), some (.iconst 0, 1), some (.istore_n 3, 1), some (.iload_n 3, 1), some (.aload_n 0, 1), some (.getfield 172, 3), none, none, some (.if_icmp .ge 63, 3), none],
  [none, some (.aload_n 0, 1), some (.bipush 8, 2), none, some (.iload_n 3, 1), some (.imul, 1), some (.invokevirtual 276, 3), none, none, some (.ifCond .eq 46, 3), none, none, some (.iconst 0, 1), some (.istore 4, 2), none, some (.iload 4, 2)],
  [none, some (.bipush 8, 2), none, some (.if_icmp .ge 33, 3), none, none, some (.aload_n 0, 1), some (.getfield 56, 3), none, none, some (.bipush 8, 2), none, some (.iload_n 2, 1), some (.imul, 1), some (.iload 4, 2), none],
  [some (.iadd, 1), some (.aload_n 0, 1), some (.getfield 56, 3), none, none, some (.bipush 8, 2), none, some (.iload_n 3, 1), some (.imul, 1), some (.iload 4, 2), none, some (.iadd, 1), some (.iaload, 1), some (.iastore, 1), some (.iinc 4 1, 3), none],
  [none, some (.goto (-34), 3), none, none, some (.iinc 2 1, 3), none, none, some (.iinc 3 1, 3), none, none, some (.goto (-65), 3), none, none, some (.aload_n 0, 1), some (.iload_n 2, 1), some (.putfield 172, 3)],
  [none, none, some (.aload_n 0, 1), some (.getfield 175, 3), none, none, some (.iload_n 1, 1), some (.isub, 1), some (.ireturn, 1)]]
def mt_Mo_isOfMovers : List (List (Option (Instr × Nat))) := [
  [some (.iload_n 2, 1), some (.aload_n 0, 1), some (.iload_n 1, 1), some (.invokevirtual 221, 3), none, none, some (.iconst (-1), 1), some (.ixor, 1), some (.iand, 1), some (.ifCond .ne 7, 3), none, none, some (.iconst 1, 1), some (.goto 4, 3), none, none],
  [some (.iconst 0, 1), some (.ireturn, 1)]]
def mt_Mo_sound : List (List (Option (Instr × Nat))) := [
  [some (.iload_n 1, 1), some (.invokestatic 243, 3), none, none, some (.ifCond .ne 6, 3), none, none, some (.bipush (-2), 2), none, some (.ireturn, 1), some (.aload_n 0, 1), some (.iload_n 1, 1), some (.iload_n 2, 1), some (.invokevirtual 279, 3), none, none],
  [some (.ifCond .ne 6, 3), none, none, some (.bipush (-3), 2), none, some (.ireturn, 1), some (.aload_n 0, 1), some (.invokevirtual 231, 3), none, none, some (.aload_n 0, 1), some (.iload_n 1, 1), some (.iload_n 1, 1), some (.invokevirtual 234, 3), none, none],
  [some (.aload_n 0, 1), some (.iload_n 1, 1), some (.iload_n 2, 1), some (.invokevirtual 214, 3), none, none, some (.ireturn, 1)]]
def mt_Mo_walk : List (List (Option (Instr × Nat))) := [
  [some (.iload_n 1, 1), some (.invokestatic 243, 3), none, none, some (.ifCond .ne 6, 3), none, none, some (.bipush (-2), 2), none, some (.ireturn, 1), some (.aload_n 0, 1), some (.iload_n 1, 1), some (.iload_n 2, 1), some (.invokevirtual 279, 3), none, none],
  [some (.ifCond .eq 15, 3), none, none, some (.iload_n 3, 1), some (.i2l, 1), some (.lconst 0, 1), some (.ldc2_w 101, 3), none, none, some (.invokestatic 97, 3), none, none, some (.ifCond .ne 6, 3), none, none, some (.bipush (-3), 2)],
  [none, some (.ireturn, 1), some (.aload_n 0, 1), some (.iload_n 1, 1), some (.iload_n 2, 1), some (.invokevirtual 204, 3), none, none, some (.iload_n 3, 1), some (.ifCond .ne 10, 3), none, none, some (.aload_n 0, 1), some (.getfield 194, 3), none, none],
  [some (.goto 26, 3), none, none, some (.iload_n 3, 1), some (.iconst 1, 1), some (.if_icmp .ne 10, 3), none, none, some (.aload_n 0, 1), some (.getfield 191, 3), none, none, some (.goto 14, 3), none, none, some (.aload_n 0, 1)],
  [some (.getfield 74, 3), none, none, some (.aload_n 0, 1), some (.getfield 191, 3), none, none, some (.iconst 1, 1), some (.isub, 1), some (.iaload, 1), some (.ireturn, 1)]]
def mt_Mo_leastUnsound : List (List (Option (Instr × Nat))) := [
  [some (.aload_n 0, 1), some (.invokevirtual 231, 3), none, none, some (.aload_n 0, 1), some (.iload_n 1, 1), some (.iload_n 1, 1), some (.invokevirtual 234, 3), none, none, some (.iconst 0, 1), some (.istore_n 3, 1), some (.iload_n 3, 1), some (.sipush 256, 3), none, none],
  [some (.if_icmp .ge 34, 3), none, none, some (.iload_n 3, 1), some (.iload_n 2, 1), some (.iconst (-1), 1), some (.ixor, 1), some (.iand, 1), some (.aload_n 0, 1), some (.getfield 41, 3), none, none, some (.iload_n 1, 1), some (.iaload, 1), some (.if_icmp .ne 14, 3), none],
  [none, some (.aload_n 0, 1), some (.iload_n 1, 1), some (.iload_n 3, 1), some (.invokevirtual 225, 3), none, none, some (.ifCond .ne 5, 3), none, none, some (.iload_n 3, 1), some (.ireturn, 1), some (.iinc 3 1, 3), none, none, some (.goto (-35), 3)],
  [none, none, some (.iconst (-1), 1), some (.ireturn, 1)]]
def mt_Mo_safe : List (List (Option (Instr × Nat))) := [
  [some (.iload_n 1, 1), some (.invokestatic 243, 3), none, none, some (.ifCond .ne 6, 3), none, none, some (.bipush (-2), 2), none, some (.ireturn, 1), some (.aload_n 0, 1), some (.iload_n 1, 1), some (.iload_n 2, 1), some (.invokevirtual 255, 3), none, none],
  [some (.ifCond .eq 15, 3), none, none, some (.iload_n 3, 1), some (.i2l, 1), some (.lconst 0, 1), some (.ldc2_w 101, 3), none, none, some (.invokestatic 97, 3), none, none, some (.ifCond .ne 6, 3), none, none, some (.bipush (-3), 2)],
  [none, some (.ireturn, 1), some (.aload_n 0, 1), some (.iload_n 1, 1), some (.iload_n 2, 1), some (.invokevirtual 261, 3), none, none, some (.istore 4, 2), none, some (.iload_n 3, 1), some (.ifCond .ne 15, 3), none, none, some (.iload 4, 2), none],
  [some (.iconst (-1), 1), some (.if_icmp .ne 7, 3), none, none, some (.iconst 1, 1), some (.goto 4, 3), none, none, some (.iconst 0, 1), some (.ireturn, 1), some (.iload_n 3, 1), some (.iconst 1, 1), some (.if_icmp .eq 9, 3), none, none, some (.iload 4, 2)],
  [none, some (.iconst (-1), 1), some (.if_icmp .ne 6, 3), none, none, some (.iload 4, 2), none, some (.ireturn, 1), some (.aload_n 0, 1), some (.getfield 35, 3), none, none, some (.aload_n 0, 1), some (.iload_n 1, 1), some (.iload 4, 2), none],
  [some (.invokevirtual 214, 3), none, none, some (.iconst (-1), 1), some (.ixor, 1), some (.iand, 1), some (.istore 5, 2), none, some (.iconst 0, 1), some (.istore 6, 2), none, some (.iload 5, 2), none, some (.iload 6, 2), none, some (.invokestatic 187, 3)],
  [none, none, some (.ifCond .ne 9, 3), none, none, some (.iinc 6 1, 3), none, none, some (.goto (-13), 3), none, none, some (.iload 6, 2), none, some (.ireturn, 1)]]
def mt_Mo_plan : List (List (Option (Instr × Nat))) := [
  [some (.iload_n 1, 1), some (.invokestatic 243, 3), none, none, some (.ifCond .ne 6, 3), none, none, some (.bipush (-2), 2), none, some (.ireturn, 1), some (.aload_n 0, 1), some (.iload_n 1, 1), some (.invokevirtual 267, 3), none, none, some (.aload_n 0, 1)],
  [some (.getfield 41, 3), none, none, some (.iload_n 1, 1), some (.iaload, 1), some (.istore_n 3, 1), some (.aload_n 0, 1), some (.getfield 87, 3), none, none, some (.iload_n 3, 1), some (.iaload, 1), some (.iconst (-1), 1), some (.if_icmp .ne 6, 3), none, none],
  [some (.bipush (-4), 2), none, some (.ireturn, 1), some (.iload_n 2, 1), some (.i2l, 1), some (.lconst 0, 1), some (.aload_n 0, 1), some (.getfield 87, 3), none, none, some (.iload_n 3, 1), some (.iaload, 1), some (.iconst 1, 1), some (.isub, 1), some (.i2l, 1), some (.invokestatic 97, 3)],
  [none, none, some (.ifCond .ne 6, 3), none, none, some (.bipush (-3), 2), none, some (.ireturn, 1), some (.iconst 0, 1), some (.istore 4, 2), none, some (.iload 4, 2), none, some (.iload_n 2, 1), some (.if_icmp .ge 18, 3), none],
  [none, some (.iload_n 3, 1), some (.aload_n 0, 1), some (.getfield 90, 3), none, none, some (.iload_n 3, 1), some (.iaload, 1), some (.ior, 1), some (.istore_n 3, 1), some (.iinc 4 1, 3), none, none, some (.goto (-18), 3), none, none],
  [some (.aload_n 0, 1), some (.getfield 90, 3), none, none, some (.iload_n 3, 1), some (.iaload, 1), some (.ireturn, 1)]]
def mt_Mo_rounds : List (List (Option (Instr × Nat))) := [
  [some (.iload_n 1, 1), some (.invokestatic 243, 3), none, none, some (.ifCond .ne 6, 3), none, none, some (.bipush (-2), 2), none, some (.ireturn, 1), some (.aload_n 0, 1), some (.iload_n 1, 1), some (.invokevirtual 267, 3), none, none, some (.aload_n 0, 1)],
  [some (.getfield 87, 3), none, none, some (.aload_n 0, 1), some (.getfield 41, 3), none, none, some (.iload_n 1, 1), some (.iaload, 1), some (.iaload, 1), some (.ireturn, 1)]]
def mt_Mo_canGo : List (List (Option (Instr × Nat))) := [
  [some (.iconst 0, 1), some (.istore_n 3, 1), some (.iload_n 3, 1), some (.iconst 3, 1), some (.if_icmp .ge 37, 3), none, none, some (.aload_n 0, 1), some (.getfield 77, 3), none, none, some (.iload_n 3, 1), some (.iload_n 2, 1), some (.iload_n 3, 1), some (.invokestatic 187, 3), none],
  [none, some (.ifCond .eq 11, 3), none, none, some (.aload_n 0, 1), some (.iload_n 3, 1), some (.invokevirtual 221, 3), none, none, some (.goto 9, 3), none, none, some (.aload_n 0, 1), some (.getfield 41, 3), none, none],
  [some (.iload_n 3, 1), some (.iaload, 1), some (.iastore, 1), some (.iinc 3 1, 3), none, none, some (.goto (-36), 3), none, none, some (.aload_n 0, 1), some (.iload_n 1, 1), some (.iload_n 1, 1), some (.invokevirtual 234, 3), none, none, some (.aload_n 0, 1)],
  [some (.iload_n 1, 1), some (.invokevirtual 237, 3), none, none, some (.aload_n 0, 1), some (.getfield 87, 3), none, none, some (.aload_n 0, 1), some (.getfield 41, 3), none, none, some (.iload_n 1, 1), some (.iaload, 1), some (.iaload, 1), some (.iconst (-1), 1)],
  [some (.if_icmp .eq 7, 3), none, none, some (.iconst 1, 1), some (.goto 4, 3), none, none, some (.iconst 0, 1), some (.ireturn, 1)]]
def mt_Mo_order : List (List (Option (Instr × Nat))) := [
  [some (.iload_n 1, 1), some (.i2l, 1), some (.lconst 0, 1), some (.ldc2_w 101, 3), none, none, some (.invokestatic 97, 3), none, none, some (.ifCond .ne 6, 3), none, none, some (.bipush (-3), 2), none, some (.ireturn, 1), some (.iconst 0, 1)],
  [some (.istore_n 2, 1), some (.iload_n 2, 1), some (.iconst 3, 1), some (.if_icmp .ge 90, 3), none, none, some (.iconst 0, 1), some (.istore_n 3, 1), some (.iload_n 3, 1), some (.iconst 3, 1), some (.if_icmp .ge 77, 3), none, none, some (.iconst 3, 1), some (.iload_n 2, 1), some (.isub, 1)],
  [some (.iload_n 3, 1), some (.isub, 1), some (.istore 4, 2), none, some (.iload_n 2, 1), some (.iload_n 3, 1), some (.if_icmp .eq 59, 3), none, none, some (.aload_n 0, 1), some (.iload_n 2, 1), some (.iconst 0, 1), some (.invokevirtual 282, 3), none, none, some (.ifCond .eq 50, 3)],
  [none, none, some (.aload_n 0, 1), some (.iload_n 3, 1), some (.iconst 1, 1), some (.iload_n 2, 1), some (.ishl, 1), some (.invokevirtual 282, 3), none, none, some (.ifCond .eq 39, 3), none, none, some (.aload_n 0, 1), some (.iload 4, 2), none],
  [some (.iconst 1, 1), some (.iload_n 2, 1), some (.ishl, 1), some (.iconst 1, 1), some (.iload_n 3, 1), some (.ishl, 1), some (.ior, 1), some (.invokevirtual 282, 3), none, none, some (.ifCond .eq 23, 3), none, none, some (.iload_n 1, 1), some (.ifCond .ne 7, 3), none],
  [none, some (.iload_n 2, 1), some (.goto 14, 3), none, none, some (.iload_n 1, 1), some (.iconst 1, 1), some (.if_icmp .ne 7, 3), none, none, some (.iload_n 3, 1), some (.goto 5, 3), none, none, some (.iload 4, 2), none],
  [some (.ireturn, 1), some (.iinc 3 1, 3), none, none, some (.goto (-76), 3), none, none, some (.iinc 2 1, 3), none, none, some (.goto (-89), 3), none, none, some (.iconst (-1), 1), some (.ireturn, 1)]]
def mt_Mo_waits : List (List (Option (Instr × Nat))) := [
  [some (.iload_n 1, 1), some (.invokestatic 243, 3), none, none, some (.ifCond .eq 10, 3), none, none, some (.iload_n 2, 1), some (.invokestatic 243, 3), none, none, some (.ifCond .ne 6, 3), none, none, some (.bipush (-2), 2), none],
  [some (.ireturn, 1), some (.aload_n 0, 1), some (.invokevirtual 231, 3), none, none, some (.aload_n 0, 1), some (.iload_n 1, 1), some (.iload_n 1, 1), some (.invokevirtual 234, 3), none, none, some (.aload_n 0, 1), some (.iload_n 1, 1), some (.aload_n 0, 1), some (.iload_n 1, 1), some (.invokevirtual 221, 3)],
  [none, none, some (.invokevirtual 204, 3), none, none, some (.aload_n 0, 1), some (.getfield 201, 3), none, none, some (.ifCond .eq 15, 3), none, none, some (.aload_n 0, 1), some (.iload_n 1, 1), some (.invokevirtual 211, 3), none],
  [none, some (.ifCond .ne 7, 3), none, none, some (.iconst 1, 1), some (.goto 4, 3), none, none, some (.iconst 0, 1), some (.istore_n 3, 1), some (.aload_n 0, 1), some (.iload_n 1, 1), some (.iload_n 2, 1), some (.invokevirtual 234, 3), none, none],
  [some (.aload_n 0, 1), some (.iload_n 1, 1), some (.aload_n 0, 1), some (.iload_n 1, 1), some (.invokevirtual 221, 3), none, none, some (.invokevirtual 204, 3), none, none, some (.iload_n 1, 1), some (.iload_n 2, 1), some (.if_icmp .eq 19, 3), none, none, some (.iload_n 3, 1)],
  [some (.ifCond .eq 15, 3), none, none, some (.aload_n 0, 1), some (.iload_n 1, 1), some (.invokevirtual 211, 3), none, none, some (.ifCond .eq 7, 3), none, none, some (.iconst 1, 1), some (.goto 4, 3), none, none, some (.iconst 0, 1)],
  [some (.ireturn, 1)]]
def mt_Mo_letter : List (List (Option (Instr × Nat))) := [
  [some (.iload_n 1, 1), some (.i2l, 1), some (.lconst 0, 1), some (.aload_n 0, 1), some (.getfield 172, 3), none, none, some (.iconst 1, 1), some (.isub, 1), some (.i2l, 1), some (.invokestatic 97, 3), none, none, some (.ifCond .ne 6, 3), none, none],
  [some (.bipush (-2), 2), none, some (.ireturn, 1), some (.bipush 8, 2), none, some (.iload_n 1, 1), some (.imul, 1), some (.istore_n 3, 1), some (.iload_n 2, 1), some (.tableswitch 97 0 5 #[39, 39, 39, 39, 48, 69], 39), none, none, none, none, none, none],
  [none, none, none, none, none, none, none, none, none, none, none, none, none, none, none, none],
  [none, none, none, none, none, none, none, none, none, none, none, none, none, none, none, none],
  [some (.aload_n 0, 1), some (.getfield 56, 3), none, none, some (.iload_n 3, 1), some (.iload_n 2, 1), some (.iadd, 1), some (.iaload, 1), some (.ireturn, 1), some (.aload_n 0, 1), some (.getfield 53, 3), none, none, some (.aload_n 0, 1), some (.getfield 56, 3), none],
  [none, some (.iload_n 3, 1), some (.iaload, 1), some (.iaload, 1), some (.aload_n 0, 1), some (.getfield 56, 3), none, none, some (.iload_n 3, 1), some (.iconst 4, 1), some (.iadd, 1), some (.iaload, 1), some (.isub, 1), some (.ireturn, 1), some (.aload_n 0, 1), some (.getfield 56, 3)],
  [none, none, some (.iload_n 3, 1), some (.iconst 5, 1), some (.iadd, 1), some (.iaload, 1), some (.aload_n 0, 1), some (.getfield 56, 3), none, none, some (.iload_n 3, 1), some (.bipush 6, 2), none, some (.iadd, 1), some (.iaload, 1), some (.iadd, 1)],
  [some (.iconst 2, 1), some (.if_icmp .ne 7, 3), none, none, some (.iconst 1, 1), some (.goto 4, 3), none, none, some (.iconst 0, 1), some (.ireturn, 1), some (.bipush (-3), 2), none, some (.ireturn, 1)]]
def mt_Mo_links : List (List (Option (Instr × Nat))) := [
  [some (.iconst 0, 1), some (.istore_n 1, 1), some (.iconst 0, 1), some (.istore_n 2, 1), some (.iload_n 2, 1), some (.bipush 64, 2), none, some (.if_icmp .ge 26, 3), none, none, some (.iload_n 1, 1), some (.aload_n 0, 1), some (.getfield 13, 3), none, none, some (.iload_n 2, 1)],
  [some (.iaload, 1), some (.ifCond .le 7, 3), none, none, some (.iconst 1, 1), some (.goto 4, 3), none, none, some (.iconst 0, 1), some (.iadd, 1), some (.istore_n 1, 1), some (.iinc 2 1, 3), none, none, some (.goto (-26), 3), none],
  [none, some (.iload_n 1, 1), some (.ireturn, 1)]]
def mt_Mo_count : List (List (Option (Instr × Nat))) := [
  [some (.iload_n 1, 1), some (.tableswitch 115 0 10 #[59, 64, 69, 74, 79, 84, 89, 94, 99, 104, 109], 59), none, none, none, none, none, none, none, none, none, none, none, none, none, none],
  [none, none, none, none, none, none, none, none, none, none, none, none, none, none, none, none],
  [none, none, none, none, none, none, none, none, none, none, none, none, none, none, none, none],
  [none, none, none, none, none, none, none, none, none, none, none, none, some (.aload_n 0, 1), some (.getfield 7, 3), none, none],
  [some (.ireturn, 1), some (.aload_n 0, 1), some (.invokevirtual 285, 3), none, none, some (.ireturn, 1), some (.aload_n 0, 1), some (.getfield 35, 3), none, none, some (.ireturn, 1), some (.aload_n 0, 1), some (.getfield 38, 3), none, none, some (.ireturn, 1)],
  [some (.aload_n 0, 1), some (.getfield 172, 3), none, none, some (.ireturn, 1), some (.aload_n 0, 1), some (.getfield 175, 3), none, none, some (.ireturn, 1), some (.aload_n 0, 1), some (.getfield 178, 3), none, none, some (.ireturn, 1), some (.aload_n 0, 1)],
  [some (.getfield 181, 3), none, none, some (.ireturn, 1), some (.aload_n 0, 1), some (.getfield 184, 3), none, none, some (.ireturn, 1), some (.aload_n 0, 1), some (.getfield 109, 3), none, none, some (.ireturn, 1), some (.aload_n 0, 1), some (.iconst (-1), 1)],
  [some (.invokevirtual 270, 3), none, none, some (.ireturn, 1), some (.bipush (-3), 2), none, some (.ireturn, 1)]]
def mt_Jint_bitCount : List (List (Option (Instr × Nat))) := [
  [some (.iload_n 0, 1), some (.iload_n 0, 1), some (.iconst 1, 1), some (.iushr, 1), some (.ldc_w 265, 3), none, none, some (.iand, 1), some (.isub, 1), some (.istore_n 0, 1), some (.iload_n 0, 1), some (.ldc_w 266, 3), none, none, some (.iand, 1), some (.iload_n 0, 1)],
  [some (.iconst 2, 1), some (.iushr, 1), some (.ldc_w 266, 3), none, none, some (.iand, 1), some (.iadd, 1), some (.istore_n 0, 1), some (.iload_n 0, 1), some (.iload_n 0, 1), some (.iconst 4, 1), some (.iushr, 1), some (.iadd, 1), some (.ldc_w 267, 3), none, none],
  [some (.iand, 1), some (.istore_n 0, 1), some (.iload_n 0, 1), some (.iload_n 0, 1), some (.bipush 8, 2), none, some (.iushr, 1), some (.iadd, 1), some (.istore_n 0, 1), some (.iload_n 0, 1), some (.iload_n 0, 1), some (.bipush 16, 2), none, some (.iushr, 1), some (.iadd, 1), some (.istore_n 0, 1)],
  [some (.iload_n 0, 1), some (.bipush 63, 2), none, some (.iand, 1), some (.ireturn, 1)]]
def mt_Jmath_max : List (List (Option (Instr × Nat))) := [
  [some (.iload_n 0, 1), some (.iload_n 1, 1), some (.if_icmp .lt 7, 3), none, none, some (.iload_n 0, 1), some (.goto 4, 3), none, none, some (.iload_n 1, 1), some (.ireturn, 1)]]
def mt_Jstr_length : List (List (Option (Instr × Nat))) := [
  [some (.aload_n 0, 1), some (.getfield 9, 3), none, none, some (.arraylength, 1), some (.aload_n 0, 1), some (.invokevirtual 335, 3), none, none, some (.ishr, 1), some (.ireturn, 1)]]
def mt_Jstr_charAt : List (List (Option (Instr × Nat))) := [
  [some (.aload_n 0, 1), some (.invokevirtual 492, 3), none, none, some (.ifCond .eq 12, 3), none, none, some (.aload_n 0, 1), some (.getfield 9, 3), none, none, some (.iload_n 1, 1), some (.invokestatic 495, 3), none, none, some (.ireturn, 1)],
  [some (.aload_n 0, 1), some (.getfield 9, 3), none, none, some (.iload_n 1, 1), some (.invokestatic 498, 3), none, none, some (.ireturn, 1)]]
def mt_Jstr_coder : List (List (Option (Instr × Nat))) := [
  [some (.getstatic 38, 3), none, none, some (.ifCond .eq 10, 3), none, none, some (.aload_n 0, 1), some (.getfield 15, 3), none, none, some (.goto 4, 3), none, none, some (.iconst 1, 1), some (.ireturn, 1)]]
def mt_Jstr_isLatin1 : List (List (Option (Instr × Nat))) := [
  [some (.getstatic 38, 3), none, none, some (.ifCond .eq 14, 3), none, none, some (.aload_n 0, 1), some (.getfield 15, 3), none, none, some (.ifCond .ne 7, 3), none, none, some (.iconst 1, 1), some (.goto 4, 3), none],
  [none, some (.iconst 0, 1), some (.ireturn, 1)]]
def mt_Jstr_checkIndex : List (List (Option (Instr × Nat))) := [
  [some (.iload_n 0, 1), some (.iload_n 1, 1), some (.getstatic 1053, 3), none, none, some (.invokestatic 1059, 3), none, none, some (.pop, 1), some (.return_, 1)]]
def mt_Jlat_charAt : List (List (Option (Instr × Nat))) := [
  [some (.iload_n 1, 1), some (.aload_n 0, 1), some (.arraylength, 1), some (.invokestatic 9, 3), none, none, some (.aload_n 0, 1), some (.iload_n 1, 1), some (.baload, 1), some (.sipush 255, 3), none, none, some (.iand, 1), some (.i2c, 1), some (.ireturn, 1)]]
def mt_Jpre_checkIndex : List (List (Option (Instr × Nat))) := [
  [some (.iload_n 0, 1), some (.ifCond .lt 8, 3), none, none, some (.iload_n 0, 1), some (.iload_n 1, 1), some (.if_icmp .lt 10, 3), none, none, some (.aload_n 2, 1), some (.iload_n 0, 1), some (.iload_n 1, 1), some (.invokestatic 95, 3), none, none, some (.athrow, 1)],
  [some (.iload_n 0, 1), some (.ireturn, 1)]]
def mt_Law_law : List (List (Option (Instr × Nat))) := [
  [some (.new 7, 3), none, none, some (.dup, 1), some (.invokespecial 9, 3), none, none, some (.astore_n 1, 1), some (.new 10, 3), none, none, some (.dup, 1), some (.invokespecial 12, 3), none, none, some (.astore_n 2, 1)],
  [some (.iconst 0, 1), some (.istore_n 3, 1), some (.iload_n 3, 1), some (.aload_n 0, 1), some (.arraylength, 1), some (.iconst 4, 1), some (.isub, 1), some (.if_icmp .gt 998, 3), none, none, some (.aload_n 0, 1), some (.iload_n 3, 1), some (.iaload, 1), some (.bipush 31, 2), none, some (.iand, 1)],
  [some (.tableswitch 983 0 30 #[140, 163, 176, 189, 202, 235, 268, 301, 344, 367, 410, 433, 456, 489, 522, 545, 568, 591, 614, 637, 660, 683, 696, 729, 772, 815, 848, 871, 894, 927, 960], 140), none, none, none, none, none, none, none, none, none, none, none, none, none, none, none],
  [none, none, none, none, none, none, none, none, none, none, none, none, none, none, none, none],
  [none, none, none, none, none, none, none, none, none, none, none, none, none, none, none, none],
  [none, none, none, none, none, none, none, none, none, none, none, none, none, none, none, none],
  [none, none, none, none, none, none, none, none, none, none, none, none, none, none, none, none],
  [none, none, none, none, none, none, none, none, none, none, none, none, none, none, none, none],
  [none, none, none, none, none, none, none, none, none, none, none, none, none, none, none, none],
  [none, none, none, none, none, none, none, none, none, none, none, none, none, none, none, none],
  [none, none, none, none, none, none, none, none, none, none, none, none, some (.aload_n 1, 1), some (.aload_n 0, 1), some (.iload_n 3, 1), some (.iconst 1, 1)],
  [some (.iadd, 1), some (.iaload, 1), some (.invokevirtual 13, 3), none, none, some (.aload_n 2, 1), some (.aload_n 0, 1), some (.iload_n 3, 1), some (.iconst 1, 1), some (.iadd, 1), some (.iaload, 1), some (.invokevirtual 17, 3), none, none, some (.if_icmp .eq 825, 3), none],
  [none, some (.iconst 0, 1), some (.ireturn, 1), some (.aload_n 1, 1), some (.invokevirtual 18, 3), none, none, some (.aload_n 2, 1), some (.invokevirtual 22, 3), none, none, some (.if_icmp .eq 812, 3), none, none, some (.iconst 0, 1), some (.ireturn, 1)],
  [some (.aload_n 1, 1), some (.invokevirtual 23, 3), none, none, some (.aload_n 2, 1), some (.invokevirtual 26, 3), none, none, some (.if_icmp .eq 799, 3), none, none, some (.iconst 0, 1), some (.ireturn, 1), some (.aload_n 1, 1), some (.invokevirtual 27, 3), none],
  [none, some (.aload_n 2, 1), some (.invokevirtual 30, 3), none, none, some (.if_icmp .eq 786, 3), none, none, some (.iconst 0, 1), some (.ireturn, 1), some (.aload_n 1, 1), some (.aload_n 0, 1), some (.iload_n 3, 1), some (.iconst 1, 1), some (.iadd, 1), some (.iaload, 1)],
  [some (.aload_n 0, 1), some (.iload_n 3, 1), some (.iconst 2, 1), some (.iadd, 1), some (.iaload, 1), some (.invokevirtual 31, 3), none, none, some (.aload_n 2, 1), some (.aload_n 0, 1), some (.iload_n 3, 1), some (.iconst 1, 1), some (.iadd, 1), some (.iaload, 1), some (.aload_n 0, 1), some (.iload_n 3, 1)],
  [some (.iconst 2, 1), some (.iadd, 1), some (.iaload, 1), some (.invokevirtual 35, 3), none, none, some (.if_icmp .eq 753, 3), none, none, some (.iconst 0, 1), some (.ireturn, 1), some (.aload_n 1, 1), some (.aload_n 0, 1), some (.iload_n 3, 1), some (.iconst 1, 1), some (.iadd, 1)],
  [some (.iaload, 1), some (.aload_n 0, 1), some (.iload_n 3, 1), some (.iconst 2, 1), some (.iadd, 1), some (.iaload, 1), some (.invokevirtual 36, 3), none, none, some (.aload_n 2, 1), some (.aload_n 0, 1), some (.iload_n 3, 1), some (.iconst 1, 1), some (.iadd, 1), some (.iaload, 1), some (.aload_n 0, 1)],
  [some (.iload_n 3, 1), some (.iconst 2, 1), some (.iadd, 1), some (.iaload, 1), some (.invokevirtual 39, 3), none, none, some (.if_icmp .eq 720, 3), none, none, some (.iconst 0, 1), some (.ireturn, 1), some (.aload_n 1, 1), some (.aload_n 0, 1), some (.iload_n 3, 1), some (.iconst 1, 1)],
  [some (.iadd, 1), some (.iaload, 1), some (.aload_n 0, 1), some (.iload_n 3, 1), some (.iconst 2, 1), some (.iadd, 1), some (.iaload, 1), some (.invokevirtual 40, 3), none, none, some (.aload_n 2, 1), some (.aload_n 0, 1), some (.iload_n 3, 1), some (.iconst 1, 1), some (.iadd, 1), some (.iaload, 1)],
  [some (.aload_n 0, 1), some (.iload_n 3, 1), some (.iconst 2, 1), some (.iadd, 1), some (.iaload, 1), some (.invokevirtual 43, 3), none, none, some (.if_icmp .eq 687, 3), none, none, some (.iconst 0, 1), some (.ireturn, 1), some (.aload_n 1, 1), some (.aload_n 0, 1), some (.iload_n 3, 1)],
  [some (.iconst 1, 1), some (.iadd, 1), some (.iaload, 1), some (.aload_n 0, 1), some (.iload_n 3, 1), some (.iconst 2, 1), some (.iadd, 1), some (.iaload, 1), some (.aload_n 0, 1), some (.iload_n 3, 1), some (.iconst 3, 1), some (.iadd, 1), some (.iaload, 1), some (.invokevirtual 44, 3), none, none],
  [some (.aload_n 2, 1), some (.aload_n 0, 1), some (.iload_n 3, 1), some (.iconst 1, 1), some (.iadd, 1), some (.iaload, 1), some (.aload_n 0, 1), some (.iload_n 3, 1), some (.iconst 2, 1), some (.iadd, 1), some (.iaload, 1), some (.aload_n 0, 1), some (.iload_n 3, 1), some (.iconst 3, 1), some (.iadd, 1), some (.iaload, 1)],
  [some (.invokevirtual 48, 3), none, none, some (.if_icmp .eq 644, 3), none, none, some (.iconst 0, 1), some (.ireturn, 1), some (.aload_n 1, 1), some (.aload_n 0, 1), some (.iload_n 3, 1), some (.iconst 1, 1), some (.iadd, 1), some (.iaload, 1), some (.invokevirtual 49, 3), none],
  [none, some (.aload_n 2, 1), some (.aload_n 0, 1), some (.iload_n 3, 1), some (.iconst 1, 1), some (.iadd, 1), some (.iaload, 1), some (.invokevirtual 52, 3), none, none, some (.if_icmp .eq 621, 3), none, none, some (.iconst 0, 1), some (.ireturn, 1), some (.aload_n 1, 1)],
  [some (.aload_n 0, 1), some (.iload_n 3, 1), some (.iconst 1, 1), some (.iadd, 1), some (.iaload, 1), some (.aload_n 0, 1), some (.iload_n 3, 1), some (.iconst 2, 1), some (.iadd, 1), some (.iaload, 1), some (.aload_n 0, 1), some (.iload_n 3, 1), some (.iconst 3, 1), some (.iadd, 1), some (.iaload, 1), some (.invokevirtual 53, 3)],
  [none, none, some (.aload_n 2, 1), some (.aload_n 0, 1), some (.iload_n 3, 1), some (.iconst 1, 1), some (.iadd, 1), some (.iaload, 1), some (.aload_n 0, 1), some (.iload_n 3, 1), some (.iconst 2, 1), some (.iadd, 1), some (.iaload, 1), some (.aload_n 0, 1), some (.iload_n 3, 1), some (.iconst 3, 1)],
  [some (.iadd, 1), some (.iaload, 1), some (.invokevirtual 56, 3), none, none, some (.if_icmp .eq 578, 3), none, none, some (.iconst 0, 1), some (.ireturn, 1), some (.aload_n 1, 1), some (.aload_n 0, 1), some (.iload_n 3, 1), some (.iconst 1, 1), some (.iadd, 1), some (.iaload, 1)],
  [some (.invokevirtual 57, 3), none, none, some (.aload_n 2, 1), some (.aload_n 0, 1), some (.iload_n 3, 1), some (.iconst 1, 1), some (.iadd, 1), some (.iaload, 1), some (.invokevirtual 60, 3), none, none, some (.if_icmp .eq 555, 3), none, none, some (.iconst 0, 1)],
  [some (.ireturn, 1), some (.aload_n 1, 1), some (.aload_n 0, 1), some (.iload_n 3, 1), some (.iconst 1, 1), some (.iadd, 1), some (.iaload, 1), some (.invokevirtual 61, 3), none, none, some (.aload_n 2, 1), some (.aload_n 0, 1), some (.iload_n 3, 1), some (.iconst 1, 1), some (.iadd, 1), some (.iaload, 1)],
  [some (.invokevirtual 64, 3), none, none, some (.if_icmp .eq 532, 3), none, none, some (.iconst 0, 1), some (.ireturn, 1), some (.aload_n 1, 1), some (.aload_n 0, 1), some (.iload_n 3, 1), some (.iconst 1, 1), some (.iadd, 1), some (.iaload, 1), some (.aload_n 0, 1), some (.iload_n 3, 1)],
  [some (.iconst 2, 1), some (.iadd, 1), some (.iaload, 1), some (.invokevirtual 65, 3), none, none, some (.aload_n 2, 1), some (.aload_n 0, 1), some (.iload_n 3, 1), some (.iconst 1, 1), some (.iadd, 1), some (.iaload, 1), some (.aload_n 0, 1), some (.iload_n 3, 1), some (.iconst 2, 1), some (.iadd, 1)],
  [some (.iaload, 1), some (.invokevirtual 68, 3), none, none, some (.if_icmp .eq 499, 3), none, none, some (.iconst 0, 1), some (.ireturn, 1), some (.aload_n 1, 1), some (.aload_n 0, 1), some (.iload_n 3, 1), some (.iconst 1, 1), some (.iadd, 1), some (.iaload, 1), some (.aload_n 0, 1)],
  [some (.iload_n 3, 1), some (.iconst 2, 1), some (.iadd, 1), some (.iaload, 1), some (.invokevirtual 69, 3), none, none, some (.aload_n 2, 1), some (.aload_n 0, 1), some (.iload_n 3, 1), some (.iconst 1, 1), some (.iadd, 1), some (.iaload, 1), some (.aload_n 0, 1), some (.iload_n 3, 1), some (.iconst 2, 1)],
  [some (.iadd, 1), some (.iaload, 1), some (.invokevirtual 72, 3), none, none, some (.if_icmp .eq 466, 3), none, none, some (.iconst 0, 1), some (.ireturn, 1), some (.aload_n 1, 1), some (.aload_n 0, 1), some (.iload_n 3, 1), some (.iconst 1, 1), some (.iadd, 1), some (.iaload, 1)],
  [some (.invokevirtual 73, 3), none, none, some (.aload_n 2, 1), some (.aload_n 0, 1), some (.iload_n 3, 1), some (.iconst 1, 1), some (.iadd, 1), some (.iaload, 1), some (.invokevirtual 76, 3), none, none, some (.if_icmp .eq 443, 3), none, none, some (.iconst 0, 1)],
  [some (.ireturn, 1), some (.aload_n 1, 1), some (.aload_n 0, 1), some (.iload_n 3, 1), some (.iconst 1, 1), some (.iadd, 1), some (.iaload, 1), some (.invokevirtual 77, 3), none, none, some (.aload_n 2, 1), some (.aload_n 0, 1), some (.iload_n 3, 1), some (.iconst 1, 1), some (.iadd, 1), some (.iaload, 1)],
  [some (.invokevirtual 80, 3), none, none, some (.if_icmp .eq 420, 3), none, none, some (.iconst 0, 1), some (.ireturn, 1), some (.aload_n 1, 1), some (.aload_n 0, 1), some (.iload_n 3, 1), some (.iconst 1, 1), some (.iadd, 1), some (.iaload, 1), some (.invokevirtual 81, 3), none],
  [none, some (.aload_n 2, 1), some (.aload_n 0, 1), some (.iload_n 3, 1), some (.iconst 1, 1), some (.iadd, 1), some (.iaload, 1), some (.invokevirtual 84, 3), none, none, some (.if_icmp .eq 397, 3), none, none, some (.iconst 0, 1), some (.ireturn, 1), some (.aload_n 1, 1)],
  [some (.aload_n 0, 1), some (.iload_n 3, 1), some (.iconst 1, 1), some (.iadd, 1), some (.iaload, 1), some (.invokevirtual 85, 3), none, none, some (.aload_n 2, 1), some (.aload_n 0, 1), some (.iload_n 3, 1), some (.iconst 1, 1), some (.iadd, 1), some (.iaload, 1), some (.invokevirtual 88, 3), none],
  [none, some (.if_icmp .eq 374, 3), none, none, some (.iconst 0, 1), some (.ireturn, 1), some (.aload_n 1, 1), some (.aload_n 0, 1), some (.iload_n 3, 1), some (.iconst 1, 1), some (.iadd, 1), some (.iaload, 1), some (.invokevirtual 89, 3), none, none, some (.aload_n 2, 1)],
  [some (.aload_n 0, 1), some (.iload_n 3, 1), some (.iconst 1, 1), some (.iadd, 1), some (.iaload, 1), some (.invokevirtual 92, 3), none, none, some (.if_icmp .eq 351, 3), none, none, some (.iconst 0, 1), some (.ireturn, 1), some (.aload_n 1, 1), some (.aload_n 0, 1), some (.iload_n 3, 1)],
  [some (.iconst 1, 1), some (.iadd, 1), some (.iaload, 1), some (.invokevirtual 93, 3), none, none, some (.aload_n 2, 1), some (.aload_n 0, 1), some (.iload_n 3, 1), some (.iconst 1, 1), some (.iadd, 1), some (.iaload, 1), some (.invokevirtual 96, 3), none, none, some (.if_icmp .eq 328, 3)],
  [none, none, some (.iconst 0, 1), some (.ireturn, 1), some (.aload_n 1, 1), some (.aload_n 0, 1), some (.iload_n 3, 1), some (.iconst 1, 1), some (.iadd, 1), some (.iaload, 1), some (.invokevirtual 97, 3), none, none, some (.aload_n 2, 1), some (.aload_n 0, 1), some (.iload_n 3, 1)],
  [some (.iconst 1, 1), some (.iadd, 1), some (.iaload, 1), some (.invokevirtual 100, 3), none, none, some (.if_icmp .eq 305, 3), none, none, some (.iconst 0, 1), some (.ireturn, 1), some (.aload_n 1, 1), some (.invokevirtual 101, 3), none, none, some (.aload_n 2, 1)],
  [some (.invokevirtual 104, 3), none, none, some (.if_icmp .eq 292, 3), none, none, some (.iconst 0, 1), some (.ireturn, 1), some (.aload_n 1, 1), some (.aload_n 0, 1), some (.iload_n 3, 1), some (.iconst 1, 1), some (.iadd, 1), some (.iaload, 1), some (.aload_n 0, 1), some (.iload_n 3, 1)],
  [some (.iconst 2, 1), some (.iadd, 1), some (.iaload, 1), some (.invokevirtual 105, 3), none, none, some (.aload_n 2, 1), some (.aload_n 0, 1), some (.iload_n 3, 1), some (.iconst 1, 1), some (.iadd, 1), some (.iaload, 1), some (.aload_n 0, 1), some (.iload_n 3, 1), some (.iconst 2, 1), some (.iadd, 1)],
  [some (.iaload, 1), some (.invokevirtual 108, 3), none, none, some (.if_icmp .eq 259, 3), none, none, some (.iconst 0, 1), some (.ireturn, 1), some (.aload_n 1, 1), some (.aload_n 0, 1), some (.iload_n 3, 1), some (.iconst 1, 1), some (.iadd, 1), some (.iaload, 1), some (.aload_n 0, 1)],
  [some (.iload_n 3, 1), some (.iconst 2, 1), some (.iadd, 1), some (.iaload, 1), some (.aload_n 0, 1), some (.iload_n 3, 1), some (.iconst 3, 1), some (.iadd, 1), some (.iaload, 1), some (.invokevirtual 109, 3), none, none, some (.aload_n 2, 1), some (.aload_n 0, 1), some (.iload_n 3, 1), some (.iconst 1, 1)],
  [some (.iadd, 1), some (.iaload, 1), some (.aload_n 0, 1), some (.iload_n 3, 1), some (.iconst 2, 1), some (.iadd, 1), some (.iaload, 1), some (.aload_n 0, 1), some (.iload_n 3, 1), some (.iconst 3, 1), some (.iadd, 1), some (.iaload, 1), some (.invokevirtual 112, 3), none, none, some (.if_icmp .eq 216, 3)],
  [none, none, some (.iconst 0, 1), some (.ireturn, 1), some (.aload_n 1, 1), some (.aload_n 0, 1), some (.iload_n 3, 1), some (.iconst 1, 1), some (.iadd, 1), some (.iaload, 1), some (.aload_n 0, 1), some (.iload_n 3, 1), some (.iconst 2, 1), some (.iadd, 1), some (.iaload, 1), some (.aload_n 0, 1)],
  [some (.iload_n 3, 1), some (.iconst 3, 1), some (.iadd, 1), some (.iaload, 1), some (.invokevirtual 113, 3), none, none, some (.aload_n 2, 1), some (.aload_n 0, 1), some (.iload_n 3, 1), some (.iconst 1, 1), some (.iadd, 1), some (.iaload, 1), some (.aload_n 0, 1), some (.iload_n 3, 1), some (.iconst 2, 1)],
  [some (.iadd, 1), some (.iaload, 1), some (.aload_n 0, 1), some (.iload_n 3, 1), some (.iconst 3, 1), some (.iadd, 1), some (.iaload, 1), some (.invokevirtual 116, 3), none, none, some (.if_icmp .eq 173, 3), none, none, some (.iconst 0, 1), some (.ireturn, 1), some (.aload_n 1, 1)],
  [some (.aload_n 0, 1), some (.iload_n 3, 1), some (.iconst 1, 1), some (.iadd, 1), some (.iaload, 1), some (.aload_n 0, 1), some (.iload_n 3, 1), some (.iconst 2, 1), some (.iadd, 1), some (.iaload, 1), some (.invokevirtual 117, 3), none, none, some (.aload_n 2, 1), some (.aload_n 0, 1), some (.iload_n 3, 1)],
  [some (.iconst 1, 1), some (.iadd, 1), some (.iaload, 1), some (.aload_n 0, 1), some (.iload_n 3, 1), some (.iconst 2, 1), some (.iadd, 1), some (.iaload, 1), some (.invokevirtual 120, 3), none, none, some (.if_icmp .eq 140, 3), none, none, some (.iconst 0, 1), some (.ireturn, 1)],
  [some (.aload_n 1, 1), some (.aload_n 0, 1), some (.iload_n 3, 1), some (.iconst 1, 1), some (.iadd, 1), some (.iaload, 1), some (.invokevirtual 121, 3), none, none, some (.aload_n 2, 1), some (.aload_n 0, 1), some (.iload_n 3, 1), some (.iconst 1, 1), some (.iadd, 1), some (.iaload, 1), some (.invokevirtual 124, 3)],
  [none, none, some (.if_icmp .eq 117, 3), none, none, some (.iconst 0, 1), some (.ireturn, 1), some (.aload_n 1, 1), some (.aload_n 0, 1), some (.iload_n 3, 1), some (.iconst 1, 1), some (.iadd, 1), some (.iaload, 1), some (.invokevirtual 125, 3), none, none],
  [some (.aload_n 2, 1), some (.aload_n 0, 1), some (.iload_n 3, 1), some (.iconst 1, 1), some (.iadd, 1), some (.iaload, 1), some (.invokevirtual 128, 3), none, none, some (.if_icmp .eq 94, 3), none, none, some (.iconst 0, 1), some (.ireturn, 1), some (.aload_n 1, 1), some (.aload_n 0, 1)],
  [some (.iload_n 3, 1), some (.iconst 1, 1), some (.iadd, 1), some (.iaload, 1), some (.aload_n 0, 1), some (.iload_n 3, 1), some (.iconst 2, 1), some (.iadd, 1), some (.iaload, 1), some (.invokevirtual 129, 3), none, none, some (.aload_n 2, 1), some (.aload_n 0, 1), some (.iload_n 3, 1), some (.iconst 1, 1)],
  [some (.iadd, 1), some (.iaload, 1), some (.aload_n 0, 1), some (.iload_n 3, 1), some (.iconst 2, 1), some (.iadd, 1), some (.iaload, 1), some (.invokevirtual 132, 3), none, none, some (.if_icmp .eq 61, 3), none, none, some (.iconst 0, 1), some (.ireturn, 1), some (.aload_n 1, 1)],
  [some (.aload_n 0, 1), some (.iload_n 3, 1), some (.iconst 1, 1), some (.iadd, 1), some (.iaload, 1), some (.aload_n 0, 1), some (.iload_n 3, 1), some (.iconst 2, 1), some (.iadd, 1), some (.iaload, 1), some (.invokevirtual 133, 3), none, none, some (.aload_n 2, 1), some (.aload_n 0, 1), some (.iload_n 3, 1)],
  [some (.iconst 1, 1), some (.iadd, 1), some (.iaload, 1), some (.aload_n 0, 1), some (.iload_n 3, 1), some (.iconst 2, 1), some (.iadd, 1), some (.iaload, 1), some (.invokevirtual 136, 3), none, none, some (.if_icmp .eq 28, 3), none, none, some (.iconst 0, 1), some (.ireturn, 1)],
  [some (.aload_n 1, 1), some (.aload_n 0, 1), some (.iload_n 3, 1), some (.iconst 1, 1), some (.iadd, 1), some (.iaload, 1), some (.invokevirtual 137, 3), none, none, some (.aload_n 2, 1), some (.aload_n 0, 1), some (.iload_n 3, 1), some (.iconst 1, 1), some (.iadd, 1), some (.iaload, 1), some (.invokevirtual 140, 3)],
  [none, none, some (.if_icmp .eq 5, 3), none, none, some (.iconst 0, 1), some (.ireturn, 1), some (.iinc 3 4, 3), none, none, some (.goto (-1000), 3), none, none, some (.iconst 1, 1), some (.ireturn, 1)]]
def am_tb (k : Nat) : List (List (Option (Instr × Nat))) := match k with
  | 0 => mt_Fl_init
  | 1 => mt_Fl_lay
  | 2 => mt_Fl_calm
  | 3 => mt_Fl_setOld
  | 4 => mt_Fl_setNew
  | 5 => mt_Fl_oldAt
  | 6 => mt_Fl_newAt
  | 7 => mt_Fl_ruleAt
  | 8 => mt_Fl_isMover
  | 9 => mt_Fl_movers
  | 10 => mt_Fl_areMovers
  | 11 => mt_Fl_isRound
  | 12 => mt_Fl_turnRound
  | 13 => mt_Fl_takeBack
  | 14 => mt_Ju_init
  | 15 => mt_Ju_weigh
  | 16 => mt_Ju_addPath
  | 17 => mt_Ju_weightAt
  | 18 => mt_Ju_whatHolds
  | 19 => mt_Ju_isRingless
  | 20 => mt_Ju_pathHasRoom
  | 21 => mt_Ju_firstUnsound
  | 22 => mt_Ju_firstMissing
  | 23 => mt_Le_init
  | 24 => mt_Le_isMixed
  | 25 => mt_Ma_init
  | 26 => mt_Ma_forgetAll
  | 27 => mt_Ma_letterAt
  | 28 => mt_Ma_post
  | 29 => mt_Ma_staleness
  | 30 => mt_Ma_hasStale
  | 31 => mt_Ma_countOf
  | 32 => mt_Ma_hopAll
  | 33 => mt_Ma_hop
  | 34 => mt_Ma_noteArrival
  | 35 => mt_Ne_init
  | 36 => mt_Ne_startAnew
  | 37 => mt_Ne_calmFlows
  | 38 => mt_Ne_isNode
  | 39 => mt_Ne_flowAt
  | 40 => mt_Ne_roomAt
  | 41 => mt_Ne_setRoom
  | 42 => mt_Ne_linkCount
  | 43 => mt_Ne_tableAt
  | 44 => mt_Ne_greatestTable
  | 45 => mt_Pa_init
  | 46 => mt_Pa_follow
  | 47 => mt_Pl_init
  | 48 => mt_Pl_findPlan
  | 49 => mt_Pl_settle
  | 50 => mt_Pl_chooseFirstRound
  | 51 => mt_Pl_arePartsSafe
  | 52 => mt_Pl_fewestFrom
  | 53 => mt_Pl_roundCount
  | 54 => mt_Pl_roundAt
  | 55 => mt_Pl_firstFrom
  | 56 => mt_Re_init
  | 57 => mt_Re_append
  | 58 => mt_Re_findFault
  | 59 => mt_Re_foreseeNet
  | 60 => mt_Re_letterAt
  | 61 => mt_Re_nextToken
  | 62 => mt_Re_kindOf
  | 63 => mt_Re_isSemicolon
  | 64 => mt_Re_readClause
  | 65 => mt_Re_clauseKind
  | 66 => mt_Re_tokenIs
  | 67 => mt_Re_wordOf
  | 68 => mt_Re_numbersOf
  | 69 => mt_Re_clauseAt
  | 70 => mt_Re_sourceOf
  | 71 => mt_Re_goalOf
  | 72 => mt_Re_numberFits
  | 73 => mt_Re_foresee
  | 74 => mt_Re_doClauses
  | 75 => mt_Re_doClause
  | 76 => mt_Mx_init
  | 77 => mt_Mx_write
  | 78 => mt_Mx_erase
  | 79 => mt_Mx_fault
  | 80 => mt_Mx_rules
  | 81 => mt_Mx_room
  | 82 => mt_Mx_load
  | 83 => mt_Mx_flow
  | 84 => mt_Mx_rule
  | 85 => mt_Mx_table
  | 86 => mt_Mx_link
  | 87 => mt_Mx_want
  | 88 => mt_Mx_slots
  | 89 => mt_Mx_turn
  | 90 => mt_Mx_force
  | 91 => mt_Mx_advance
  | 92 => mt_Mx_reverse
  | 93 => mt_Mx_ready
  | 94 => mt_Mx_flip
  | 95 => mt_Mx_finish
  | 96 => mt_Mx_cancel
  | 97 => mt_Mx_send
  | 98 => mt_Mx_tick
  | 99 => mt_Mx_sound
  | 100 => mt_Mx_walk
  | 101 => mt_Mx_safe
  | 102 => mt_Mx_plan
  | 103 => mt_Mx_rounds
  | 104 => mt_Mx_order
  | 105 => mt_Mx_waits
  | 106 => mt_Mx_letter
  | 107 => mt_Mx_count
  | 108 => mt_Mx_isPlace
  | 109 => mt_Mo_init
  | 110 => mt_Mo_in
  | 111 => mt_Mo_has
  | 112 => mt_Mo_isNode
  | 113 => mt_Mo_isFlow
  | 114 => mt_Mo_flows
  | 115 => mt_Mo_begins
  | 116 => mt_Mo_write
  | 117 => mt_Mo_erase
  | 118 => mt_Mo_isSmall
  | 119 => mt_Mo_isDigit
  | 120 => mt_Mo_nextToken
  | 121 => mt_Mo_wordHere
  | 122 => mt_Mo_number
  | 123 => mt_Mo_node
  | 124 => mt_Mo_readsRest
  | 125 => mt_Mo_does
  | 126 => mt_Mo_readsClause
  | 127 => mt_Mo_reads
  | 128 => mt_Mo_fault
  | 129 => mt_Mo_rules
  | 130 => mt_Mo_movers
  | 131 => mt_Mo_ruleBy
  | 132 => mt_Mo_walks
  | 133 => mt_Mo_needsOf
  | 134 => mt_Mo_asTurned
  | 135 => mt_Mo_isRoom
  | 136 => mt_Mo_isRing
  | 137 => mt_Mo_holds
  | 138 => mt_Mo_isSound
  | 139 => mt_Mo_isSafe
  | 140 => mt_Mo_firstOf
  | 141 => mt_Mo_plans
  | 142 => mt_Mo_plansNow
  | 143 => mt_Mo_room
  | 144 => mt_Mo_load
  | 145 => mt_Mo_flow
  | 146 => mt_Mo_rule
  | 147 => mt_Mo_tableWith
  | 148 => mt_Mo_table
  | 149 => mt_Mo_greatestTable
  | 150 => mt_Mo_link
  | 151 => mt_Mo_want
  | 152 => mt_Mo_slots
  | 153 => mt_Mo_isRound
  | 154 => mt_Mo_turns
  | 155 => mt_Mo_isStale
  | 156 => mt_Mo_lettersOf
  | 157 => mt_Mo_turn
  | 158 => mt_Mo_force
  | 159 => mt_Mo_advance
  | 160 => mt_Mo_reverse
  | 161 => mt_Mo_ready
  | 162 => mt_Mo_flip
  | 163 => mt_Mo_finish
  | 164 => mt_Mo_cancel
  | 165 => mt_Mo_send
  | 166 => mt_Mo_hops
  | 167 => mt_Mo_tick
  | 168 => mt_Mo_isOfMovers
  | 169 => mt_Mo_sound
  | 170 => mt_Mo_walk
  | 171 => mt_Mo_leastUnsound
  | 172 => mt_Mo_safe
  | 173 => mt_Mo_plan
  | 174 => mt_Mo_rounds
  | 175 => mt_Mo_canGo
  | 176 => mt_Mo_order
  | 177 => mt_Mo_waits
  | 178 => mt_Mo_letter
  | 179 => mt_Mo_links
  | 180 => mt_Mo_count
  | 181 => mt_Jint_bitCount
  | 182 => mt_Jmath_max
  | 183 => mt_Jstr_length
  | 184 => mt_Jstr_charAt
  | 185 => mt_Jstr_coder
  | 186 => mt_Jstr_isLatin1
  | 187 => mt_Jstr_checkIndex
  | 188 => mt_Jlat_charAt
  | 189 => mt_Jpre_checkIndex
  | 190 => mt_Law_law
  | _ => []
def am_at (m pc : Nat) : Option (Instr × Nat) := ((am_tb m).getD (pc / 16) []).getD (pc % 16) none
def am_lk {α : Type} : List (Nat × α) → Nat → Option α
  | [], _ => none
  | (a, x) :: l, i => match Nat.beq a i with
    | true => some x
    | false => am_lk l i
def am_cmT (k : Nat) : List (Nat × (Nat × Nat × Nat)) := match k with
  | 0 => [(3, (5, 0, 0)), (21, (0, 1, 4)), (50, (3, 108, 2)), (54, (0, 5, 2)), (58, (0, 6, 2)), (61, (0, 9, 1)), (65, (0, 10, 2))]
  | 1 => [(3, (5, 0, 0)), (17, (2, 45, 1)), (26, (0, 39, 2)), (32, (0, 9, 1)), (42, (0, 46, 4)), (49, (0, 16, 2)), (56, (0, 38, 2)), (64, (0, 19, 3)), (74, (0, 20, 2)), (77, (0, 7, 3)), (81, (0, 17, 3)), (84, (0, 40, 3)), (87, (0, 15, 3)), (91, (0, 22, 3)), (98, (0, 18, 3))]
  | 2 => [(1, (5, 0, 0))]
  | 3 => [(3, (5, 0, 0)), (21, (4, 23, 1)), (38, (3, 108, 2)), (42, (0, 39, 2)), (84, (0, 29, 2)), (88, (0, 33, 2)), (91, (0, 34, 2)), (98, (0, 6, 2)), (102, (0, 5, 2)), (105, (0, 40, 3)), (109, (0, 8, 2)), (119, (0, 24, 1))]
  | 4 => [(3, (5, 0, 0)), (31, (2, 0, 1)), (32, (0, 1, 4)), (36, (0, 2, 1)), (39, (3, 108, 2)), (43, (0, 38, 2)), (50, (0, 7, 3)), (57, (0, 6, 2)), (61, (0, 43, 2)), (64, (1, 182, 2))]
  | 5 => [(3, (5, 0, 0)), (24, (0, 38, 2)), (30, (0, 7, 3)), (34, (0, 40, 3))]
  | 6 => [(3, (5, 0, 0)), (33, (0, 39, 2)), (46, (0, 9, 1)), (52, (0, 15, 3)), (58, (0, 49, 3)), (62, (0, 52, 2)), (66, (3, 108, 2)), (73, (0, 18, 3)), (77, (0, 50, 2)), (81, (0, 51, 2)), (85, (0, 55, 2))]
  | 7 => [(3, (5, 0, 0)), (32, (3, 108, 2)), (36, (0, 59, 1)), (45, (0, 61, 1)), (48, (0, 64, 1)), (58, (0, 63, 1)), (67, (0, 39, 2)), (79, (0, 60, 2)), (83, (1, 62, 1)), (86, (0, 65, 1)), (90, (1, 68, 1)), (93, (0, 72, 3)), (96, (0, 73, 2)), (100, (1, 67, 1)), (104, (0, 66, 2)), (108, (0, 183, 1)), (112, (0, 184, 2)), (127, (0, 69, 2)), (130, (0, 71, 2)), (133, (0, 70, 2)), (136, (0, 75, 2)), (139, (0, 36, 2)), (142, (0, 41, 4)), (146, (0, 1, 4)), (151, (0, 3, 3)), (155, (0, 4, 3))]
  | 8 => [(3, (5, 0, 0)), (11, (2, 35, 1)), (18, (2, 14, 2)), (27, (2, 47, 3)), (36, (2, 25, 2)), (43, (2, 56, 2)), (48, (0, 57, 2)), (56, (0, 58, 1)), (60, (0, 74, 1)), (63, (0, 37, 1)), (66, (0, 26, 1)), (72, (0, 38, 2)), (75, (0, 40, 3)), (79, (0, 15, 3)), (83, (0, 17, 3)), (86, (0, 39, 2)), (104, (0, 9, 1)), (116, (0, 5, 2)), (120, (0, 6, 2)), (123, (0, 7, 3)), (126, (0, 43, 2)), (129, (0, 41, 4)), (139, (0, 11, 2)), (142, (0, 30, 2)), (145, (0, 21, 3)), (148, (0, 12, 2)), (152, (0, 48, 3)), (156, (0, 54, 2)), (159, (0, 13, 1)), (162, (0, 44, 1)), (165, (0, 31, 3)), (169, (0, 28, 2)), (174, (0, 32, 1)), (177, (0, 10, 2)), (180, (0, 18, 3)), (188, (0, 46, 4)), (197, (1, 181, 1)), (205, (0, 22, 3)), (208, (0, 53, 1)), (214, (0, 27, 2)), (233, (0, 29, 2)), (237, (0, 24, 1)), (244, (0, 42, 1))]
  | 9 => [(1, (5, 0, 0)), (93, (0, 115, 2)), (97, (1, 110, 3)), (103, (0, 114, 5)), (126, (1, 118, 1)), (130, (1, 119, 1)), (133, (0, 120, 1)), (139, (0, 122, 6)), (143, (0, 123, 4)), (147, (0, 121, 1)), (151, (0, 124, 2)), (158, (0, 125, 2)), (164, (0, 126, 1)), (168, (0, 127, 2)), (187, (1, 111, 2)), (197, (0, 131, 4)), (204, (0, 132, 3)), (208, (0, 136, 3)), (211, (0, 135, 2)), (214, (0, 137, 3)), (218, (0, 139, 3)), (221, (0, 130, 2)), (225, (0, 138, 3)), (228, (0, 140, 4)), (231, (0, 134, 1)), (234, (0, 133, 3)), (237, (0, 141, 2)), (240, (0, 112, 2)), (243, (1, 113, 1)), (246, (0, 147, 3)), (255, (0, 153, 3)), (258, (0, 155, 2)), (261, (0, 171, 3)), (264, (0, 154, 3)), (267, (0, 142, 2)), (270, (0, 149, 2)), (273, (0, 156, 3)), (276, (0, 166, 2)), (279, (0, 168, 3)), (282, (0, 175, 3)), (285, (0, 179, 1))]
  | 12 => [(335, (0, 185, 1)), (492, (0, 186, 1)), (495, (1, 188, 2)), (1059, (1, 189, 3))]
  | 13 => [(9, (1, 187, 2))]
  | 14 => [(9, (2, 76, 1)), (12, (2, 109, 1)), (13, (0, 77, 2)), (17, (0, 116, 2)), (18, (0, 78, 1)), (22, (0, 117, 1)), (23, (0, 79, 1)), (26, (0, 128, 1)), (27, (0, 80, 1)), (30, (0, 129, 1)), (31, (0, 81, 3)), (35, (0, 143, 3)), (36, (0, 82, 3)), (39, (0, 144, 3)), (40, (0, 83, 3)), (43, (0, 145, 3)), (44, (0, 84, 4)), (48, (0, 146, 4)), (49, (0, 85, 2)), (52, (0, 148, 2)), (53, (0, 86, 4)), (56, (0, 150, 4)), (57, (0, 87, 2)), (60, (0, 151, 2)), (61, (0, 88, 2)), (64, (0, 152, 2)), (65, (0, 89, 3)), (68, (0, 157, 3)), (69, (0, 90, 3)), (72, (0, 158, 3)), (73, (0, 91, 2)), (76, (0, 159, 2)), (77, (0, 92, 2)), (80, (0, 160, 2)), (81, (0, 93, 2)), (84, (0, 161, 2)), (85, (0, 94, 2)), (88, (0, 162, 2)), (89, (0, 95, 2)), (92, (0, 163, 2)), (93, (0, 96, 2)), (96, (0, 164, 2)), (97, (0, 97, 2)), (100, (0, 165, 2)), (101, (0, 98, 1)), (104, (0, 167, 1)), (105, (0, 99, 3)), (108, (0, 169, 3)), (109, (0, 100, 4)), (112, (0, 170, 4)), (113, (0, 101, 4)), (116, (0, 172, 4)), (117, (0, 102, 3)), (120, (0, 173, 3)), (121, (0, 103, 2)), (124, (0, 174, 2)), (125, (0, 104, 2)), (128, (0, 176, 2)), (129, (0, 105, 3)), (132, (0, 177, 3)), (133, (0, 106, 3)), (136, (0, 178, 3)), (137, (0, 107, 2)), (140, (0, 180, 2))]
  | _ => []
def am_cm (o i : Nat) : Option (Nat × Nat × Nat) := am_lk (am_cmT o) i
def am_cfT (k : Nat) : List (Nat × (Nat × Nat)) := match k with
  | 0 => [(9, (0, 4)), (15, (0, 5)), (18, (0, 8)), (25, (0, 0)), (29, (0, 1)), (32, (0, 2)), (35, (0, 3)), (38, (0, 6)), (41, (0, 7)), (44, (0, 9)), (47, (0, 10))]
  | 1 => [(9, (1, 0)), (18, (1, 1)), (22, (1, 2)), (38, (0, 6)), (46, (0, 2)), (53, (5, 3)), (60, (5, 2)), (68, (0, 3)), (71, (5, 0)), (95, (4, 1))]
  | 2 => [(7, (2, 6)), (13, (2, 7))]
  | 3 => [(9, (3, 0)), (17, (3, 1)), (22, (3, 2)), (26, (3, 3)), (29, (3, 4)), (32, (3, 5)), (35, (3, 6)), (48, (2, 0)), (51, (0, 0)), (56, (2, 1)), (59, (2, 2)), (62, (2, 3)), (65, (0, 10)), (68, (2, 4)), (71, (0, 7)), (74, (2, 5)), (78, (2, 6)), (81, (2, 7)), (95, (0, 6)), (113, (0, 1)), (116, (0, 3))]
  | 4 => [(9, (4, 1)), (15, (4, 2)), (18, (4, 0)), (21, (4, 3)), (27, (4, 4)), (47, (0, 6)), (54, (0, 7))]
  | 5 => [(9, (5, 3)), (15, (0, 0)), (21, (5, 0)), (37, (5, 1)), (40, (0, 1)), (43, (5, 2))]
  | 6 => [(9, (6, 0)), (15, (6, 1)), (19, (6, 4)), (23, (6, 7)), (26, (6, 5)), (30, (6, 6)), (39, (0, 6)), (45, (6, 2)), (50, (6, 3)), (70, (4, 1))]
  | 7 => [(9, (7, 0)), (15, (7, 1)), (19, (7, 6)), (22, (7, 9)), (25, (7, 10)), (28, (7, 2)), (39, (7, 7)), (42, (7, 5)), (52, (7, 4)), (55, (7, 3)), (61, (4, 0)), (66, (7, 8)), (71, (0, 0)), (76, (0, 1)), (149, (0, 3))]
  | 8 => [(12, (8, 0)), (21, (8, 1)), (30, (8, 2)), (37, (8, 3)), (44, (8, 4)), (52, (7, 2)), (69, (7, 7)), (90, (0, 0)), (95, (0, 1)), (98, (0, 2)), (101, (0, 3)), (107, (0, 6)), (110, (0, 7)), (113, (0, 9)), (133, (4, 1)), (136, (4, 2)), (171, (3, 2)), (184, (1, 1)), (194, (5, 0)), (202, (5, 1)), (218, (2, 0)), (223, (2, 1)), (226, (2, 2)), (229, (2, 5)), (241, (4, 0)), (247, (3, 3)), (250, (3, 4)), (253, (3, 5)), (256, (3, 6))]
  | 9 => [(7, (9, 0)), (13, (9, 1)), (17, (9, 2)), (20, (9, 3)), (23, (9, 4)), (26, (9, 5)), (29, (9, 6)), (32, (9, 7)), (35, (9, 8)), (38, (9, 9)), (41, (9, 10)), (44, (9, 11)), (47, (9, 12)), (50, (9, 13)), (53, (9, 14)), (56, (9, 15)), (59, (9, 21)), (62, (9, 26)), (65, (9, 27)), (68, (9, 30)), (71, (9, 31)), (74, (9, 32)), (77, (9, 36)), (80, (9, 37)), (83, (9, 38)), (87, (9, 39)), (90, (9, 40)), (109, (9, 22)), (120, (9, 24)), (123, (9, 23)), (136, (9, 25)), (154, (9, 29)), (161, (9, 28)), (172, (9, 16)), (175, (9, 17)), (178, (9, 18)), (181, (9, 19)), (184, (9, 20)), (191, (9, 33)), (194, (9, 34)), (201, (9, 35))]
  | 12 => [(9, (12, 0)), (15, (12, 1))]
  | _ => []
def am_cf (o i : Nat) : Option (Nat × Nat) := am_lk (am_cfT o) i
def am_ccT (k : Nat) : List (Nat × (Nat)) := match k with
  | 1 => [(15, 5)]
  | 3 => [(15, 2)]
  | 4 => [(25, 0)]
  | 8 => [(9, 4), (16, 1), (25, 6), (34, 3), (41, 7)]
  | 14 => [(7, 8), (10, 9)]
  | _ => []
def am_cc (o i : Nat) : Option (Nat) := am_lk (am_ccT o) i
def am_ckT (k : Nat) : List (Nat × (Int32 ⊕ Nat)) := match k with
  | 7 => [(116, .inr 0), (117, .inr 1), (119, .inr 2), (121, .inr 3), (123, .inr 4), (125, .inr 5)]
  | 10 => [(265, .inl 1431655765), (266, .inl 858993459), (267, .inl 252645135)]
  | _ => []
def am_ck (o i : Nat) : Option (Int32 ⊕ Nat) := am_lk (am_ckT o) i
def am_clT (k : Nat) : List (Nat × (Int64)) := match k with
  | 9 => [(101, 2), (107, 255), (112, 97), (114, 122), (116, 48), (118, 57), (249, 9), (251, 15), (253, 6)]
  | _ => []
def am_cl (o i : Nat) : Option (Int64) := am_lk (am_clT o) i
def am_gsT (k : Nat) : List (Nat × (Int32 ⊕ Nat)) := match k with
  | 8 => [(210, .inr 98)]
  | 12 => [(38, .inl 1), (1053, .inr 95)]
  | _ => []
def am_gs (o i : Nat) : Option (Int32 ⊕ Nat) := am_lk (am_gsT o) i

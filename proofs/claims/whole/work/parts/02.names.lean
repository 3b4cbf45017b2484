def am_big : List Cond := lw_tbl.filter goodWord
def am_R0 : String := "SewnAhead$Cloth"
def am_T0 : u_T := fun k => match k with
  | 0 => ("SewnAhead$Cloth", "years", "I", false)
  | 1 => ("SewnAhead$Cloth", "what", "[I", true)
  | 2 => ("SewnAhead$Cloth", "scene", "[I", true)
  | 3 => ("SewnAhead$Cloth", "laws", "I", false)
  | 4 => ("SewnAhead$Cloth", "kind", "[I", true)
  | 5 => ("SewnAhead$Cloth", "cause", "[I", true)
  | 6 => ("SewnAhead$Cloth", "end", "[I", true)
  | 7 => ("SewnAhead$Cloth", "stitches", "I", false)
  | 8 => ("SewnAhead$Cloth", "stitchYear", "[I", true)
  | 9 => ("SewnAhead$Cloth", "whatBefore", "[I", true)
  | 10 => ("SewnAhead$Cloth", "sceneBefore", "[I", true)
  | 11 => ("SewnAhead$Cloth", "happening", "[I", true)
  | _ => ("SewnAhead$Cloth", "maker", "[I", true)
def am_t0 : Nat → FieldType := fun k => match k with
  | 0 => .int
  | 1 => .array .int
  | 2 => .array .int
  | 3 => .int
  | 4 => .array .int
  | 5 => .array .int
  | 6 => .array .int
  | 7 => .int
  | 8 => .array .int
  | 9 => .array .int
  | 10 => .array .int
  | 11 => .array .int
  | _ => .array .int
theorem am_n0 : ∀ a, a < 13 → ∀ b, b < 13 → a ≠ b → (am_T0 a).2.1 ≠ (am_T0 b).2.1 := by decide +kernel
theorem am_ty0 : ∀ k, k < 13 → parseFieldDescriptor (am_T0 k).2.2.1 = some (am_t0 k) := by decide +kernel
theorem am_w0 : ∀ w ∈ u_ws am_R0 am_T0 13, w ∈ am_big := by decide +kernel
def am_R1 : String := "SewnAhead$Plans"
def am_T1 : u_T := fun k => match k with
  | 0 => ("SewnAhead$Plans", "tried", "LSewnAhead$Cloth;", true)
  | 1 => ("SewnAhead$Plans", "plan", "[I", true)
  | 2 => ("SewnAhead$Plans", "wanted", "[I", true)
  | 3 => ("SewnAhead$Plans", "mostStitches", "I", false)
  | 4 => ("SewnAhead$Plans", "wholeAlone", "Z", false)
  | 5 => ("SewnAhead$Plans", "plainAlone", "Z", false)
  | 6 => ("SewnAhead$Plans", "number", "I", false)
  | _ => ("SewnAhead$Plans", "first", "[I", true)
def am_t1 : Nat → FieldType := fun k => match k with
  | 0 => .object "SewnAhead$Cloth"
  | 1 => .array .int
  | 2 => .array .int
  | 3 => .int
  | 4 => .boolean
  | 5 => .boolean
  | 6 => .int
  | _ => .array .int
theorem am_n1 : ∀ a, a < 8 → ∀ b, b < 8 → a ≠ b → (am_T1 a).2.1 ≠ (am_T1 b).2.1 := by decide +kernel
theorem am_ty1 : ∀ k, k < 8 → parseFieldDescriptor (am_T1 k).2.2.1 = some (am_t1 k) := by decide +kernel
theorem am_w1 : ∀ w ∈ u_ws am_R1 am_T1 8, w ∈ am_big := by decide +kernel
def am_R2 : String := "SewnAhead$Row"
def am_T2 : u_T := fun k => match k with
  | 0 => ("SewnAhead$Row", "places", "[I", true)
  | _ => ("SewnAhead$Row", "size", "I", false)
def am_t2 : Nat → FieldType := fun k => match k with
  | 0 => .array .int
  | _ => .int
theorem am_n2 : ∀ a, a < 2 → ∀ b, b < 2 → a ≠ b → (am_T2 a).2.1 ≠ (am_T2 b).2.1 := by decide +kernel
theorem am_ty2 : ∀ k, k < 2 → parseFieldDescriptor (am_T2 k).2.2.1 = some (am_t2 k) := by decide +kernel
theorem am_w2 : ∀ w ∈ u_ws am_R2 am_T2 2, w ∈ am_big := by decide +kernel
def am_R3 : String := "SewnAhead"
def am_T3 : u_T := fun k => match k with
  | 0 => ("SewnAhead", "rows", "[LSewnAhead$Row;", true)
  | 1 => ("SewnAhead", "texts", "[LSewnAhead$Row;", true)
  | 2 => ("SewnAhead", "cloth", "LSewnAhead$Cloth;", true)
  | 3 => ("SewnAhead", "aside", "LSewnAhead$Cloth;", true)
  | 4 => ("SewnAhead", "kept", "[LSewnAhead$Cloth;", true)
  | 5 => ("SewnAhead", "plans", "LSewnAhead$Plans;", true)
  | 6 => ("SewnAhead", "found", "[I", true)
  | 7 => ("SewnAhead", "latestFound", "I", false)
  | 8 => ("SewnAhead", "told", "I", false)
  | 9 => ("SewnAhead", "upperTold", "J", false)
  | _ => ("SewnAhead", "lowerTold", "J", false)
def am_t3 : Nat → FieldType := fun k => match k with
  | 0 => .array (.object "SewnAhead$Row")
  | 1 => .array (.object "SewnAhead$Row")
  | 2 => .object "SewnAhead$Cloth"
  | 3 => .object "SewnAhead$Cloth"
  | 4 => .array (.object "SewnAhead$Cloth")
  | 5 => .object "SewnAhead$Plans"
  | 6 => .array .int
  | 7 => .int
  | 8 => .int
  | 9 => .long
  | _ => .long
theorem am_n3 : ∀ a, a < 11 → ∀ b, b < 11 → a ≠ b → (am_T3 a).2.1 ≠ (am_T3 b).2.1 := by decide +kernel
theorem am_ty3 : ∀ k, k < 11 → parseFieldDescriptor (am_T3 k).2.2.1 = some (am_t3 k) := by decide +kernel
theorem am_w3 : ∀ w ∈ u_ws am_R3 am_T3 11, w ∈ am_big := by decide +kernel
def am_R4 : String := "SewnAheadModel"
def am_T4 : u_T := fun k => match k with
  | 0 => ("SewnAheadModel", "w", "[I", true)
  | 1 => ("SewnAheadModel", "stitches", "I", false)
  | 2 => ("SewnAheadModel", "keptStitches", "[I", true)
  | 3 => ("SewnAheadModel", "rows", "[I", true)
  | 4 => ("SewnAheadModel", "rowSize", "[I", true)
  | 5 => ("SewnAheadModel", "texts", "[I", true)
  | 6 => ("SewnAheadModel", "textSize", "[I", true)
  | 7 => ("SewnAheadModel", "held", "[I", true)
  | 8 => ("SewnAheadModel", "finding", "I", false)
  | 9 => ("SewnAheadModel", "findings", "[I", true)
  | 10 => ("SewnAheadModel", "asked", "I", false)
  | 11 => ("SewnAheadModel", "upper", "J", false)
  | 12 => ("SewnAheadModel", "lower", "J", false)
  | 13 => ("SewnAheadModel", "position", "I", false)
  | 14 => ("SewnAheadModel", "what", "[I", true)
  | 15 => ("SewnAheadModel", "cause", "[I", true)
  | 16 => ("SewnAheadModel", "without", "I", false)
  | 17 => ("SewnAheadModel", "change", "[I", true)
  | 18 => ("SewnAheadModel", "bestPlan", "I", false)
  | _ => ("SewnAheadModel", "h", "J", false)
def am_t4 : Nat → FieldType := fun k => match k with
  | 0 => .array .int
  | 1 => .int
  | 2 => .array .int
  | 3 => .array .int
  | 4 => .array .int
  | 5 => .array .int
  | 6 => .array .int
  | 7 => .array .int
  | 8 => .int
  | 9 => .array .int
  | 10 => .int
  | 11 => .long
  | 12 => .long
  | 13 => .int
  | 14 => .array .int
  | 15 => .array .int
  | 16 => .int
  | 17 => .array .int
  | 18 => .int
  | _ => .long
theorem am_n4 : ∀ a, a < 20 → ∀ b, b < 20 → a ≠ b → (am_T4 a).2.1 ≠ (am_T4 b).2.1 := by decide +kernel
theorem am_ty4 : ∀ k, k < 20 → parseFieldDescriptor (am_T4 k).2.2.1 = some (am_t4 k) := by decide +kernel
theorem am_w4 : ∀ w ∈ u_ws am_R4 am_T4 20, w ∈ am_big := by decide +kernel
abbrev am_cl : List vw_C := [(am_R0, am_T0, 13), (am_R1, am_T1, 8), (am_R2, am_T2, 2), (am_R3, am_T3, 11), (am_R4, am_T4, 20)]
def am_ft : Nat → Nat → Nat := fun ci k => match ci with
  | 0 => ([0, 2, 2, 0, 2, 2, 2, 0, 2, 2, 2, 2, 2] : List Nat).getD k 0
  | 1 => ([2, 2, 2, 0, 3, 3, 0, 2] : List Nat).getD k 0
  | 2 => ([2, 0] : List Nat).getD k 0
  | 3 => ([2, 2, 2, 2, 2, 2, 2, 0, 0, 1, 1] : List Nat).getD k 0
  | _ => ([2, 0, 2, 2, 2, 2, 2, 2, 0, 2, 0, 1, 1, 0, 2, 2, 0, 2, 0, 1] : List Nat).getD k 0
abbrev k_S_init : Nat := 0
abbrev k_O_init : Nat := 1
abbrev k_C_init : Nat := 2
abbrev k_P_init : Nat := 3
abbrev k_R_init : Nat := 4
abbrev k_J_max : Nat := 5
abbrev k_S_row : Nat := 6
abbrev k_S_isRow : Nat := 7
abbrev k_S_refuse : Nat := 8
abbrev k_R_begin : Nat := 9
abbrev k_J_min : Nat := 10
abbrev k_J_fill : Nat := 11
abbrev k_S_lay : Nat := 12
abbrev k_S_refusePlace : Nat := 13
abbrev k_R_isMissing : Nat := 14
abbrev k_R_has : Nat := 15
abbrev k_S_at : Nat := 16
abbrev k_S_tear : Nat := 17
abbrev k_R_remove : Nat := 18
abbrev k_S_copy : Nat := 19
abbrev k_R_hasSpan : Nat := 20
abbrev k_S_mean : Nat := 21
abbrev k_S_text : Nat := 22
abbrev k_S_isText : Nat := 23
abbrev k_S_put : Nat := 24
abbrev k_S_fault : Nat := 25
abbrev k_D_read : Nat := 26
abbrev k_C_clear : Nat := 27
abbrev k_D_pastBlanks : Nat := 28
abbrev k_D_signAt : Nat := 29
abbrev k_D_isYearSign : Nat := 30
abbrev k_S_isScene : Nat := 31
abbrev k_C_addYear : Nat := 32
abbrev k_C_set : Nat := 33
abbrev k_D_readLaws : Nat := 34
abbrev k_D_kindOf : Nat := 35
abbrev k_C_addLaw : Nat := 36
abbrev k_S_cloth : Nat := 37
abbrev k_C_take : Nat := 38
abbrev k_C_settleFrom : Nat := 39
abbrev k_C_settle : Nat := 40
abbrev k_C_gapFor : Nat := 41
abbrev k_C_lawHoldingIn : Nat := 42
abbrev k_C_holds : Nat := 43
abbrev k_S_year : Nat := 44
abbrev k_S_isYear : Nat := 45
abbrev k_S_ofYear : Nat := 46
abbrev k_S_law : Nat := 47
abbrev k_S_isLaw : Nat := 48
abbrev k_S_ofLaw : Nat := 49
abbrev k_C_isBroken : Nat := 50
abbrev k_C_isBrokenIn : Nat := 51
abbrev k_C_isOfKind : Nat := 52
abbrev k_S_mark : Nat := 53
abbrev k_C_yearsWith : Nat := 54
abbrev k_J_bitCount : Nat := 55
abbrev k_C_yearsThatAre : Nat := 56
abbrev k_S_end : Nat := 57
abbrev k_S_sew : Nat := 58
abbrev k_S_stitched : Nat := 59
abbrev k_C_allows : Nat := 60
abbrev k_C_stitch : Nat := 61
abbrev k_C_change : Nat := 62
abbrev k_C_brokenLaws : Nat := 63
abbrev k_S_unpick : Nat := 64
abbrev k_S_undo : Nat := 65
abbrev k_C_unstitch : Nat := 66
abbrev k_S_keep : Nat := 67
abbrev k_S_isKeptPlace : Nat := 68
abbrev k_S_on : Nat := 69
abbrev k_S_happens : Nat := 70
abbrev k_S_by : Nat := 71
abbrev k_S_broken : Nat := 72
abbrev k_C_firstYearOf : Nat := 73
abbrev k_J_numberOfTrailingZeros : Nat := 74
abbrev k_S_can : Nat := 75
abbrev k_S_safe : Nat := 76
abbrev k_S_isWholeWhateverIsSewn : Nat := 77
abbrev k_S_least : Nat := 78
abbrev k_P_begin : Nat := 79
abbrev k_P_want : Nat := 80
abbrev k_S_fewestInto : Nat := 81
abbrev k_P_seek : Nat := 82
abbrev k_P_goOn : Nat := 83
abbrev k_P_add : Nat := 84
abbrev k_P_isAllowed : Nat := 85
abbrev k_P_fits : Nat := 86
abbrev k_S_happeningBit : Nat := 87
abbrev k_C_isAnyBrokenIn : Nat := 88
abbrev k_S_ways : Nat := 89
abbrev k_S_tellFraction : Nat := 90
abbrev k_S_commonDivisor : Nat := 91
abbrev k_S_avert : Nat := 92
abbrev k_S_judge : Nat := 93
abbrev k_C_yearsWithSomething : Nat := 94
abbrev k_S_was : Nat := 95
abbrev k_S_refuseHistory : Nat := 96
abbrev k_C_happensAs : Nat := 97
abbrev k_S_kinds : Nat := 98
abbrev k_S_needed : Nat := 99
abbrev k_S_forged : Nat := 100
abbrev k_S_firstChanged : Nat := 101
abbrev k_S_odds : Nat := 102
abbrev k_S_lots : Nat := 103
abbrev k_S_asked : Nat := 104
abbrev k_S_upper : Nat := 105
abbrev k_S_lower : Nat := 106
abbrev k_S_count : Nat := 107
abbrev k_C_lawsOfKind : Nat := 108
abbrev k_S_thatAreThere : Nat := 109
abbrev k_S_keptCloths : Nat := 110
abbrev k_S_finding : Nat := 111
abbrev k_S_findings : Nat := 112
abbrev k_S_digest : Nat := 113
abbrev k_S_foldRows : Nat := 114
abbrev k_M_init : Nat := 115
abbrev k_M_row : Nat := 116
abbrev k_M_isRow : Nat := 117
abbrev k_M_in : Nat := 118
abbrev k_M_found : Nat := 119
abbrev k_M_anew : Nat := 120
abbrev k_M_lay : Nat := 121
abbrev k_M_at : Nat := 122
abbrev k_M_tells : Nat := 123
abbrev k_M_tear : Nat := 124
abbrev k_M_copy : Nat := 125
abbrev k_M_fits : Nat := 126
abbrev k_M_mean : Nat := 127
abbrev k_M_text : Nat := 128
abbrev k_M_isText : Nat := 129
abbrev k_M_put : Nat := 130
abbrev k_M_fault : Nat := 131
abbrev k_M_faultOf : Nat := 132
abbrev k_M_blanks : Nat := 133
abbrev k_M_byteAt : Nat := 134
abbrev k_M_takesYears : Nat := 135
abbrev k_M_isSign : Nat := 136
abbrev k_M_isScene : Nat := 137
abbrev k_M_takesLaw : Nat := 138
abbrev k_M_kindOf : Nat := 139
abbrev k_M_cloth : Nat := 140
abbrev k_M_copyAll : Nat := 141
abbrev k_M_year : Nat := 142
abbrev k_M_isYear : Nat := 143
abbrev k_M_plays : Nat := 144
abbrev k_M_holds : Nat := 145
abbrev k_M_happenedAhead : Nat := 146
abbrev k_M_yearTells : Nat := 147
abbrev k_M_law : Nat := 148
abbrev k_M_isLaw : Nat := 149
abbrev k_M_lawTells : Nat := 150
abbrev k_M_isBroken : Nat := 151
abbrev k_M_yearsOf : Nat := 152
abbrev k_M_ones : Nat := 153
abbrev k_M_mark : Nat := 154
abbrev k_M_yearsThat : Nat := 155
abbrev k_M_end : Nat := 156
abbrev k_M_isTold : Nat := 157
abbrev k_M_sew : Nat := 158
abbrev k_M_minds : Nat := 159
abbrev k_M_sews : Nat := 160
abbrev k_M_brokenNow : Nat := 161
abbrev k_M_unpick : Nat := 162
abbrev k_M_undo : Nat := 163
abbrev k_M_keep : Nat := 164
abbrev k_M_on : Nat := 165
abbrev k_M_happens : Nat := 166
abbrev k_M_by : Nat := 167
abbrev k_M_broken : Nat := 168
abbrev k_M_has : Nat := 169
abbrev k_M_can : Nat := 170
abbrev k_M_lays : Nat := 171
abbrev k_M_putsBack : Nat := 172
abbrev k_M_safe : Nat := 173
abbrev k_M_least : Nat := 174
abbrev k_M_fewest : Nat := 175
abbrev k_M_plans : Nat := 176
abbrev k_M_does : Nat := 177
abbrev k_M_canBe : Nat := 178
abbrev k_M_tellsPlan : Nat := 179
abbrev k_M_ways : Nat := 180
abbrev k_M_avert : Nat := 181
abbrev k_M_judge : Nat := 182
abbrev k_M_happening : Nat := 183
abbrev k_M_was : Nat := 184
abbrev k_M_against : Nat := 185
abbrev k_M_isSo : Nat := 186
abbrev k_M_kinds : Nat := 187
abbrev k_M_needed : Nat := 188
abbrev k_M_forged : Nat := 189
abbrev k_M_odds : Nat := 190
abbrev k_M_chance : Nat := 191
abbrev k_M_lots : Nat := 192
abbrev k_M_asked : Nat := 193
abbrev k_M_upper : Nat := 194
abbrev k_M_lower : Nat := 195
abbrev k_M_count : Nat := 196
abbrev k_M_barsMany : Nat := 197
abbrev k_M_thereOf : Nat := 198
abbrev k_M_finding : Nat := 199
abbrev k_M_findings : Nat := 200
abbrev k_M_digest : Nat := 201
abbrev k_M_mix : Nat := 202
abbrev k_L_law : Nat := 203
abbrev am_Q : Type := MethodName × ByteArray × Nat × Option FieldType
def am_mt_0 : List am_Q := [
  (⟨"SewnAhead", "<init>", "()V"⟩, prog_1_method_1_code, 2, none),
  (⟨"java/lang/Object", "<init>", "()V"⟩, object_method_1_code, 1, none),
  (⟨"SewnAhead$Cloth", "<init>", "()V"⟩, prog_2_method_1_code, 1, none),
  (⟨"SewnAhead$Plans", "<init>", "()V"⟩, prog_3_method_1_code, 1, none),
  (⟨"SewnAhead$Row", "<init>", "(I)V"⟩, prog_5_method_1_code, 2, none),
  (⟨"java/lang/Math", "max", "(II)I"⟩, prog_9_method_65_code, 2, (some .int)),
  (⟨"SewnAhead", "row", "(II)I"⟩, prog_1_method_2_code, 3, (some .int)),
  (⟨"SewnAhead", "isRow", "(I)Z"⟩, prog_1_method_43_code, 1, (some .boolean)),
  (⟨"SewnAhead", "refuse", "(I)I"⟩, prog_1_method_49_code, 2, (some .int)),
  (⟨"SewnAhead$Row", "begin", "(II)V"⟩, prog_5_method_5_code, 3, none),
  (⟨"java/lang/Math", "min", "(II)I"⟩, prog_9_method_69_code, 2, (some .int)),
  (⟨"java/util/Arrays", "fill", "([II)V"⟩, prog_11_method_103_code, 4, none),
  (⟨"SewnAhead", "lay", "(III)I"⟩, prog_1_method_3_code, 5, (some .int)),
  (⟨"SewnAhead", "refusePlace", "(LSewnAhead$Row;I)I"⟩, prog_1_method_50_code, 3, (some .int)),
  (⟨"SewnAhead$Row", "isMissing", "()Z"⟩, prog_5_method_2_code, 1, (some .boolean)),
  (⟨"SewnAhead$Row", "has", "(I)Z"⟩, prog_5_method_3_code, 2, (some .boolean))]
def am_mt_1 : List am_Q := [
  (⟨"SewnAhead", "at", "(II)I"⟩, prog_1_method_4_code, 4, (some .int)),
  (⟨"SewnAhead", "tear", "(I)I"⟩, prog_1_method_5_code, 2, (some .int)),
  (⟨"SewnAhead$Row", "remove", "()V"⟩, prog_5_method_6_code, 1, none),
  (⟨"SewnAhead", "copy", "(IIIII)I"⟩, prog_1_method_6_code, 6, (some .int)),
  (⟨"SewnAhead$Row", "hasSpan", "(II)Z"⟩, prog_5_method_4_code, 3, (some .boolean)),
  (⟨"SewnAhead", "mean", "(I)I"⟩, prog_1_method_7_code, 6, (some .int)),
  (⟨"SewnAhead", "text", "(II)I"⟩, prog_1_method_8_code, 3, (some .int)),
  (⟨"SewnAhead", "isText", "(I)Z"⟩, prog_1_method_44_code, 1, (some .boolean)),
  (⟨"SewnAhead", "put", "(III)I"⟩, prog_1_method_9_code, 6, (some .int)),
  (⟨"SewnAhead", "fault", "(I)I"⟩, prog_1_method_10_code, 2, (some .int)),
  (⟨"SewnAhead$Reader", "read", "(LSewnAhead$Row;LSewnAhead$Cloth;)I"⟩, prog_4_method_2_code, 5, (some .int)),
  (⟨"SewnAhead$Cloth", "clear", "()V"⟩, prog_2_method_2_code, 1, none),
  (⟨"SewnAhead$Reader", "pastBlanks", "(LSewnAhead$Row;I)I"⟩, prog_4_method_4_code, 3, (some .int)),
  (⟨"SewnAhead$Reader", "signAt", "(LSewnAhead$Row;I)I"⟩, prog_4_method_5_code, 2, (some .int)),
  (⟨"SewnAhead$Reader", "isYearSign", "(I)Z"⟩, prog_4_method_6_code, 1, (some .boolean)),
  (⟨"SewnAhead", "isScene", "(I)Z"⟩, prog_1_method_46_code, 1, (some .boolean))]
def am_mt_2 : List am_Q := [
  (⟨"SewnAhead$Cloth", "addYear", "(I)V"⟩, prog_2_method_4_code, 2, none),
  (⟨"SewnAhead$Cloth", "set", "(III)V"⟩, prog_2_method_6_code, 4, none),
  (⟨"SewnAhead$Reader", "readLaws", "(LSewnAhead$Row;ILSewnAhead$Cloth;)I"⟩, prog_4_method_3_code, 8, (some .int)),
  (⟨"SewnAhead$Reader", "kindOf", "(I)I"⟩, prog_4_method_7_code, 2, (some .int)),
  (⟨"SewnAhead$Cloth", "addLaw", "(III)V"⟩, prog_2_method_5_code, 4, none),
  (⟨"SewnAhead", "cloth", "(I)I"⟩, prog_1_method_11_code, 3, (some .int)),
  (⟨"SewnAhead$Cloth", "take", "(LSewnAhead$Cloth;)V"⟩, prog_2_method_3_code, 2, none),
  (⟨"SewnAhead$Cloth", "settleFrom", "(I)V"⟩, prog_2_method_11_code, 3, none),
  (⟨"SewnAhead$Cloth", "settle", "(I)V"⟩, prog_2_method_12_code, 3, none),
  (⟨"SewnAhead$Cloth", "gapFor", "(I)I"⟩, prog_2_method_13_code, 3, (some .int)),
  (⟨"SewnAhead$Cloth", "lawHoldingIn", "(I)I"⟩, prog_2_method_14_code, 3, (some .int)),
  (⟨"SewnAhead$Cloth", "holds", "(II)Z"⟩, prog_2_method_15_code, 5, (some .boolean)),
  (⟨"SewnAhead", "year", "(II)I"⟩, prog_1_method_12_code, 3, (some .int)),
  (⟨"SewnAhead", "isYear", "(I)Z"⟩, prog_1_method_47_code, 2, (some .boolean)),
  (⟨"SewnAhead", "ofYear", "(II)I"⟩, prog_1_method_53_code, 3, (some .int)),
  (⟨"SewnAhead", "law", "(II)I"⟩, prog_1_method_13_code, 3, (some .int))]
def am_mt_3 : List am_Q := [
  (⟨"SewnAhead", "isLaw", "(I)Z"⟩, prog_1_method_48_code, 2, (some .boolean)),
  (⟨"SewnAhead", "ofLaw", "(II)I"⟩, prog_1_method_54_code, 3, (some .int)),
  (⟨"SewnAhead$Cloth", "isBroken", "(I)Z"⟩, prog_2_method_23_code, 3, (some .boolean)),
  (⟨"SewnAhead$Cloth", "isBrokenIn", "(II)Z"⟩, prog_2_method_22_code, 4, (some .boolean)),
  (⟨"SewnAhead$Cloth", "isOfKind", "(II)Z"⟩, prog_2_method_20_code, 3, (some .boolean)),
  (⟨"SewnAhead", "mark", "(II)I"⟩, prog_1_method_14_code, 5, (some .int)),
  (⟨"SewnAhead$Cloth", "yearsWith", "(I)I"⟩, prog_2_method_17_code, 4, (some .int)),
  (⟨"java/lang/Integer", "bitCount", "(I)I"⟩, prog_8_method_49_code, 1, (some .int)),
  (⟨"SewnAhead$Cloth", "yearsThatAre", "(I)I"⟩, prog_2_method_19_code, 4, (some .int)),
  (⟨"SewnAhead", "end", "(II)I"⟩, prog_1_method_15_code, 4, (some .int)),
  (⟨"SewnAhead", "sew", "(II)I"⟩, prog_1_method_16_code, 3, (some .int)),
  (⟨"SewnAhead", "stitched", "(II)I"⟩, prog_1_method_52_code, 3, (some .int)),
  (⟨"SewnAhead$Cloth", "allows", "(II)Z"⟩, prog_2_method_7_code, 3, (some .boolean)),
  (⟨"SewnAhead$Cloth", "stitch", "(II)V"⟩, prog_2_method_9_code, 3, none),
  (⟨"SewnAhead$Cloth", "change", "(II)V"⟩, prog_2_method_8_code, 3, none),
  (⟨"SewnAhead$Cloth", "brokenLaws", "()I"⟩, prog_2_method_25_code, 3, (some .int))]
def am_mt_4 : List am_Q := [
  (⟨"SewnAhead", "unpick", "(I)I"⟩, prog_1_method_17_code, 2, (some .int)),
  (⟨"SewnAhead", "undo", "(I)I"⟩, prog_1_method_18_code, 3, (some .int)),
  (⟨"SewnAhead$Cloth", "unstitch", "(I)V"⟩, prog_2_method_10_code, 3, none),
  (⟨"SewnAhead", "keep", "(I)I"⟩, prog_1_method_19_code, 2, (some .int)),
  (⟨"SewnAhead", "isKeptPlace", "(I)Z"⟩, prog_1_method_45_code, 1, (some .boolean)),
  (⟨"SewnAhead", "on", "(I)I"⟩, prog_1_method_20_code, 2, (some .int)),
  (⟨"SewnAhead", "happens", "(I)I"⟩, prog_1_method_21_code, 2, (some .int)),
  (⟨"SewnAhead", "by", "(I)I"⟩, prog_1_method_22_code, 2, (some .int)),
  (⟨"SewnAhead", "broken", "()I"⟩, prog_1_method_23_code, 2, (some .int)),
  (⟨"SewnAhead$Cloth", "firstYearOf", "(I)I"⟩, prog_2_method_26_code, 4, (some .int)),
  (⟨"java/lang/Integer", "numberOfTrailingZeros", "(I)I"⟩, prog_8_method_48_code, 2, (some .int)),
  (⟨"SewnAhead", "can", "(I)I"⟩, prog_1_method_24_code, 4, (some .int)),
  (⟨"SewnAhead", "safe", "(I)I"⟩, prog_1_method_25_code, 4, (some .int)),
  (⟨"SewnAhead", "isWholeWhateverIsSewn", "(I)Z"⟩, prog_1_method_55_code, 3, (some .boolean)),
  (⟨"SewnAhead", "least", "(III)I"⟩, prog_1_method_26_code, 4, (some .int)),
  (⟨"SewnAhead$Plans", "begin", "(ZZ)V"⟩, prog_3_method_2_code, 3, none)]
def am_mt_5 : List am_Q := [
  (⟨"SewnAhead$Plans", "want", "(II)V"⟩, prog_3_method_3_code, 3, none),
  (⟨"SewnAhead", "fewestInto", "(I)I"⟩, prog_1_method_56_code, 3, (some .int)),
  (⟨"SewnAhead$Plans", "seek", "(LSewnAhead$Cloth;I)I"⟩, prog_3_method_4_code, 3, (some .int)),
  (⟨"SewnAhead$Plans", "goOn", "(II)V"⟩, prog_3_method_5_code, 7, none),
  (⟨"SewnAhead$Plans", "add", "()V"⟩, prog_3_method_8_code, 1, none),
  (⟨"SewnAhead$Plans", "isAllowed", "(II)Z"⟩, prog_3_method_6_code, 3, (some .boolean)),
  (⟨"SewnAhead$Plans", "fits", "(I)Z"⟩, prog_3_method_7_code, 2, (some .boolean)),
  (⟨"SewnAhead", "happeningBit", "(I)I"⟩, prog_1_method_58_code, 1, (some .int)),
  (⟨"SewnAhead$Cloth", "isAnyBrokenIn", "(I)Z"⟩, prog_2_method_24_code, 3, (some .boolean)),
  (⟨"SewnAhead", "ways", "(III)I"⟩, prog_1_method_27_code, 4, (some .int)),
  (⟨"SewnAhead", "tellFraction", "(JJ)V"⟩, prog_1_method_59_code, 7, none),
  (⟨"SewnAhead", "commonDivisor", "(JJ)J"⟩, prog_1_method_60_code, 7, (some .long)),
  (⟨"SewnAhead", "avert", "(II)I"⟩, prog_1_method_28_code, 4, (some .int)),
  (⟨"SewnAhead", "judge", "(I)I"⟩, prog_1_method_29_code, 4, (some .int)),
  (⟨"SewnAhead$Cloth", "yearsWithSomething", "()I"⟩, prog_2_method_18_code, 1, (some .int)),
  (⟨"SewnAhead", "was", "(II)I"⟩, prog_1_method_30_code, 6, (some .int))]
def am_mt_6 : List am_Q := [
  (⟨"SewnAhead", "refuseHistory", "(I)I"⟩, prog_1_method_51_code, 5, (some .int)),
  (⟨"SewnAhead$Cloth", "happensAs", "([I)Z"⟩, prog_2_method_16_code, 3, (some .boolean)),
  (⟨"SewnAhead", "kinds", "(II)I"⟩, prog_1_method_31_code, 6, (some .int)),
  (⟨"SewnAhead", "needed", "()I"⟩, prog_1_method_32_code, 3, (some .int)),
  (⟨"SewnAhead", "forged", "(I)I"⟩, prog_1_method_33_code, 4, (some .int)),
  (⟨"SewnAhead", "firstChanged", "([I)I"⟩, prog_1_method_57_code, 3, (some .int)),
  (⟨"SewnAhead", "odds", "(II)I"⟩, prog_1_method_34_code, 7, (some .int)),
  (⟨"SewnAhead", "lots", "(II)I"⟩, prog_1_method_35_code, 7, (some .int)),
  (⟨"SewnAhead", "asked", "()I"⟩, prog_1_method_36_code, 1, (some .int)),
  (⟨"SewnAhead", "upper", "()J"⟩, prog_1_method_37_code, 1, (some .long)),
  (⟨"SewnAhead", "lower", "()J"⟩, prog_1_method_38_code, 1, (some .long)),
  (⟨"SewnAhead", "count", "(I)I"⟩, prog_1_method_39_code, 2, (some .int)),
  (⟨"SewnAhead$Cloth", "lawsOfKind", "(I)I"⟩, prog_2_method_21_code, 4, (some .int)),
  (⟨"SewnAhead", "thatAreThere", "([LSewnAhead$Row;)I"⟩, prog_1_method_61_code, 3, (some .int)),
  (⟨"SewnAhead", "keptCloths", "()I"⟩, prog_1_method_62_code, 3, (some .int)),
  (⟨"SewnAhead", "finding", "()I"⟩, prog_1_method_40_code, 1, (some .int))]
def am_mt_7 : List am_Q := [
  (⟨"SewnAhead", "findings", "(I)I"⟩, prog_1_method_41_code, 2, (some .int)),
  (⟨"SewnAhead", "digest", "()J"⟩, prog_1_method_42_code, 5, (some .long)),
  (⟨"SewnAhead", "foldRows", "(J[LSewnAhead$Row;)J"⟩, prog_1_method_63_code, 6, (some .long)),
  (⟨"SewnAheadModel", "<init>", "()V"⟩, prog_7_method_1_code, 2, none),
  (⟨"SewnAheadModel", "row", "(II)I"⟩, prog_7_method_12_code, 3, (some .int)),
  (⟨"SewnAheadModel", "isRow", "(I)Z"⟩, prog_7_method_9_code, 1, (some .boolean)),
  (⟨"SewnAheadModel", "in", "(JJJ)Z"⟩, prog_7_method_3_code, 6, (some .boolean)),
  (⟨"SewnAheadModel", "found", "(I)I"⟩, prog_7_method_6_code, 2, (some .int)),
  (⟨"SewnAheadModel", "anew", "(II)V"⟩, prog_7_method_11_code, 4, none),
  (⟨"SewnAheadModel", "lay", "(III)I"⟩, prog_7_method_13_code, 5, (some .int)),
  (⟨"SewnAheadModel", "at", "(II)I"⟩, prog_7_method_14_code, 3, (some .int)),
  (⟨"SewnAheadModel", "tells", "(II)I"⟩, prog_7_method_7_code, 3, (some .int)),
  (⟨"SewnAheadModel", "tear", "(I)I"⟩, prog_7_method_15_code, 2, (some .int)),
  (⟨"SewnAheadModel", "copy", "(IIIII)I"⟩, prog_7_method_17_code, 7, (some .int)),
  (⟨"SewnAheadModel", "fits", "(III)Z"⟩, prog_7_method_16_code, 3, (some .boolean)),
  (⟨"SewnAheadModel", "mean", "(I)I"⟩, prog_7_method_18_code, 5, (some .int))]
def am_mt_8 : List am_Q := [
  (⟨"SewnAheadModel", "text", "(II)I"⟩, prog_7_method_19_code, 4, (some .int)),
  (⟨"SewnAheadModel", "isText", "(I)Z"⟩, prog_7_method_10_code, 1, (some .boolean)),
  (⟨"SewnAheadModel", "put", "(III)I"⟩, prog_7_method_20_code, 5, (some .int)),
  (⟨"SewnAheadModel", "fault", "(I)I"⟩, prog_7_method_29_code, 2, (some .int)),
  (⟨"SewnAheadModel", "faultOf", "(I)I"⟩, prog_7_method_28_code, 3, (some .int)),
  (⟨"SewnAheadModel", "blanks", "(I)V"⟩, prog_7_method_23_code, 2, none),
  (⟨"SewnAheadModel", "byteAt", "(II)I"⟩, prog_7_method_22_code, 3, (some .int)),
  (⟨"SewnAheadModel", "takesYears", "(I)Z"⟩, prog_7_method_26_code, 4, (some .boolean)),
  (⟨"SewnAheadModel", "isSign", "(I)Z"⟩, prog_7_method_25_code, 2, (some .boolean)),
  (⟨"SewnAheadModel", "isScene", "(I)Z"⟩, prog_7_method_24_code, 2, (some .boolean)),
  (⟨"SewnAheadModel", "takesLaw", "(I)Z"⟩, prog_7_method_27_code, 5, (some .boolean)),
  (⟨"SewnAheadModel", "kindOf", "(I)I"⟩, prog_7_method_21_code, 1, (some .int)),
  (⟨"SewnAheadModel", "cloth", "(I)I"⟩, prog_7_method_30_code, 3, (some .int)),
  (⟨"SewnAheadModel", "copyAll", "(III)V"⟩, prog_7_method_8_code, 5, none),
  (⟨"SewnAheadModel", "year", "(II)I"⟩, prog_7_method_42_code, 3, (some .int)),
  (⟨"SewnAheadModel", "isYear", "(I)Z"⟩, prog_7_method_31_code, 2, (some .boolean))]
def am_mt_9 : List am_Q := [
  (⟨"SewnAheadModel", "plays", "()V"⟩, prog_7_method_36_code, 6, none),
  (⟨"SewnAheadModel", "holds", "(II)Z"⟩, prog_7_method_35_code, 4, (some .boolean)),
  (⟨"SewnAheadModel", "happenedAhead", "(III)Z"⟩, prog_7_method_34_code, 4, (some .boolean)),
  (⟨"SewnAheadModel", "yearTells", "(II)I"⟩, prog_7_method_41_code, 3, (some .int)),
  (⟨"SewnAheadModel", "law", "(II)I"⟩, prog_7_method_44_code, 3, (some .int)),
  (⟨"SewnAheadModel", "isLaw", "(I)Z"⟩, prog_7_method_32_code, 2, (some .boolean)),
  (⟨"SewnAheadModel", "lawTells", "(II)I"⟩, prog_7_method_43_code, 3, (some .int)),
  (⟨"SewnAheadModel", "isBroken", "(I)Z"⟩, prog_7_method_38_code, 5, (some .boolean)),
  (⟨"SewnAheadModel", "yearsOf", "(I)I"⟩, prog_7_method_37_code, 4, (some .int)),
  (⟨"SewnAheadModel", "ones", "(I)I"⟩, prog_7_method_5_code, 3, (some .int)),
  (⟨"SewnAheadModel", "mark", "(II)I"⟩, prog_7_method_46_code, 6, (some .int)),
  (⟨"SewnAheadModel", "yearsThat", "(I)I"⟩, prog_7_method_45_code, 4, (some .int)),
  (⟨"SewnAheadModel", "end", "(II)I"⟩, prog_7_method_47_code, 4, (some .int)),
  (⟨"SewnAheadModel", "isTold", "(I)Z"⟩, prog_7_method_33_code, 1, (some .boolean)),
  (⟨"SewnAheadModel", "sew", "(II)I"⟩, prog_7_method_50_code, 3, (some .int)),
  (⟨"SewnAheadModel", "minds", "()V"⟩, prog_7_method_48_code, 1, none)]
def am_mt_10 : List am_Q := [
  (⟨"SewnAheadModel", "sews", "(II)V"⟩, prog_7_method_49_code, 3, none),
  (⟨"SewnAheadModel", "brokenNow", "()I"⟩, prog_7_method_39_code, 3, (some .int)),
  (⟨"SewnAheadModel", "unpick", "(I)I"⟩, prog_7_method_51_code, 2, (some .int)),
  (⟨"SewnAheadModel", "undo", "(I)I"⟩, prog_7_method_52_code, 3, (some .int)),
  (⟨"SewnAheadModel", "keep", "(I)I"⟩, prog_7_method_53_code, 2, (some .int)),
  (⟨"SewnAheadModel", "on", "(I)I"⟩, prog_7_method_54_code, 2, (some .int)),
  (⟨"SewnAheadModel", "happens", "(I)I"⟩, prog_7_method_55_code, 2, (some .int)),
  (⟨"SewnAheadModel", "by", "(I)I"⟩, prog_7_method_56_code, 2, (some .int)),
  (⟨"SewnAheadModel", "broken", "()I"⟩, prog_7_method_57_code, 5, (some .int)),
  (⟨"SewnAheadModel", "has", "(II)Z"⟩, prog_7_method_4_code, 2, (some .boolean)),
  (⟨"SewnAheadModel", "can", "(I)I"⟩, prog_7_method_60_code, 4, (some .int)),
  (⟨"SewnAheadModel", "lays", "()V"⟩, prog_7_method_58_code, 1, none),
  (⟨"SewnAheadModel", "putsBack", "()V"⟩, prog_7_method_59_code, 1, none),
  (⟨"SewnAheadModel", "safe", "(I)I"⟩, prog_7_method_61_code, 6, (some .int)),
  (⟨"SewnAheadModel", "least", "(III)I"⟩, prog_7_method_67_code, 5, (some .int)),
  (⟨"SewnAheadModel", "fewest", "(II)I"⟩, prog_7_method_66_code, 8, (some .int))]
def am_mt_11 : List am_Q := [
  (⟨"SewnAheadModel", "plans", "()I"⟩, prog_7_method_62_code, 3, (some .int)),
  (⟨"SewnAheadModel", "does", "(I)I"⟩, prog_7_method_64_code, 6, (some .int)),
  (⟨"SewnAheadModel", "canBe", "(II)Z"⟩, prog_7_method_63_code, 3, (some .boolean)),
  (⟨"SewnAheadModel", "tellsPlan", "(II)V"⟩, prog_7_method_65_code, 5, none),
  (⟨"SewnAheadModel", "ways", "(III)I"⟩, prog_7_method_68_code, 9, (some .int)),
  (⟨"SewnAheadModel", "avert", "(II)I"⟩, prog_7_method_69_code, 4, (some .int)),
  (⟨"SewnAheadModel", "judge", "(I)I"⟩, prog_7_method_70_code, 6, (some .int)),
  (⟨"SewnAheadModel", "happening", "()I"⟩, prog_7_method_40_code, 3, (some .int)),
  (⟨"SewnAheadModel", "was", "(II)I"⟩, prog_7_method_73_code, 7, (some .int)),
  (⟨"SewnAheadModel", "against", "(I)I"⟩, prog_7_method_71_code, 4, (some .int)),
  (⟨"SewnAheadModel", "isSo", "(I)Z"⟩, prog_7_method_72_code, 4, (some .boolean)),
  (⟨"SewnAheadModel", "kinds", "(II)I"⟩, prog_7_method_74_code, 7, (some .int)),
  (⟨"SewnAheadModel", "needed", "()I"⟩, prog_7_method_75_code, 4, (some .int)),
  (⟨"SewnAheadModel", "forged", "(I)I"⟩, prog_7_method_76_code, 9, (some .int)),
  (⟨"SewnAheadModel", "odds", "(II)I"⟩, prog_7_method_78_code, 9, (some .int)),
  (⟨"SewnAheadModel", "chance", "(II)I"⟩, prog_7_method_77_code, 6, (some .int))]
def am_mt_12 : List am_Q := [
  (⟨"SewnAheadModel", "lots", "(II)I"⟩, prog_7_method_79_code, 7, (some .int)),
  (⟨"SewnAheadModel", "asked", "()I"⟩, prog_7_method_80_code, 1, (some .int)),
  (⟨"SewnAheadModel", "upper", "()J"⟩, prog_7_method_81_code, 1, (some .long)),
  (⟨"SewnAheadModel", "lower", "()J"⟩, prog_7_method_82_code, 1, (some .long)),
  (⟨"SewnAheadModel", "count", "(I)I"⟩, prog_7_method_85_code, 2, (some .int)),
  (⟨"SewnAheadModel", "barsMany", "()I"⟩, prog_7_method_83_code, 3, (some .int)),
  (⟨"SewnAheadModel", "thereOf", "([II)I"⟩, prog_7_method_84_code, 4, (some .int)),
  (⟨"SewnAheadModel", "finding", "()I"⟩, prog_7_method_86_code, 1, (some .int)),
  (⟨"SewnAheadModel", "findings", "(I)I"⟩, prog_7_method_87_code, 2, (some .int)),
  (⟨"SewnAheadModel", "digest", "()J"⟩, prog_7_method_89_code, 3, (some .long)),
  (⟨"SewnAheadModel", "mix", "(J)V"⟩, prog_7_method_88_code, 3, none)]
def am_mt0 : List am_Q := am_mt_0 ++ (am_mt_1 ++ (am_mt_2 ++ (am_mt_3 ++ (am_mt_4 ++ (am_mt_5 ++ (am_mt_6 ++ (am_mt_7 ++ (am_mt_8 ++ (am_mt_9 ++ (am_mt_10 ++ (am_mt_11 ++ (am_mt_12))))))))))))
def am_mt : List am_Q := am_mt0 ++ [(⟨"SewnAheadLaw", "law", "([I)Z"⟩, code, 4, (some .boolean))]
def am_ck (q : am_Q) : Prop := Cond.code q.1 q.2.1 q.2.2.1 q.2.2.2 ∈ am_big
theorem am_ck_of {q : am_Q} (p : Nat) (h : tables_1[p]? = some (Cond.code q.1 q.2.1 q.2.2.1 q.2.2.2)) : am_ck q := List.mem_filter.mpr ⟨List.mem_append_right _ (List.mem_of_getElem? h), rfl⟩
theorem am_cd_0 : am_ck (⟨"SewnAhead", "<init>", "()V"⟩, prog_1_method_1_code, 2, none) := am_ck_of 15 (by decide +kernel)
theorem am_cd_1 : am_ck (⟨"java/lang/Object", "<init>", "()V"⟩, object_method_1_code, 1, none) := am_ck_of 18 (by decide +kernel)
theorem am_cd_2 : am_ck (⟨"SewnAhead$Cloth", "<init>", "()V"⟩, prog_2_method_1_code, 1, none) := am_ck_of 25 (by decide +kernel)
theorem am_cd_3 : am_ck (⟨"SewnAhead$Plans", "<init>", "()V"⟩, prog_3_method_1_code, 1, none) := am_ck_of 88 (by decide +kernel)
theorem am_cd_4 : am_ck (⟨"SewnAhead$Row", "<init>", "(I)V"⟩, prog_5_method_1_code, 2, none) := am_ck_of 121 (by decide +kernel)
theorem am_cd_5 : am_ck (⟨"java/lang/Math", "max", "(II)I"⟩, prog_9_method_65_code, 2, (some .int)) := am_ck_of 125 (by decide +kernel)
theorem am_cd_6 : am_ck (⟨"SewnAhead", "row", "(II)I"⟩, prog_1_method_2_code, 3, (some .int)) := am_ck_of 174 (by decide +kernel)
theorem am_cd_7 : am_ck (⟨"SewnAhead", "isRow", "(I)Z"⟩, prog_1_method_43_code, 1, (some .boolean)) := am_ck_of 177 (by decide +kernel)
theorem am_cd_8 : am_ck (⟨"SewnAhead", "refuse", "(I)I"⟩, prog_1_method_49_code, 2, (some .int)) := am_ck_of 181 (by decide +kernel)
theorem am_cd_9 : am_ck (⟨"SewnAhead$Row", "begin", "(II)V"⟩, prog_5_method_5_code, 3, none) := am_ck_of 185 (by decide +kernel)
theorem am_cd_10 : am_ck (⟨"java/lang/Math", "min", "(II)I"⟩, prog_9_method_69_code, 2, (some .int)) := am_ck_of 188 (by decide +kernel)
theorem am_cd_11 : am_ck (⟨"java/util/Arrays", "fill", "([II)V"⟩, prog_11_method_103_code, 4, none) := am_ck_of 191 (by decide +kernel)
theorem am_cd_12 : am_ck (⟨"SewnAhead", "lay", "(III)I"⟩, prog_1_method_3_code, 5, (some .int)) := am_ck_of 195 (by decide +kernel)
theorem am_cd_13 : am_ck (⟨"SewnAhead", "refusePlace", "(LSewnAhead$Row;I)I"⟩, prog_1_method_50_code, 3, (some .int)) := am_ck_of 199 (by decide +kernel)
theorem am_cd_14 : am_ck (⟨"SewnAhead$Row", "isMissing", "()Z"⟩, prog_5_method_2_code, 1, (some .boolean)) := am_ck_of 203 (by decide +kernel)
theorem am_cd_15 : am_ck (⟨"SewnAhead$Row", "has", "(I)Z"⟩, prog_5_method_3_code, 2, (some .boolean)) := am_ck_of 207 (by decide +kernel)
theorem am_cd_16 : am_ck (⟨"SewnAhead", "at", "(II)I"⟩, prog_1_method_4_code, 4, (some .int)) := am_ck_of 211 (by decide +kernel)
theorem am_cd_17 : am_ck (⟨"SewnAhead", "tear", "(I)I"⟩, prog_1_method_5_code, 2, (some .int)) := am_ck_of 215 (by decide +kernel)
theorem am_cd_18 : am_ck (⟨"SewnAhead$Row", "remove", "()V"⟩, prog_5_method_6_code, 1, none) := am_ck_of 219 (by decide +kernel)
theorem am_cd_19 : am_ck (⟨"SewnAhead", "copy", "(IIIII)I"⟩, prog_1_method_6_code, 6, (some .int)) := am_ck_of 223 (by decide +kernel)
theorem am_cd_20 : am_ck (⟨"SewnAhead$Row", "hasSpan", "(II)Z"⟩, prog_5_method_4_code, 3, (some .boolean)) := am_ck_of 227 (by decide +kernel)
theorem am_cd_21 : am_ck (⟨"SewnAhead", "mean", "(I)I"⟩, prog_1_method_7_code, 6, (some .int)) := am_ck_of 234 (by decide +kernel)
theorem am_cd_22 : am_ck (⟨"SewnAhead", "text", "(II)I"⟩, prog_1_method_8_code, 3, (some .int)) := am_ck_of 238 (by decide +kernel)
theorem am_cd_23 : am_ck (⟨"SewnAhead", "isText", "(I)Z"⟩, prog_1_method_44_code, 1, (some .boolean)) := am_ck_of 241 (by decide +kernel)
theorem am_cd_24 : am_ck (⟨"SewnAhead", "put", "(III)I"⟩, prog_1_method_9_code, 6, (some .int)) := am_ck_of 245 (by decide +kernel)
theorem am_cd_25 : am_ck (⟨"SewnAhead", "fault", "(I)I"⟩, prog_1_method_10_code, 2, (some .int)) := am_ck_of 249 (by decide +kernel)
theorem am_cd_26 : am_ck (⟨"SewnAhead$Reader", "read", "(LSewnAhead$Row;LSewnAhead$Cloth;)I"⟩, prog_4_method_2_code, 5, (some .int)) := am_ck_of 252 (by decide +kernel)
theorem am_cd_27 : am_ck (⟨"SewnAhead$Cloth", "clear", "()V"⟩, prog_2_method_2_code, 1, none) := am_ck_of 256 (by decide +kernel)
theorem am_cd_28 : am_ck (⟨"SewnAhead$Reader", "pastBlanks", "(LSewnAhead$Row;I)I"⟩, prog_4_method_4_code, 3, (some .int)) := am_ck_of 259 (by decide +kernel)
theorem am_cd_29 : am_ck (⟨"SewnAhead$Reader", "signAt", "(LSewnAhead$Row;I)I"⟩, prog_4_method_5_code, 2, (some .int)) := am_ck_of 262 (by decide +kernel)
theorem am_cd_30 : am_ck (⟨"SewnAhead$Reader", "isYearSign", "(I)Z"⟩, prog_4_method_6_code, 1, (some .boolean)) := am_ck_of 266 (by decide +kernel)
theorem am_cd_31 : am_ck (⟨"SewnAhead", "isScene", "(I)Z"⟩, prog_1_method_46_code, 1, (some .boolean)) := am_ck_of 269 (by decide +kernel)
theorem am_cd_32 : am_ck (⟨"SewnAhead$Cloth", "addYear", "(I)V"⟩, prog_2_method_4_code, 2, none) := am_ck_of 273 (by decide +kernel)
theorem am_cd_33 : am_ck (⟨"SewnAhead$Cloth", "set", "(III)V"⟩, prog_2_method_6_code, 4, none) := am_ck_of 277 (by decide +kernel)
theorem am_cd_34 : am_ck (⟨"SewnAhead$Reader", "readLaws", "(LSewnAhead$Row;ILSewnAhead$Cloth;)I"⟩, prog_4_method_3_code, 8, (some .int)) := am_ck_of 280 (by decide +kernel)
theorem am_cd_35 : am_ck (⟨"SewnAhead$Reader", "kindOf", "(I)I"⟩, prog_4_method_7_code, 2, (some .int)) := am_ck_of 283 (by decide +kernel)
theorem am_cd_36 : am_ck (⟨"SewnAhead$Cloth", "addLaw", "(III)V"⟩, prog_2_method_5_code, 4, none) := am_ck_of 289 (by decide +kernel)
theorem am_cd_37 : am_ck (⟨"SewnAhead", "cloth", "(I)I"⟩, prog_1_method_11_code, 3, (some .int)) := am_ck_of 293 (by decide +kernel)
theorem am_cd_38 : am_ck (⟨"SewnAhead$Cloth", "take", "(LSewnAhead$Cloth;)V"⟩, prog_2_method_3_code, 2, none) := am_ck_of 297 (by decide +kernel)
theorem am_cd_39 : am_ck (⟨"SewnAhead$Cloth", "settleFrom", "(I)V"⟩, prog_2_method_11_code, 3, none) := am_ck_of 302 (by decide +kernel)
theorem am_cd_40 : am_ck (⟨"SewnAhead$Cloth", "settle", "(I)V"⟩, prog_2_method_12_code, 3, none) := am_ck_of 306 (by decide +kernel)
theorem am_cd_41 : am_ck (⟨"SewnAhead$Cloth", "gapFor", "(I)I"⟩, prog_2_method_13_code, 3, (some .int)) := am_ck_of 310 (by decide +kernel)
theorem am_cd_42 : am_ck (⟨"SewnAhead$Cloth", "lawHoldingIn", "(I)I"⟩, prog_2_method_14_code, 3, (some .int)) := am_ck_of 314 (by decide +kernel)
theorem am_cd_43 : am_ck (⟨"SewnAhead$Cloth", "holds", "(II)Z"⟩, prog_2_method_15_code, 5, (some .boolean)) := am_ck_of 318 (by decide +kernel)
theorem am_cd_44 : am_ck (⟨"SewnAhead", "year", "(II)I"⟩, prog_1_method_12_code, 3, (some .int)) := am_ck_of 323 (by decide +kernel)
theorem am_cd_45 : am_ck (⟨"SewnAhead", "isYear", "(I)Z"⟩, prog_1_method_47_code, 2, (some .boolean)) := am_ck_of 327 (by decide +kernel)
theorem am_cd_46 : am_ck (⟨"SewnAhead", "ofYear", "(II)I"⟩, prog_1_method_53_code, 3, (some .int)) := am_ck_of 331 (by decide +kernel)
theorem am_cd_47 : am_ck (⟨"SewnAhead", "law", "(II)I"⟩, prog_1_method_13_code, 3, (some .int)) := am_ck_of 335 (by decide +kernel)
theorem am_cd_48 : am_ck (⟨"SewnAhead", "isLaw", "(I)Z"⟩, prog_1_method_48_code, 2, (some .boolean)) := am_ck_of 339 (by decide +kernel)
theorem am_cd_49 : am_ck (⟨"SewnAhead", "ofLaw", "(II)I"⟩, prog_1_method_54_code, 3, (some .int)) := am_ck_of 343 (by decide +kernel)
theorem am_cd_50 : am_ck (⟨"SewnAhead$Cloth", "isBroken", "(I)Z"⟩, prog_2_method_23_code, 3, (some .boolean)) := am_ck_of 347 (by decide +kernel)
theorem am_cd_51 : am_ck (⟨"SewnAhead$Cloth", "isBrokenIn", "(II)Z"⟩, prog_2_method_22_code, 4, (some .boolean)) := am_ck_of 351 (by decide +kernel)
theorem am_cd_52 : am_ck (⟨"SewnAhead$Cloth", "isOfKind", "(II)Z"⟩, prog_2_method_20_code, 3, (some .boolean)) := am_ck_of 355 (by decide +kernel)
theorem am_cd_53 : am_ck (⟨"SewnAhead", "mark", "(II)I"⟩, prog_1_method_14_code, 5, (some .int)) := am_ck_of 362 (by decide +kernel)
theorem am_cd_54 : am_ck (⟨"SewnAhead$Cloth", "yearsWith", "(I)I"⟩, prog_2_method_17_code, 4, (some .int)) := am_ck_of 367 (by decide +kernel)
theorem am_cd_55 : am_ck (⟨"java/lang/Integer", "bitCount", "(I)I"⟩, prog_8_method_49_code, 1, (some .int)) := am_ck_of 370 (by decide +kernel)
theorem am_cd_56 : am_ck (⟨"SewnAhead$Cloth", "yearsThatAre", "(I)I"⟩, prog_2_method_19_code, 4, (some .int)) := am_ck_of 377 (by decide +kernel)
theorem am_cd_57 : am_ck (⟨"SewnAhead", "end", "(II)I"⟩, prog_1_method_15_code, 4, (some .int)) := am_ck_of 381 (by decide +kernel)
theorem am_cd_58 : am_ck (⟨"SewnAhead", "sew", "(II)I"⟩, prog_1_method_16_code, 3, (some .int)) := am_ck_of 386 (by decide +kernel)
theorem am_cd_59 : am_ck (⟨"SewnAhead", "stitched", "(II)I"⟩, prog_1_method_52_code, 3, (some .int)) := am_ck_of 390 (by decide +kernel)
theorem am_cd_60 : am_ck (⟨"SewnAhead$Cloth", "allows", "(II)Z"⟩, prog_2_method_7_code, 3, (some .boolean)) := am_ck_of 394 (by decide +kernel)
theorem am_cd_61 : am_ck (⟨"SewnAhead$Cloth", "stitch", "(II)V"⟩, prog_2_method_9_code, 3, none) := am_ck_of 399 (by decide +kernel)
theorem am_cd_62 : am_ck (⟨"SewnAhead$Cloth", "change", "(II)V"⟩, prog_2_method_8_code, 3, none) := am_ck_of 403 (by decide +kernel)
theorem am_cd_63 : am_ck (⟨"SewnAhead$Cloth", "brokenLaws", "()I"⟩, prog_2_method_25_code, 3, (some .int)) := am_ck_of 408 (by decide +kernel)
theorem am_cd_64 : am_ck (⟨"SewnAhead", "unpick", "(I)I"⟩, prog_1_method_17_code, 2, (some .int)) := am_ck_of 413 (by decide +kernel)
theorem am_cd_65 : am_ck (⟨"SewnAhead", "undo", "(I)I"⟩, prog_1_method_18_code, 3, (some .int)) := am_ck_of 417 (by decide +kernel)
theorem am_cd_66 : am_ck (⟨"SewnAhead$Cloth", "unstitch", "(I)V"⟩, prog_2_method_10_code, 3, none) := am_ck_of 421 (by decide +kernel)
theorem am_cd_67 : am_ck (⟨"SewnAhead", "keep", "(I)I"⟩, prog_1_method_19_code, 2, (some .int)) := am_ck_of 425 (by decide +kernel)
theorem am_cd_68 : am_ck (⟨"SewnAhead", "isKeptPlace", "(I)Z"⟩, prog_1_method_45_code, 1, (some .boolean)) := am_ck_of 428 (by decide +kernel)
theorem am_cd_69 : am_ck (⟨"SewnAhead", "on", "(I)I"⟩, prog_1_method_20_code, 2, (some .int)) := am_ck_of 432 (by decide +kernel)
theorem am_cd_70 : am_ck (⟨"SewnAhead", "happens", "(I)I"⟩, prog_1_method_21_code, 2, (some .int)) := am_ck_of 436 (by decide +kernel)
theorem am_cd_71 : am_ck (⟨"SewnAhead", "by", "(I)I"⟩, prog_1_method_22_code, 2, (some .int)) := am_ck_of 440 (by decide +kernel)
theorem am_cd_72 : am_ck (⟨"SewnAhead", "broken", "()I"⟩, prog_1_method_23_code, 2, (some .int)) := am_ck_of 444 (by decide +kernel)
theorem am_cd_73 : am_ck (⟨"SewnAhead$Cloth", "firstYearOf", "(I)I"⟩, prog_2_method_26_code, 4, (some .int)) := am_ck_of 448 (by decide +kernel)
theorem am_cd_74 : am_ck (⟨"java/lang/Integer", "numberOfTrailingZeros", "(I)I"⟩, prog_8_method_48_code, 2, (some .int)) := am_ck_of 452 (by decide +kernel)
theorem am_cd_75 : am_ck (⟨"SewnAhead", "can", "(I)I"⟩, prog_1_method_24_code, 4, (some .int)) := am_ck_of 457 (by decide +kernel)
theorem am_cd_76 : am_ck (⟨"SewnAhead", "safe", "(I)I"⟩, prog_1_method_25_code, 4, (some .int)) := am_ck_of 462 (by decide +kernel)
theorem am_cd_77 : am_ck (⟨"SewnAhead", "isWholeWhateverIsSewn", "(I)Z"⟩, prog_1_method_55_code, 3, (some .boolean)) := am_ck_of 466 (by decide +kernel)
theorem am_cd_78 : am_ck (⟨"SewnAhead", "least", "(III)I"⟩, prog_1_method_26_code, 4, (some .int)) := am_ck_of 470 (by decide +kernel)
theorem am_cd_79 : am_ck (⟨"SewnAhead$Plans", "begin", "(ZZ)V"⟩, prog_3_method_2_code, 3, none) := am_ck_of 474 (by decide +kernel)
theorem am_cd_80 : am_ck (⟨"SewnAhead$Plans", "want", "(II)V"⟩, prog_3_method_3_code, 3, none) := am_ck_of 479 (by decide +kernel)
theorem am_cd_81 : am_ck (⟨"SewnAhead", "fewestInto", "(I)I"⟩, prog_1_method_56_code, 3, (some .int)) := am_ck_of 483 (by decide +kernel)
theorem am_cd_82 : am_ck (⟨"SewnAhead$Plans", "seek", "(LSewnAhead$Cloth;I)I"⟩, prog_3_method_4_code, 3, (some .int)) := am_ck_of 487 (by decide +kernel)
theorem am_cd_83 : am_ck (⟨"SewnAhead$Plans", "goOn", "(II)V"⟩, prog_3_method_5_code, 7, none) := am_ck_of 492 (by decide +kernel)
theorem am_cd_84 : am_ck (⟨"SewnAhead$Plans", "add", "()V"⟩, prog_3_method_8_code, 1, none) := am_ck_of 496 (by decide +kernel)
theorem am_cd_85 : am_ck (⟨"SewnAhead$Plans", "isAllowed", "(II)Z"⟩, prog_3_method_6_code, 3, (some .boolean)) := am_ck_of 501 (by decide +kernel)
theorem am_cd_86 : am_ck (⟨"SewnAhead$Plans", "fits", "(I)Z"⟩, prog_3_method_7_code, 2, (some .boolean)) := am_ck_of 508 (by decide +kernel)
theorem am_cd_87 : am_ck (⟨"SewnAhead", "happeningBit", "(I)I"⟩, prog_1_method_58_code, 1, (some .int)) := am_ck_of 511 (by decide +kernel)
theorem am_cd_88 : am_ck (⟨"SewnAhead$Cloth", "isAnyBrokenIn", "(I)Z"⟩, prog_2_method_24_code, 3, (some .boolean)) := am_ck_of 515 (by decide +kernel)
theorem am_cd_89 : am_ck (⟨"SewnAhead", "ways", "(III)I"⟩, prog_1_method_27_code, 4, (some .int)) := am_ck_of 520 (by decide +kernel)
theorem am_cd_90 : am_ck (⟨"SewnAhead", "tellFraction", "(JJ)V"⟩, prog_1_method_59_code, 7, none) := am_ck_of 524 (by decide +kernel)
theorem am_cd_91 : am_ck (⟨"SewnAhead", "commonDivisor", "(JJ)J"⟩, prog_1_method_60_code, 7, (some .long)) := am_ck_of 527 (by decide +kernel)
theorem am_cd_92 : am_ck (⟨"SewnAhead", "avert", "(II)I"⟩, prog_1_method_28_code, 4, (some .int)) := am_ck_of 531 (by decide +kernel)
theorem am_cd_93 : am_ck (⟨"SewnAhead", "judge", "(I)I"⟩, prog_1_method_29_code, 4, (some .int)) := am_ck_of 535 (by decide +kernel)
theorem am_cd_94 : am_ck (⟨"SewnAhead$Cloth", "yearsWithSomething", "()I"⟩, prog_2_method_18_code, 1, (some .int)) := am_ck_of 540 (by decide +kernel)
theorem am_cd_95 : am_ck (⟨"SewnAhead", "was", "(II)I"⟩, prog_1_method_30_code, 6, (some .int)) := am_ck_of 544 (by decide +kernel)
theorem am_cd_96 : am_ck (⟨"SewnAhead", "refuseHistory", "(I)I"⟩, prog_1_method_51_code, 5, (some .int)) := am_ck_of 548 (by decide +kernel)
theorem am_cd_97 : am_ck (⟨"SewnAhead$Cloth", "happensAs", "([I)Z"⟩, prog_2_method_16_code, 3, (some .boolean)) := am_ck_of 552 (by decide +kernel)
theorem am_cd_98 : am_ck (⟨"SewnAhead", "kinds", "(II)I"⟩, prog_1_method_31_code, 6, (some .int)) := am_ck_of 556 (by decide +kernel)
theorem am_cd_99 : am_ck (⟨"SewnAhead", "needed", "()I"⟩, prog_1_method_32_code, 3, (some .int)) := am_ck_of 560 (by decide +kernel)
theorem am_cd_100 : am_ck (⟨"SewnAhead", "forged", "(I)I"⟩, prog_1_method_33_code, 4, (some .int)) := am_ck_of 564 (by decide +kernel)
theorem am_cd_101 : am_ck (⟨"SewnAhead", "firstChanged", "([I)I"⟩, prog_1_method_57_code, 3, (some .int)) := am_ck_of 569 (by decide +kernel)
theorem am_cd_102 : am_ck (⟨"SewnAhead", "odds", "(II)I"⟩, prog_1_method_34_code, 7, (some .int)) := am_ck_of 573 (by decide +kernel)
theorem am_cd_103 : am_ck (⟨"SewnAhead", "lots", "(II)I"⟩, prog_1_method_35_code, 7, (some .int)) := am_ck_of 578 (by decide +kernel)
theorem am_cd_104 : am_ck (⟨"SewnAhead", "asked", "()I"⟩, prog_1_method_36_code, 1, (some .int)) := am_ck_of 586 (by decide +kernel)
theorem am_cd_105 : am_ck (⟨"SewnAhead", "upper", "()J"⟩, prog_1_method_37_code, 1, (some .long)) := am_ck_of 590 (by decide +kernel)
theorem am_cd_106 : am_ck (⟨"SewnAhead", "lower", "()J"⟩, prog_1_method_38_code, 1, (some .long)) := am_ck_of 594 (by decide +kernel)
theorem am_cd_107 : am_ck (⟨"SewnAhead", "count", "(I)I"⟩, prog_1_method_39_code, 2, (some .int)) := am_ck_of 598 (by decide +kernel)
theorem am_cd_108 : am_ck (⟨"SewnAhead$Cloth", "lawsOfKind", "(I)I"⟩, prog_2_method_21_code, 4, (some .int)) := am_ck_of 602 (by decide +kernel)
theorem am_cd_109 : am_ck (⟨"SewnAhead", "thatAreThere", "([LSewnAhead$Row;)I"⟩, prog_1_method_61_code, 3, (some .int)) := am_ck_of 605 (by decide +kernel)
theorem am_cd_110 : am_ck (⟨"SewnAhead", "keptCloths", "()I"⟩, prog_1_method_62_code, 3, (some .int)) := am_ck_of 609 (by decide +kernel)
theorem am_cd_111 : am_ck (⟨"SewnAhead", "finding", "()I"⟩, prog_1_method_40_code, 1, (some .int)) := am_ck_of 613 (by decide +kernel)
theorem am_cd_112 : am_ck (⟨"SewnAhead", "findings", "(I)I"⟩, prog_1_method_41_code, 2, (some .int)) := am_ck_of 617 (by decide +kernel)
theorem am_cd_113 : am_ck (⟨"SewnAhead", "digest", "()J"⟩, prog_1_method_42_code, 5, (some .long)) := am_ck_of 621 (by decide +kernel)
theorem am_cd_114 : am_ck (⟨"SewnAhead", "foldRows", "(J[LSewnAhead$Row;)J"⟩, prog_1_method_63_code, 6, (some .long)) := am_ck_of 627 (by decide +kernel)
theorem am_cd_115 : am_ck (⟨"SewnAheadModel", "<init>", "()V"⟩, prog_7_method_1_code, 2, none) := am_ck_of 632 (by decide +kernel)
theorem am_cd_116 : am_ck (⟨"SewnAheadModel", "row", "(II)I"⟩, prog_7_method_12_code, 3, (some .int)) := am_ck_of 698 (by decide +kernel)
theorem am_cd_117 : am_ck (⟨"SewnAheadModel", "isRow", "(I)Z"⟩, prog_7_method_9_code, 1, (some .boolean)) := am_ck_of 701 (by decide +kernel)
theorem am_cd_118 : am_ck (⟨"SewnAheadModel", "in", "(JJJ)Z"⟩, prog_7_method_3_code, 6, (some .boolean)) := am_ck_of 705 (by decide +kernel)
theorem am_cd_119 : am_ck (⟨"SewnAheadModel", "found", "(I)I"⟩, prog_7_method_6_code, 2, (some .int)) := am_ck_of 709 (by decide +kernel)
theorem am_cd_120 : am_ck (⟨"SewnAheadModel", "anew", "(II)V"⟩, prog_7_method_11_code, 4, none) := am_ck_of 713 (by decide +kernel)
theorem am_cd_121 : am_ck (⟨"SewnAheadModel", "lay", "(III)I"⟩, prog_7_method_13_code, 5, (some .int)) := am_ck_of 717 (by decide +kernel)
theorem am_cd_122 : am_ck (⟨"SewnAheadModel", "at", "(II)I"⟩, prog_7_method_14_code, 3, (some .int)) := am_ck_of 721 (by decide +kernel)
theorem am_cd_123 : am_ck (⟨"SewnAheadModel", "tells", "(II)I"⟩, prog_7_method_7_code, 3, (some .int)) := am_ck_of 725 (by decide +kernel)
theorem am_cd_124 : am_ck (⟨"SewnAheadModel", "tear", "(I)I"⟩, prog_7_method_15_code, 2, (some .int)) := am_ck_of 730 (by decide +kernel)
theorem am_cd_125 : am_ck (⟨"SewnAheadModel", "copy", "(IIIII)I"⟩, prog_7_method_17_code, 7, (some .int)) := am_ck_of 734 (by decide +kernel)
theorem am_cd_126 : am_ck (⟨"SewnAheadModel", "fits", "(III)Z"⟩, prog_7_method_16_code, 3, (some .boolean)) := am_ck_of 737 (by decide +kernel)
theorem am_cd_127 : am_ck (⟨"SewnAheadModel", "mean", "(I)I"⟩, prog_7_method_18_code, 5, (some .int)) := am_ck_of 741 (by decide +kernel)
theorem am_cd_128 : am_ck (⟨"SewnAheadModel", "text", "(II)I"⟩, prog_7_method_19_code, 4, (some .int)) := am_ck_of 745 (by decide +kernel)
theorem am_cd_129 : am_ck (⟨"SewnAheadModel", "isText", "(I)Z"⟩, prog_7_method_10_code, 1, (some .boolean)) := am_ck_of 748 (by decide +kernel)
theorem am_cd_130 : am_ck (⟨"SewnAheadModel", "put", "(III)I"⟩, prog_7_method_20_code, 5, (some .int)) := am_ck_of 753 (by decide +kernel)
theorem am_cd_131 : am_ck (⟨"SewnAheadModel", "fault", "(I)I"⟩, prog_7_method_29_code, 2, (some .int)) := am_ck_of 757 (by decide +kernel)
theorem am_cd_132 : am_ck (⟨"SewnAheadModel", "faultOf", "(I)I"⟩, prog_7_method_28_code, 3, (some .int)) := am_ck_of 761 (by decide +kernel)
theorem am_cd_133 : am_ck (⟨"SewnAheadModel", "blanks", "(I)V"⟩, prog_7_method_23_code, 2, none) := am_ck_of 765 (by decide +kernel)
theorem am_cd_134 : am_ck (⟨"SewnAheadModel", "byteAt", "(II)I"⟩, prog_7_method_22_code, 3, (some .int)) := am_ck_of 769 (by decide +kernel)
theorem am_cd_135 : am_ck (⟨"SewnAheadModel", "takesYears", "(I)Z"⟩, prog_7_method_26_code, 4, (some .boolean)) := am_ck_of 773 (by decide +kernel)
theorem am_cd_136 : am_ck (⟨"SewnAheadModel", "isSign", "(I)Z"⟩, prog_7_method_25_code, 2, (some .boolean)) := am_ck_of 777 (by decide +kernel)
theorem am_cd_137 : am_ck (⟨"SewnAheadModel", "isScene", "(I)Z"⟩, prog_7_method_24_code, 2, (some .boolean)) := am_ck_of 781 (by decide +kernel)
theorem am_cd_138 : am_ck (⟨"SewnAheadModel", "takesLaw", "(I)Z"⟩, prog_7_method_27_code, 5, (some .boolean)) := am_ck_of 787 (by decide +kernel)
theorem am_cd_139 : am_ck (⟨"SewnAheadModel", "kindOf", "(I)I"⟩, prog_7_method_21_code, 1, (some .int)) := am_ck_of 790 (by decide +kernel)
theorem am_cd_140 : am_ck (⟨"SewnAheadModel", "cloth", "(I)I"⟩, prog_7_method_30_code, 3, (some .int)) := am_ck_of 794 (by decide +kernel)
theorem am_cd_141 : am_ck (⟨"SewnAheadModel", "copyAll", "(III)V"⟩, prog_7_method_8_code, 5, none) := am_ck_of 798 (by decide +kernel)
theorem am_cd_142 : am_ck (⟨"SewnAheadModel", "year", "(II)I"⟩, prog_7_method_42_code, 3, (some .int)) := am_ck_of 802 (by decide +kernel)
theorem am_cd_143 : am_ck (⟨"SewnAheadModel", "isYear", "(I)Z"⟩, prog_7_method_31_code, 2, (some .boolean)) := am_ck_of 806 (by decide +kernel)
theorem am_cd_144 : am_ck (⟨"SewnAheadModel", "plays", "()V"⟩, prog_7_method_36_code, 6, none) := am_ck_of 811 (by decide +kernel)
theorem am_cd_145 : am_ck (⟨"SewnAheadModel", "holds", "(II)Z"⟩, prog_7_method_35_code, 4, (some .boolean)) := am_ck_of 815 (by decide +kernel)
theorem am_cd_146 : am_ck (⟨"SewnAheadModel", "happenedAhead", "(III)Z"⟩, prog_7_method_34_code, 4, (some .boolean)) := am_ck_of 819 (by decide +kernel)
theorem am_cd_147 : am_ck (⟨"SewnAheadModel", "yearTells", "(II)I"⟩, prog_7_method_41_code, 3, (some .int)) := am_ck_of 823 (by decide +kernel)
theorem am_cd_148 : am_ck (⟨"SewnAheadModel", "law", "(II)I"⟩, prog_7_method_44_code, 3, (some .int)) := am_ck_of 827 (by decide +kernel)
theorem am_cd_149 : am_ck (⟨"SewnAheadModel", "isLaw", "(I)Z"⟩, prog_7_method_32_code, 2, (some .boolean)) := am_ck_of 831 (by decide +kernel)
theorem am_cd_150 : am_ck (⟨"SewnAheadModel", "lawTells", "(II)I"⟩, prog_7_method_43_code, 3, (some .int)) := am_ck_of 835 (by decide +kernel)
theorem am_cd_151 : am_ck (⟨"SewnAheadModel", "isBroken", "(I)Z"⟩, prog_7_method_38_code, 5, (some .boolean)) := am_ck_of 839 (by decide +kernel)
theorem am_cd_152 : am_ck (⟨"SewnAheadModel", "yearsOf", "(I)I"⟩, prog_7_method_37_code, 4, (some .int)) := am_ck_of 843 (by decide +kernel)
theorem am_cd_153 : am_ck (⟨"SewnAheadModel", "ones", "(I)I"⟩, prog_7_method_5_code, 3, (some .int)) := am_ck_of 846 (by decide +kernel)
theorem am_cd_154 : am_ck (⟨"SewnAheadModel", "mark", "(II)I"⟩, prog_7_method_46_code, 6, (some .int)) := am_ck_of 850 (by decide +kernel)
theorem am_cd_155 : am_ck (⟨"SewnAheadModel", "yearsThat", "(I)I"⟩, prog_7_method_45_code, 4, (some .int)) := am_ck_of 854 (by decide +kernel)
theorem am_cd_156 : am_ck (⟨"SewnAheadModel", "end", "(II)I"⟩, prog_7_method_47_code, 4, (some .int)) := am_ck_of 858 (by decide +kernel)
theorem am_cd_157 : am_ck (⟨"SewnAheadModel", "isTold", "(I)Z"⟩, prog_7_method_33_code, 1, (some .boolean)) := am_ck_of 861 (by decide +kernel)
theorem am_cd_158 : am_ck (⟨"SewnAheadModel", "sew", "(II)I"⟩, prog_7_method_50_code, 3, (some .int)) := am_ck_of 866 (by decide +kernel)
theorem am_cd_159 : am_ck (⟨"SewnAheadModel", "minds", "()V"⟩, prog_7_method_48_code, 1, none) := am_ck_of 870 (by decide +kernel)
theorem am_cd_160 : am_ck (⟨"SewnAheadModel", "sews", "(II)V"⟩, prog_7_method_49_code, 3, none) := am_ck_of 874 (by decide +kernel)
theorem am_cd_161 : am_ck (⟨"SewnAheadModel", "brokenNow", "()I"⟩, prog_7_method_39_code, 3, (some .int)) := am_ck_of 878 (by decide +kernel)
theorem am_cd_162 : am_ck (⟨"SewnAheadModel", "unpick", "(I)I"⟩, prog_7_method_51_code, 2, (some .int)) := am_ck_of 882 (by decide +kernel)
theorem am_cd_163 : am_ck (⟨"SewnAheadModel", "undo", "(I)I"⟩, prog_7_method_52_code, 3, (some .int)) := am_ck_of 886 (by decide +kernel)
theorem am_cd_164 : am_ck (⟨"SewnAheadModel", "keep", "(I)I"⟩, prog_7_method_53_code, 2, (some .int)) := am_ck_of 890 (by decide +kernel)
theorem am_cd_165 : am_ck (⟨"SewnAheadModel", "on", "(I)I"⟩, prog_7_method_54_code, 2, (some .int)) := am_ck_of 894 (by decide +kernel)
theorem am_cd_166 : am_ck (⟨"SewnAheadModel", "happens", "(I)I"⟩, prog_7_method_55_code, 2, (some .int)) := am_ck_of 898 (by decide +kernel)
theorem am_cd_167 : am_ck (⟨"SewnAheadModel", "by", "(I)I"⟩, prog_7_method_56_code, 2, (some .int)) := am_ck_of 902 (by decide +kernel)
theorem am_cd_168 : am_ck (⟨"SewnAheadModel", "broken", "()I"⟩, prog_7_method_57_code, 5, (some .int)) := am_ck_of 906 (by decide +kernel)
theorem am_cd_169 : am_ck (⟨"SewnAheadModel", "has", "(II)Z"⟩, prog_7_method_4_code, 2, (some .boolean)) := am_ck_of 909 (by decide +kernel)
theorem am_cd_170 : am_ck (⟨"SewnAheadModel", "can", "(I)I"⟩, prog_7_method_60_code, 4, (some .int)) := am_ck_of 913 (by decide +kernel)
theorem am_cd_171 : am_ck (⟨"SewnAheadModel", "lays", "()V"⟩, prog_7_method_58_code, 1, none) := am_ck_of 917 (by decide +kernel)
theorem am_cd_172 : am_ck (⟨"SewnAheadModel", "putsBack", "()V"⟩, prog_7_method_59_code, 1, none) := am_ck_of 921 (by decide +kernel)
theorem am_cd_173 : am_ck (⟨"SewnAheadModel", "safe", "(I)I"⟩, prog_7_method_61_code, 6, (some .int)) := am_ck_of 925 (by decide +kernel)
theorem am_cd_174 : am_ck (⟨"SewnAheadModel", "least", "(III)I"⟩, prog_7_method_67_code, 5, (some .int)) := am_ck_of 929 (by decide +kernel)
theorem am_cd_175 : am_ck (⟨"SewnAheadModel", "fewest", "(II)I"⟩, prog_7_method_66_code, 8, (some .int)) := am_ck_of 933 (by decide +kernel)
theorem am_cd_176 : am_ck (⟨"SewnAheadModel", "plans", "()I"⟩, prog_7_method_62_code, 3, (some .int)) := am_ck_of 938 (by decide +kernel)
theorem am_cd_177 : am_ck (⟨"SewnAheadModel", "does", "(I)I"⟩, prog_7_method_64_code, 6, (some .int)) := am_ck_of 942 (by decide +kernel)
theorem am_cd_178 : am_ck (⟨"SewnAheadModel", "canBe", "(II)Z"⟩, prog_7_method_63_code, 3, (some .boolean)) := am_ck_of 946 (by decide +kernel)
theorem am_cd_179 : am_ck (⟨"SewnAheadModel", "tellsPlan", "(II)V"⟩, prog_7_method_65_code, 5, none) := am_ck_of 950 (by decide +kernel)
theorem am_cd_180 : am_ck (⟨"SewnAheadModel", "ways", "(III)I"⟩, prog_7_method_68_code, 9, (some .int)) := am_ck_of 954 (by decide +kernel)
theorem am_cd_181 : am_ck (⟨"SewnAheadModel", "avert", "(II)I"⟩, prog_7_method_69_code, 4, (some .int)) := am_ck_of 958 (by decide +kernel)
theorem am_cd_182 : am_ck (⟨"SewnAheadModel", "judge", "(I)I"⟩, prog_7_method_70_code, 6, (some .int)) := am_ck_of 962 (by decide +kernel)
theorem am_cd_183 : am_ck (⟨"SewnAheadModel", "happening", "()I"⟩, prog_7_method_40_code, 3, (some .int)) := am_ck_of 967 (by decide +kernel)
theorem am_cd_184 : am_ck (⟨"SewnAheadModel", "was", "(II)I"⟩, prog_7_method_73_code, 7, (some .int)) := am_ck_of 971 (by decide +kernel)
theorem am_cd_185 : am_ck (⟨"SewnAheadModel", "against", "(I)I"⟩, prog_7_method_71_code, 4, (some .int)) := am_ck_of 975 (by decide +kernel)
theorem am_cd_186 : am_ck (⟨"SewnAheadModel", "isSo", "(I)Z"⟩, prog_7_method_72_code, 4, (some .boolean)) := am_ck_of 979 (by decide +kernel)
theorem am_cd_187 : am_ck (⟨"SewnAheadModel", "kinds", "(II)I"⟩, prog_7_method_74_code, 7, (some .int)) := am_ck_of 983 (by decide +kernel)
theorem am_cd_188 : am_ck (⟨"SewnAheadModel", "needed", "()I"⟩, prog_7_method_75_code, 4, (some .int)) := am_ck_of 987 (by decide +kernel)
theorem am_cd_189 : am_ck (⟨"SewnAheadModel", "forged", "(I)I"⟩, prog_7_method_76_code, 9, (some .int)) := am_ck_of 991 (by decide +kernel)
theorem am_cd_190 : am_ck (⟨"SewnAheadModel", "odds", "(II)I"⟩, prog_7_method_78_code, 9, (some .int)) := am_ck_of 995 (by decide +kernel)
theorem am_cd_191 : am_ck (⟨"SewnAheadModel", "chance", "(II)I"⟩, prog_7_method_77_code, 6, (some .int)) := am_ck_of 999 (by decide +kernel)
theorem am_cd_192 : am_ck (⟨"SewnAheadModel", "lots", "(II)I"⟩, prog_7_method_79_code, 7, (some .int)) := am_ck_of 1003 (by decide +kernel)
theorem am_cd_193 : am_ck (⟨"SewnAheadModel", "asked", "()I"⟩, prog_7_method_80_code, 1, (some .int)) := am_ck_of 1012 (by decide +kernel)
theorem am_cd_194 : am_ck (⟨"SewnAheadModel", "upper", "()J"⟩, prog_7_method_81_code, 1, (some .long)) := am_ck_of 1016 (by decide +kernel)
theorem am_cd_195 : am_ck (⟨"SewnAheadModel", "lower", "()J"⟩, prog_7_method_82_code, 1, (some .long)) := am_ck_of 1020 (by decide +kernel)
theorem am_cd_196 : am_ck (⟨"SewnAheadModel", "count", "(I)I"⟩, prog_7_method_85_code, 2, (some .int)) := am_ck_of 1024 (by decide +kernel)
theorem am_cd_197 : am_ck (⟨"SewnAheadModel", "barsMany", "()I"⟩, prog_7_method_83_code, 3, (some .int)) := am_ck_of 1028 (by decide +kernel)
theorem am_cd_198 : am_ck (⟨"SewnAheadModel", "thereOf", "([II)I"⟩, prog_7_method_84_code, 4, (some .int)) := am_ck_of 1031 (by decide +kernel)
theorem am_cd_199 : am_ck (⟨"SewnAheadModel", "finding", "()I"⟩, prog_7_method_86_code, 1, (some .int)) := am_ck_of 1035 (by decide +kernel)
theorem am_cd_200 : am_ck (⟨"SewnAheadModel", "findings", "(I)I"⟩, prog_7_method_87_code, 2, (some .int)) := am_ck_of 1039 (by decide +kernel)
theorem am_cd_201 : am_ck (⟨"SewnAheadModel", "digest", "()J"⟩, prog_7_method_89_code, 3, (some .long)) := am_ck_of 1043 (by decide +kernel)
theorem am_cd_202 : am_ck (⟨"SewnAheadModel", "mix", "(J)V"⟩, prog_7_method_88_code, 3, none) := am_ck_of 1049 (by decide +kernel)
theorem am_cm_0 : ∀ q ∈ am_mt_0, am_ck q := List.forall_mem_cons.mpr ⟨am_cd_0, List.forall_mem_cons.mpr ⟨am_cd_1, List.forall_mem_cons.mpr ⟨am_cd_2, List.forall_mem_cons.mpr ⟨am_cd_3, List.forall_mem_cons.mpr ⟨am_cd_4, List.forall_mem_cons.mpr ⟨am_cd_5, List.forall_mem_cons.mpr ⟨am_cd_6, List.forall_mem_cons.mpr ⟨am_cd_7, List.forall_mem_cons.mpr ⟨am_cd_8, List.forall_mem_cons.mpr ⟨am_cd_9, List.forall_mem_cons.mpr ⟨am_cd_10, List.forall_mem_cons.mpr ⟨am_cd_11, List.forall_mem_cons.mpr ⟨am_cd_12, List.forall_mem_cons.mpr ⟨am_cd_13, List.forall_mem_cons.mpr ⟨am_cd_14, List.forall_mem_cons.mpr ⟨am_cd_15, fun _ h => absurd h List.not_mem_nil⟩⟩⟩⟩⟩⟩⟩⟩⟩⟩⟩⟩⟩⟩⟩⟩
theorem am_cm_1 : ∀ q ∈ am_mt_1, am_ck q := List.forall_mem_cons.mpr ⟨am_cd_16, List.forall_mem_cons.mpr ⟨am_cd_17, List.forall_mem_cons.mpr ⟨am_cd_18, List.forall_mem_cons.mpr ⟨am_cd_19, List.forall_mem_cons.mpr ⟨am_cd_20, List.forall_mem_cons.mpr ⟨am_cd_21, List.forall_mem_cons.mpr ⟨am_cd_22, List.forall_mem_cons.mpr ⟨am_cd_23, List.forall_mem_cons.mpr ⟨am_cd_24, List.forall_mem_cons.mpr ⟨am_cd_25, List.forall_mem_cons.mpr ⟨am_cd_26, List.forall_mem_cons.mpr ⟨am_cd_27, List.forall_mem_cons.mpr ⟨am_cd_28, List.forall_mem_cons.mpr ⟨am_cd_29, List.forall_mem_cons.mpr ⟨am_cd_30, List.forall_mem_cons.mpr ⟨am_cd_31, fun _ h => absurd h List.not_mem_nil⟩⟩⟩⟩⟩⟩⟩⟩⟩⟩⟩⟩⟩⟩⟩⟩
theorem am_cm_2 : ∀ q ∈ am_mt_2, am_ck q := List.forall_mem_cons.mpr ⟨am_cd_32, List.forall_mem_cons.mpr ⟨am_cd_33, List.forall_mem_cons.mpr ⟨am_cd_34, List.forall_mem_cons.mpr ⟨am_cd_35, List.forall_mem_cons.mpr ⟨am_cd_36, List.forall_mem_cons.mpr ⟨am_cd_37, List.forall_mem_cons.mpr ⟨am_cd_38, List.forall_mem_cons.mpr ⟨am_cd_39, List.forall_mem_cons.mpr ⟨am_cd_40, List.forall_mem_cons.mpr ⟨am_cd_41, List.forall_mem_cons.mpr ⟨am_cd_42, List.forall_mem_cons.mpr ⟨am_cd_43, List.forall_mem_cons.mpr ⟨am_cd_44, List.forall_mem_cons.mpr ⟨am_cd_45, List.forall_mem_cons.mpr ⟨am_cd_46, List.forall_mem_cons.mpr ⟨am_cd_47, fun _ h => absurd h List.not_mem_nil⟩⟩⟩⟩⟩⟩⟩⟩⟩⟩⟩⟩⟩⟩⟩⟩
theorem am_cm_3 : ∀ q ∈ am_mt_3, am_ck q := List.forall_mem_cons.mpr ⟨am_cd_48, List.forall_mem_cons.mpr ⟨am_cd_49, List.forall_mem_cons.mpr ⟨am_cd_50, List.forall_mem_cons.mpr ⟨am_cd_51, List.forall_mem_cons.mpr ⟨am_cd_52, List.forall_mem_cons.mpr ⟨am_cd_53, List.forall_mem_cons.mpr ⟨am_cd_54, List.forall_mem_cons.mpr ⟨am_cd_55, List.forall_mem_cons.mpr ⟨am_cd_56, List.forall_mem_cons.mpr ⟨am_cd_57, List.forall_mem_cons.mpr ⟨am_cd_58, List.forall_mem_cons.mpr ⟨am_cd_59, List.forall_mem_cons.mpr ⟨am_cd_60, List.forall_mem_cons.mpr ⟨am_cd_61, List.forall_mem_cons.mpr ⟨am_cd_62, List.forall_mem_cons.mpr ⟨am_cd_63, fun _ h => absurd h List.not_mem_nil⟩⟩⟩⟩⟩⟩⟩⟩⟩⟩⟩⟩⟩⟩⟩⟩
theorem am_cm_4 : ∀ q ∈ am_mt_4, am_ck q := List.forall_mem_cons.mpr ⟨am_cd_64, List.forall_mem_cons.mpr ⟨am_cd_65, List.forall_mem_cons.mpr ⟨am_cd_66, List.forall_mem_cons.mpr ⟨am_cd_67, List.forall_mem_cons.mpr ⟨am_cd_68, List.forall_mem_cons.mpr ⟨am_cd_69, List.forall_mem_cons.mpr ⟨am_cd_70, List.forall_mem_cons.mpr ⟨am_cd_71, List.forall_mem_cons.mpr ⟨am_cd_72, List.forall_mem_cons.mpr ⟨am_cd_73, List.forall_mem_cons.mpr ⟨am_cd_74, List.forall_mem_cons.mpr ⟨am_cd_75, List.forall_mem_cons.mpr ⟨am_cd_76, List.forall_mem_cons.mpr ⟨am_cd_77, List.forall_mem_cons.mpr ⟨am_cd_78, List.forall_mem_cons.mpr ⟨am_cd_79, fun _ h => absurd h List.not_mem_nil⟩⟩⟩⟩⟩⟩⟩⟩⟩⟩⟩⟩⟩⟩⟩⟩
theorem am_cm_5 : ∀ q ∈ am_mt_5, am_ck q := List.forall_mem_cons.mpr ⟨am_cd_80, List.forall_mem_cons.mpr ⟨am_cd_81, List.forall_mem_cons.mpr ⟨am_cd_82, List.forall_mem_cons.mpr ⟨am_cd_83, List.forall_mem_cons.mpr ⟨am_cd_84, List.forall_mem_cons.mpr ⟨am_cd_85, List.forall_mem_cons.mpr ⟨am_cd_86, List.forall_mem_cons.mpr ⟨am_cd_87, List.forall_mem_cons.mpr ⟨am_cd_88, List.forall_mem_cons.mpr ⟨am_cd_89, List.forall_mem_cons.mpr ⟨am_cd_90, List.forall_mem_cons.mpr ⟨am_cd_91, List.forall_mem_cons.mpr ⟨am_cd_92, List.forall_mem_cons.mpr ⟨am_cd_93, List.forall_mem_cons.mpr ⟨am_cd_94, List.forall_mem_cons.mpr ⟨am_cd_95, fun _ h => absurd h List.not_mem_nil⟩⟩⟩⟩⟩⟩⟩⟩⟩⟩⟩⟩⟩⟩⟩⟩
theorem am_cm_6 : ∀ q ∈ am_mt_6, am_ck q := List.forall_mem_cons.mpr ⟨am_cd_96, List.forall_mem_cons.mpr ⟨am_cd_97, List.forall_mem_cons.mpr ⟨am_cd_98, List.forall_mem_cons.mpr ⟨am_cd_99, List.forall_mem_cons.mpr ⟨am_cd_100, List.forall_mem_cons.mpr ⟨am_cd_101, List.forall_mem_cons.mpr ⟨am_cd_102, List.forall_mem_cons.mpr ⟨am_cd_103, List.forall_mem_cons.mpr ⟨am_cd_104, List.forall_mem_cons.mpr ⟨am_cd_105, List.forall_mem_cons.mpr ⟨am_cd_106, List.forall_mem_cons.mpr ⟨am_cd_107, List.forall_mem_cons.mpr ⟨am_cd_108, List.forall_mem_cons.mpr ⟨am_cd_109, List.forall_mem_cons.mpr ⟨am_cd_110, List.forall_mem_cons.mpr ⟨am_cd_111, fun _ h => absurd h List.not_mem_nil⟩⟩⟩⟩⟩⟩⟩⟩⟩⟩⟩⟩⟩⟩⟩⟩
theorem am_cm_7 : ∀ q ∈ am_mt_7, am_ck q := List.forall_mem_cons.mpr ⟨am_cd_112, List.forall_mem_cons.mpr ⟨am_cd_113, List.forall_mem_cons.mpr ⟨am_cd_114, List.forall_mem_cons.mpr ⟨am_cd_115, List.forall_mem_cons.mpr ⟨am_cd_116, List.forall_mem_cons.mpr ⟨am_cd_117, List.forall_mem_cons.mpr ⟨am_cd_118, List.forall_mem_cons.mpr ⟨am_cd_119, List.forall_mem_cons.mpr ⟨am_cd_120, List.forall_mem_cons.mpr ⟨am_cd_121, List.forall_mem_cons.mpr ⟨am_cd_122, List.forall_mem_cons.mpr ⟨am_cd_123, List.forall_mem_cons.mpr ⟨am_cd_124, List.forall_mem_cons.mpr ⟨am_cd_125, List.forall_mem_cons.mpr ⟨am_cd_126, List.forall_mem_cons.mpr ⟨am_cd_127, fun _ h => absurd h List.not_mem_nil⟩⟩⟩⟩⟩⟩⟩⟩⟩⟩⟩⟩⟩⟩⟩⟩
theorem am_cm_8 : ∀ q ∈ am_mt_8, am_ck q := List.forall_mem_cons.mpr ⟨am_cd_128, List.forall_mem_cons.mpr ⟨am_cd_129, List.forall_mem_cons.mpr ⟨am_cd_130, List.forall_mem_cons.mpr ⟨am_cd_131, List.forall_mem_cons.mpr ⟨am_cd_132, List.forall_mem_cons.mpr ⟨am_cd_133, List.forall_mem_cons.mpr ⟨am_cd_134, List.forall_mem_cons.mpr ⟨am_cd_135, List.forall_mem_cons.mpr ⟨am_cd_136, List.forall_mem_cons.mpr ⟨am_cd_137, List.forall_mem_cons.mpr ⟨am_cd_138, List.forall_mem_cons.mpr ⟨am_cd_139, List.forall_mem_cons.mpr ⟨am_cd_140, List.forall_mem_cons.mpr ⟨am_cd_141, List.forall_mem_cons.mpr ⟨am_cd_142, List.forall_mem_cons.mpr ⟨am_cd_143, fun _ h => absurd h List.not_mem_nil⟩⟩⟩⟩⟩⟩⟩⟩⟩⟩⟩⟩⟩⟩⟩⟩
theorem am_cm_9 : ∀ q ∈ am_mt_9, am_ck q := List.forall_mem_cons.mpr ⟨am_cd_144, List.forall_mem_cons.mpr ⟨am_cd_145, List.forall_mem_cons.mpr ⟨am_cd_146, List.forall_mem_cons.mpr ⟨am_cd_147, List.forall_mem_cons.mpr ⟨am_cd_148, List.forall_mem_cons.mpr ⟨am_cd_149, List.forall_mem_cons.mpr ⟨am_cd_150, List.forall_mem_cons.mpr ⟨am_cd_151, List.forall_mem_cons.mpr ⟨am_cd_152, List.forall_mem_cons.mpr ⟨am_cd_153, List.forall_mem_cons.mpr ⟨am_cd_154, List.forall_mem_cons.mpr ⟨am_cd_155, List.forall_mem_cons.mpr ⟨am_cd_156, List.forall_mem_cons.mpr ⟨am_cd_157, List.forall_mem_cons.mpr ⟨am_cd_158, List.forall_mem_cons.mpr ⟨am_cd_159, fun _ h => absurd h List.not_mem_nil⟩⟩⟩⟩⟩⟩⟩⟩⟩⟩⟩⟩⟩⟩⟩⟩
theorem am_cm_10 : ∀ q ∈ am_mt_10, am_ck q := List.forall_mem_cons.mpr ⟨am_cd_160, List.forall_mem_cons.mpr ⟨am_cd_161, List.forall_mem_cons.mpr ⟨am_cd_162, List.forall_mem_cons.mpr ⟨am_cd_163, List.forall_mem_cons.mpr ⟨am_cd_164, List.forall_mem_cons.mpr ⟨am_cd_165, List.forall_mem_cons.mpr ⟨am_cd_166, List.forall_mem_cons.mpr ⟨am_cd_167, List.forall_mem_cons.mpr ⟨am_cd_168, List.forall_mem_cons.mpr ⟨am_cd_169, List.forall_mem_cons.mpr ⟨am_cd_170, List.forall_mem_cons.mpr ⟨am_cd_171, List.forall_mem_cons.mpr ⟨am_cd_172, List.forall_mem_cons.mpr ⟨am_cd_173, List.forall_mem_cons.mpr ⟨am_cd_174, List.forall_mem_cons.mpr ⟨am_cd_175, fun _ h => absurd h List.not_mem_nil⟩⟩⟩⟩⟩⟩⟩⟩⟩⟩⟩⟩⟩⟩⟩⟩
theorem am_cm_11 : ∀ q ∈ am_mt_11, am_ck q := List.forall_mem_cons.mpr ⟨am_cd_176, List.forall_mem_cons.mpr ⟨am_cd_177, List.forall_mem_cons.mpr ⟨am_cd_178, List.forall_mem_cons.mpr ⟨am_cd_179, List.forall_mem_cons.mpr ⟨am_cd_180, List.forall_mem_cons.mpr ⟨am_cd_181, List.forall_mem_cons.mpr ⟨am_cd_182, List.forall_mem_cons.mpr ⟨am_cd_183, List.forall_mem_cons.mpr ⟨am_cd_184, List.forall_mem_cons.mpr ⟨am_cd_185, List.forall_mem_cons.mpr ⟨am_cd_186, List.forall_mem_cons.mpr ⟨am_cd_187, List.forall_mem_cons.mpr ⟨am_cd_188, List.forall_mem_cons.mpr ⟨am_cd_189, List.forall_mem_cons.mpr ⟨am_cd_190, List.forall_mem_cons.mpr ⟨am_cd_191, fun _ h => absurd h List.not_mem_nil⟩⟩⟩⟩⟩⟩⟩⟩⟩⟩⟩⟩⟩⟩⟩⟩
theorem am_cm_12 : ∀ q ∈ am_mt_12, am_ck q := List.forall_mem_cons.mpr ⟨am_cd_192, List.forall_mem_cons.mpr ⟨am_cd_193, List.forall_mem_cons.mpr ⟨am_cd_194, List.forall_mem_cons.mpr ⟨am_cd_195, List.forall_mem_cons.mpr ⟨am_cd_196, List.forall_mem_cons.mpr ⟨am_cd_197, List.forall_mem_cons.mpr ⟨am_cd_198, List.forall_mem_cons.mpr ⟨am_cd_199, List.forall_mem_cons.mpr ⟨am_cd_200, List.forall_mem_cons.mpr ⟨am_cd_201, List.forall_mem_cons.mpr ⟨am_cd_202, fun _ h => absurd h List.not_mem_nil⟩⟩⟩⟩⟩⟩⟩⟩⟩⟩⟩
theorem am_cm : ∀ q ∈ am_mt0, am_ck q := List.forall_mem_append.mpr ⟨am_cm_0, List.forall_mem_append.mpr ⟨am_cm_1, List.forall_mem_append.mpr ⟨am_cm_2, List.forall_mem_append.mpr ⟨am_cm_3, List.forall_mem_append.mpr ⟨am_cm_4, List.forall_mem_append.mpr ⟨am_cm_5, List.forall_mem_append.mpr ⟨am_cm_6, List.forall_mem_append.mpr ⟨am_cm_7, List.forall_mem_append.mpr ⟨am_cm_8, List.forall_mem_append.mpr ⟨am_cm_9, List.forall_mem_append.mpr ⟨am_cm_10, List.forall_mem_append.mpr ⟨am_cm_11, am_cm_12⟩⟩⟩⟩⟩⟩⟩⟩⟩⟩⟩⟩
def am_md : MethodName × ByteArray × Nat × Option FieldType := (⟨"", "", ""⟩, .empty, 0, none)
abbrev am_y (i : Nat) : MethodName := (am_mt.getD i am_md).1
abbrev am_c (i : Nat) : ByteArray := (am_mt.getD i am_md).2.1
abbrev am_l (i : Nat) : Nat := (am_mt.getD i am_md).2.2.1
abbrev am_r (i : Nat) : Option FieldType := (am_mt.getD i am_md).2.2.2
theorem am_bigw {args : Array Value} {s : State} (h : ∀ w ∈ lw_tbl, w.before args s = true) : ∀ w ∈ am_big, w.before args s = true := fun w hw => h w (List.mem_filter.mp hw).1
theorem am_bigg {w : Cond} (h : w ∈ am_big) : w ∈ am_big ∧ ((w.onTables && w.keeps) = true ∨ ∃ ty, w = .arrayClass ty) := ⟨h, good_of_word (List.mem_filter.mp h).2⟩
theorem am_mtl : am_mt0.length = 203 := by decide +kernel
theorem am_code {i : Nat} (h : i < 203) : Cond.code (am_y i) (am_c i) (am_l i) (am_r i) ∈ am_big := by
  have h0 : i < am_mt0.length := by rw [am_mtl]; exact h
  have e : am_mt.getD i am_md = am_mt0[i] := by
    rw [List.getD_eq_getElem?_getD, am_mt, List.getElem?_append_left h0, List.getElem?_eq_getElem h0]; rfl
  have := am_cm am_mt0[i] (List.getElem_mem h0)
  unfold am_y am_c am_l am_r
  rw [e]
  exact this

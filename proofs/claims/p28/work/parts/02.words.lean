/-- one list of words for all methods: what the tables say that a call keeps -/
def wAll : List Cond := lw_tbl.filter goodWord
theorem wA {w : Cond} (h : w ∈ lw_tbl) (g : goodWord w = true) : w ∈ wAll := List.mem_filter.mpr ⟨h, g⟩
theorem tb0 {w : Cond} {i : Nat} (h : (k2_sels lw_privs)[i]? = some w) : w ∈ lw_tbl := List.mem_append_left _ (List.mem_of_getElem? h)
theorem tb1 {w : Cond} {i : Nat} (h : tables_1_1[i]? = some w) : w ∈ lw_tbl := List.mem_append_right _ (List.mem_append_left _ (List.mem_of_getElem? h))
theorem tb2 {w : Cond} {i : Nat} (h : tables_1_2[i]? = some w) : w ∈ lw_tbl := List.mem_append_right _ (List.mem_append_right _ (List.mem_append_left _ (List.mem_of_getElem? h)))
theorem tb3 {w : Cond} {i : Nat} (h : tables_1_3[i]? = some w) : w ∈ lw_tbl := List.mem_append_right _ (List.mem_append_right _ (List.mem_append_right _ (List.mem_of_getElem? h)))
theorem kV_X5_orderTails : Cond.selects RX5 yX5_orderTails yX5_orderTails ∈ wAll := wA (tb0 (i := 0) (by rfl)) rfl
theorem kV_X0_row : Cond.selects RX0 yX0_row yX0_row ∈ wAll := wA (tb0 (i := 1) (by rfl)) rfl
theorem kV_X6_makeAsChange : Cond.selects RX6 yX6_makeAsChange yX6_makeAsChange ∈ wAll := wA (tb0 (i := 2) (by rfl)) rfl
theorem kV_X2_arrive : Cond.selects RX2 yX2_arrive yX2_arrive ∈ wAll := wA (tb0 (i := 3) (by rfl)) rfl
theorem kV_X6_preparedWorths : Cond.selects RX6 yX6_preparedWorths yX6_preparedWorths ∈ wAll := wA (tb0 (i := 4) (by rfl)) rfl
theorem kV_X5_fillRests : Cond.selects RX5 yX5_fillRests yX5_fillRests ∈ wAll := wA (tb0 (i := 5) (by rfl)) rfl
theorem kV_X5_tellInto : Cond.selects RX5 yX5_tellInto yX5_tellInto ∈ wAll := wA (tb0 (i := 6) (by rfl)) rfl
theorem kV_X5_after : Cond.selects RX5 yX5_after yX5_after ∈ wAll := wA (tb0 (i := 7) (by rfl)) rfl
theorem kV_X5_greatestInto : Cond.selects RX5 yX5_greatestInto yX5_greatestInto ∈ wAll := wA (tb0 (i := 8) (by rfl)) rfl
theorem kV_X5_isPossible : Cond.selects RX5 yX5_isPossible yX5_isPossible ∈ wAll := wA (tb0 (i := 9) (by rfl)) rfl
theorem kV_X5_worthBy : Cond.selects RX5 yX5_worthBy yX5_worthBy ∈ wAll := wA (tb0 (i := 10) (by rfl)) rfl
theorem kV_X5_gather : Cond.selects RX5 yX5_gather yX5_gather ∈ wAll := wA (tb0 (i := 11) (by rfl)) rfl
theorem kV_X5_guessAllAfter : Cond.selects RX5 yX5_guessAllAfter yX5_guessAllAfter ∈ wAll := wA (tb0 (i := 12) (by rfl)) rfl
theorem kV_X5_sweep : Cond.selects RX5 yX5_sweep yX5_sweep ∈ wAll := wA (tb0 (i := 13) (by rfl)) rfl
theorem kV_X5_greatestSwept : Cond.selects RX5 yX5_greatestSwept yX5_greatestSwept ∈ wAll := wA (tb0 (i := 14) (by rfl)) rfl
theorem kZ_L : Cond.initialized RL ∈ wAll := wA (tb1 (i := 0) (by rfl)) rfl
theorem kZ_X6 : Cond.initialized RX6 ∈ wAll := wA (tb1 (i := 1) (by rfl)) rfl
theorem kZ_X2 : Cond.initialized RX2 ∈ wAll := wA (tb1 (i := 2) (by rfl)) rfl
theorem kZ_X3 : Cond.initialized RX3 ∈ wAll := wA (tb1 (i := 3) (by rfl)) rfl
theorem kZ_X4 : Cond.initialized RX4 ∈ wAll := wA (tb1 (i := 4) (by rfl)) rfl
theorem kZ_X0 : Cond.initialized RX0 ∈ wAll := wA (tb1 (i := 5) (by rfl)) rfl
theorem kZ_X1 : Cond.initialized RX1 ∈ wAll := wA (tb1 (i := 6) (by rfl)) rfl
theorem kZ_X5 : Cond.initialized RX5 ∈ wAll := wA (tb1 (i := 7) (by rfl)) rfl
theorem kZ_J6 : Cond.initialized RJ6 ∈ wAll := wA (tb1 (i := 8) (by rfl)) rfl
theorem kZ_J9 : Cond.initialized RJ9 ∈ wAll := wA (tb1 (i := 9) (by rfl)) rfl
theorem kC_L_13 : Cond.classLink RL 13 RX6 ∈ wAll := wA (tb1 (i := 10) (by rfl)) rfl
theorem kI_X6 : Cond.instantiable RX6 9 ∈ wAll := wA (tb1 (i := 11) (by rfl)) rfl
theorem kM_L_77 : Cond.methodLink RL 77 yX6_init ∈ wAll := wA (tb1 (i := 12) (by rfl)) rfl
theorem kN_X6_init : Cond.instanceMethod yX6_init ∈ wAll := wA (tb1 (i := 13) (by rfl)) rfl
theorem kK_X6_init : Cond.code yX6_init cX6_init 1 none ∈ wAll := wA (tb1 (i := 14) (by rfl)) rfl
theorem kM_X6_1 : Cond.methodLink RX6 1 objectInit ∈ wAll := wA (tb1 (i := 15) (by rfl)) rfl
theorem kN_obj : Cond.instanceMethod objectInit ∈ wAll := wA (tb1 (i := 16) (by rfl)) rfl
theorem kK_obj : Cond.code objectInit ⟨#[0xb1]⟩ 1 none ∈ wAll := wA (tb1 (i := 17) (by rfl)) rfl
theorem kC_X6_7 : Cond.classLink RX6 7 RX2 ∈ wAll := wA (tb1 (i := 18) (by rfl)) rfl
theorem kI_X2 : Cond.instantiable RX2 11 ∈ wAll := wA (tb1 (i := 19) (by rfl)) rfl
theorem kM_X6_9 : Cond.methodLink RX6 9 yX2_init ∈ wAll := wA (tb1 (i := 20) (by rfl)) rfl
theorem kN_X2_init : Cond.instanceMethod yX2_init ∈ wAll := wA (tb1 (i := 21) (by rfl)) rfl
theorem kK_X2_init : Cond.code yX2_init cX2_init 1 none ∈ wAll := wA (tb1 (i := 22) (by rfl)) rfl
theorem kM_X2_3 : Cond.methodLink RX2 3 objectInit ∈ wAll := wA (tb1 (i := 23) (by rfl)) rfl
theorem kC_X2_9 : Cond.classLink RX2 9 RX3 ∈ wAll := wA (tb1 (i := 24) (by rfl)) rfl
theorem kI_X3 : Cond.instantiable RX3 2 ∈ wAll := wA (tb1 (i := 25) (by rfl)) rfl
theorem kN_X3_init : Cond.instanceMethod yX3_init ∈ wAll := wA (tb1 (i := 27) (by rfl)) rfl
theorem kK_X3_init : Cond.code yX3_init cX3_init 1 none ∈ wAll := wA (tb1 (i := 28) (by rfl)) rfl
theorem kM_X3_3 : Cond.methodLink RX3 3 objectInit ∈ wAll := wA (tb1 (i := 29) (by rfl)) rfl
theorem kF_X3_9 : Cond.fieldLink RX3 9 "WagonLeaps$Road" "kinds" "[I" ∈ wAll := wA (tb1 (i := 30) (by rfl)) rfl
theorem kF_X3_15 : Cond.fieldLink RX3 15 "WagonLeaps$Road" "miles" "I" ∈ wAll := wA (tb1 (i := 33) (by rfl)) rfl
theorem kA_int : Cond.arrayClass .int ∈ wAll := wA (tb1 (i := 42) (by rfl)) rfl
theorem kC_X2_18 : Cond.classLink RX2 18 RX4 ∈ wAll := wA (tb1 (i := 43) (by rfl)) rfl
theorem kI_X4 : Cond.instantiable RX4 9 ∈ wAll := wA (tb1 (i := 44) (by rfl)) rfl
theorem kN_X4_init : Cond.instanceMethod yX4_init ∈ wAll := wA (tb1 (i := 46) (by rfl)) rfl
theorem kK_X4_init : Cond.code yX4_init cX4_init 1 none ∈ wAll := wA (tb1 (i := 47) (by rfl)) rfl
theorem kM_X4_3 : Cond.methodLink RX4 3 objectInit ∈ wAll := wA (tb1 (i := 48) (by rfl)) rfl
theorem kF_X4_9 : Cond.fieldLink RX4 9 "WagonLeaps$Wagon" "stands" "[I" ∈ wAll := wA (tb1 (i := 49) (by rfl)) rfl
theorem kF_X4_19 : Cond.fieldLink RX4 19 "WagonLeaps$Wagon" "place" "I" ∈ wAll := wA (tb1 (i := 51) (by rfl)) rfl
theorem kF_X4_23 : Cond.fieldLink RX4 23 "WagonLeaps$Wagon" "hasToken" "Z" ∈ wAll := wA (tb1 (i := 55) (by rfl)) rfl
theorem kF_X4_27 : Cond.fieldLink RX4 27 "WagonLeaps$Wagon" "loses" "I" ∈ wAll := wA (tb1 (i := 58) (by rfl)) rfl
theorem kF_X4_30 : Cond.fieldLink RX4 30 "WagonLeaps$Wagon" "turns" "I" ∈ wAll := wA (tb1 (i := 62) (by rfl)) rfl
theorem kF_X4_33 : Cond.fieldLink RX4 33 "WagonLeaps$Wagon" "lost" "I" ∈ wAll := wA (tb1 (i := 64) (by rfl)) rfl
theorem kF_X4_36 : Cond.fieldLink RX4 36 "WagonLeaps$Wagon" "leaps" "I" ∈ wAll := wA (tb1 (i := 65) (by rfl)) rfl
theorem kF_X4_39 : Cond.fieldLink RX4 39 "WagonLeaps$Wagon" "used" "I" ∈ wAll := wA (tb1 (i := 66) (by rfl)) rfl
theorem kF_X4_42 : Cond.fieldLink RX4 42 "WagonLeaps$Wagon" "rolled" "I" ∈ wAll := wA (tb1 (i := 67) (by rfl)) rfl
theorem kM_X2_44 : Cond.methodLink RX2 44 yX2_begin ∈ wAll := wA (tb1 (i := 87) (by rfl)) rfl
theorem kN_X2_begin : Cond.instanceMethod yX2_begin ∈ wAll := wA (tb1 (i := 88) (by rfl)) rfl
theorem kV_X2_begin : Cond.selects RX2 yX2_begin yX2_begin ∈ wAll := wA (tb1 (i := 89) (by rfl)) rfl
theorem kK_X2_begin : Cond.code yX2_begin cX2_begin 1 none ∈ wAll := wA (tb1 (i := 90) (by rfl)) rfl
theorem kM_X2_47 : Cond.methodLink RX2 47 yX4_begin ∈ wAll := wA (tb1 (i := 91) (by rfl)) rfl
theorem kN_X4_begin : Cond.instanceMethod yX4_begin ∈ wAll := wA (tb1 (i := 92) (by rfl)) rfl
theorem kV_X4_begin : Cond.selects RX4 yX4_begin yX4_begin ∈ wAll := wA (tb1 (i := 93) (by rfl)) rfl
theorem kK_X4_begin : Cond.code yX4_begin cX4_begin 1 none ∈ wAll := wA (tb1 (i := 94) (by rfl)) rfl
theorem kS_X6_fillRow : Cond.static yX6_fillRow ∈ wAll := wA (tb1 (i := 96) (by rfl)) rfl
theorem kK_X6_fillRow : Cond.code yX6_fillRow cX6_fillRow 3 none ∈ wAll := wA (tb1 (i := 97) (by rfl)) rfl
theorem kF_X2_12 : Cond.fieldLink RX2 12 "WagonLeaps$Race" "way" "LWagonLeaps$Road;" ∈ wAll := wA (tb1 (i := 98) (by rfl)) rfl
theorem kF_X2_21 : Cond.fieldLink RX2 21 "WagonLeaps$Race" "zero" "LWagonLeaps$Wagon;" ∈ wAll := wA (tb1 (i := 101) (by rfl)) rfl
theorem kF_X2_25 : Cond.fieldLink RX2 25 "WagonLeaps$Race" "one" "LWagonLeaps$Wagon;" ∈ wAll := wA (tb1 (i := 103) (by rfl)) rfl
theorem kF_X2_28 : Cond.fieldLink RX2 28 "WagonLeaps$Race" "pace" "I" ∈ wAll := wA (tb1 (i := 105) (by rfl)) rfl
theorem kF_X2_32 : Cond.fieldLink RX2 32 "WagonLeaps$Race" "stop" "I" ∈ wAll := wA (tb1 (i := 108) (by rfl)) rfl
theorem kF_X2_48 : Cond.fieldLink RX2 48 "WagonLeaps$Race" "onTurn" "I" ∈ wAll := wA (tb1 (i := 111) (by rfl)) rfl
theorem kF_X2_51 : Cond.fieldLink RX2 51 "WagonLeaps$Race" "winner" "I" ∈ wAll := wA (tb1 (i := 113) (by rfl)) rfl
theorem kF_X2_54 : Cond.fieldLink RX2 54 "WagonLeaps$Race" "turns" "I" ∈ wAll := wA (tb1 (i := 115) (by rfl)) rfl
theorem kF_X2_35 : Cond.fieldLink RX2 35 "WagonLeaps$Race" "began" "I" ∈ wAll := wA (tb1 (i := 117) (by rfl)) rfl
theorem kF_X2_38 : Cond.fieldLink RX2 38 "WagonLeaps$Race" "wonByZero" "I" ∈ wAll := wA (tb1 (i := 119) (by rfl)) rfl
theorem kF_X2_41 : Cond.fieldLink RX2 41 "WagonLeaps$Race" "wonByOne" "I" ∈ wAll := wA (tb1 (i := 121) (by rfl)) rfl
theorem kC_X6_22 : Cond.classLink RX6 22 RX0 ∈ wAll := wA (tb1 (i := 146) (by rfl)) rfl
theorem kI_X0 : Cond.instantiable RX0 3 ∈ wAll := wA (tb1 (i := 147) (by rfl)) rfl
theorem kM_X6_24 : Cond.methodLink RX6 24 yX0_init ∈ wAll := wA (tb1 (i := 148) (by rfl)) rfl
theorem kN_X0_init : Cond.instanceMethod yX0_init ∈ wAll := wA (tb1 (i := 149) (by rfl)) rfl
theorem kK_X0_init : Cond.code yX0_init cX0_init 2 none ∈ wAll := wA (tb1 (i := 150) (by rfl)) rfl
theorem kM_X0_1 : Cond.methodLink RX0 1 objectInit ∈ wAll := wA (tb1 (i := 151) (by rfl)) rfl
theorem kC_X0_9 : Cond.classLink RX0 9 RX2 ∈ wAll := wA (tb1 (i := 152) (by rfl)) rfl
theorem kM_X0_22 : Cond.methodLink RX0 22 yX2_init ∈ wAll := wA (tb1 (i := 154) (by rfl)) rfl
theorem kF_X0_11 : Cond.fieldLink RX0 11 "WagonLeaps$History" "rows" "[LWagonLeaps$Race;" ∈ wAll := wA (tb1 (i := 155) (by rfl)) rfl
theorem kF_X0_15 : Cond.fieldLink RX0 15 "WagonLeaps$History" "first" "I" ∈ wAll := wA (tb1 (i := 156) (by rfl)) rfl
theorem kF_X0_19 : Cond.fieldLink RX0 19 "WagonLeaps$History" "states" "I" ∈ wAll := wA (tb1 (i := 157) (by rfl)) rfl
theorem kC_X6_29 : Cond.classLink RX6 29 RX1 ∈ wAll := wA (tb1 (i := 166) (by rfl)) rfl
theorem kI_X1 : Cond.instantiable RX1 2 ∈ wAll := wA (tb1 (i := 167) (by rfl)) rfl
theorem kN_X1_init : Cond.instanceMethod yX1_init ∈ wAll := wA (tb1 (i := 169) (by rfl)) rfl
theorem kK_X1_init : Cond.code yX1_init cX1_init 1 none ∈ wAll := wA (tb1 (i := 170) (by rfl)) rfl
theorem kM_X1_3 : Cond.methodLink RX1 3 objectInit ∈ wAll := wA (tb1 (i := 171) (by rfl)) rfl
theorem kF_X1_11 : Cond.fieldLink RX1 11 "WagonLeaps$Pad" "signs" "[I" ∈ wAll := wA (tb1 (i := 172) (by rfl)) rfl
theorem kF_X1_15 : Cond.fieldLink RX1 15 "WagonLeaps$Pad" "length" "I" ∈ wAll := wA (tb1 (i := 173) (by rfl)) rfl
theorem kC_X6_36 : Cond.classLink RX6 36 RX5 ∈ wAll := wA (tb1 (i := 180) (by rfl)) rfl
theorem kI_X5 : Cond.instantiable RX5 9 ∈ wAll := wA (tb1 (i := 181) (by rfl)) rfl
theorem kM_X6_38 : Cond.methodLink RX6 38 yX5_init ∈ wAll := wA (tb1 (i := 182) (by rfl)) rfl
theorem kN_X5_init : Cond.instanceMethod yX5_init ∈ wAll := wA (tb1 (i := 183) (by rfl)) rfl
theorem kK_X5_init : Cond.code yX5_init cX5_init 1 none ∈ wAll := wA (tb1 (i := 184) (by rfl)) rfl
theorem kM_X5_3 : Cond.methodLink RX5 3 objectInit ∈ wAll := wA (tb1 (i := 185) (by rfl)) rfl
theorem kC_X5_9 : Cond.classLink RX5 9 RX3 ∈ wAll := wA (tb1 (i := 186) (by rfl)) rfl
theorem kM_X5_44 : Cond.methodLink RX5 44 yX5_orderTails ∈ wAll := wA (tb1 (i := 188) (by rfl)) rfl
theorem kN_X5_orderTails : Cond.instanceMethod yX5_orderTails ∈ wAll := wA (tb1 (i := 190) (by rfl)) rfl
theorem kK_X5_orderTails : Cond.code yX5_orderTails cX5_orderTails 5 none ∈ wAll := wA (tb1 (i := 191) (by rfl)) rfl
theorem kM_X5_47 : Cond.methodLink RX5 47 yJ6_bitCount_0f7a4 ∈ wAll := wA (tb1 (i := 192) (by rfl)) rfl
theorem kS_J6_bitCount_0f7a4 : Cond.static yJ6_bitCount_0f7a4 ∈ wAll := wA (tb1 (i := 193) (by rfl)) rfl
theorem kK_J6_bitCount_0f7a4 : Cond.code yJ6_bitCount_0f7a4 cJ6_bitCount_0f7a4 1 (some (.int)) ∈ wAll := wA (tb1 (i := 194) (by rfl)) rfl
theorem kQ_J6_265 : Cond.constant RJ6 265 (1431655765) ∈ wAll := wA (tb1 (i := 195) (by rfl)) rfl
theorem kQ_J6_266 : Cond.constant RJ6 266 (858993459) ∈ wAll := wA (tb1 (i := 196) (by rfl)) rfl
theorem kQ_J6_267 : Cond.constant RJ6 267 (252645135) ∈ wAll := wA (tb1 (i := 197) (by rfl)) rfl
theorem kM_X5_53 : Cond.methodLink RX5 53 yX5_ownLoses ∈ wAll := wA (tb1 (i := 198) (by rfl)) rfl
theorem kS_X5_ownLoses : Cond.static yX5_ownLoses ∈ wAll := wA (tb1 (i := 199) (by rfl)) rfl
theorem kK_X5_ownLoses : Cond.code yX5_ownLoses cX5_ownLoses 1 (some (.int)) ∈ wAll := wA (tb1 (i := 200) (by rfl)) rfl
theorem kM_X5_56 : Cond.methodLink RX5 56 yX5_otherLoses ∈ wAll := wA (tb1 (i := 201) (by rfl)) rfl
theorem kS_X5_otherLoses : Cond.static yX5_otherLoses ∈ wAll := wA (tb1 (i := 202) (by rfl)) rfl
theorem kK_X5_otherLoses : Cond.code yX5_otherLoses cX5_otherLoses 1 (some (.int)) ∈ wAll := wA (tb1 (i := 203) (by rfl)) rfl
theorem kS_X6_put : Cond.static yX6_put ∈ wAll := wA (tb1 (i := 205) (by rfl)) rfl
theorem kK_X6_put : Cond.code yX6_put cX6_put 3 none ∈ wAll := wA (tb1 (i := 206) (by rfl)) rfl
theorem kF_X5_12 : Cond.fieldLink RX5 12 "WagonLeaps$Worths" "way" "LWagonLeaps$Road;" ∈ wAll := wA (tb1 (i := 207) (by rfl)) rfl
theorem kF_X5_18 : Cond.fieldLink RX5 18 "WagonLeaps$Worths" "rests" "[I" ∈ wAll := wA (tb1 (i := 208) (by rfl)) rfl
theorem kF_X5_22 : Cond.fieldLink RX5 22 "WagonLeaps$Worths" "tails" "[I" ∈ wAll := wA (tb1 (i := 209) (by rfl)) rfl
theorem kF_X5_25 : Cond.fieldLink RX5 25 "WagonLeaps$Worths" "told" "[I" ∈ wAll := wA (tb1 (i := 210) (by rfl)) rfl
theorem kF_X5_28 : Cond.fieldLink RX5 28 "WagonLeaps$Worths" "swept" "[I" ∈ wAll := wA (tb1 (i := 211) (by rfl)) rfl
theorem kF_X5_31 : Cond.fieldLink RX5 31 "WagonLeaps$Worths" "coming" "[I" ∈ wAll := wA (tb1 (i := 212) (by rfl)) rfl
theorem kF_X5_34 : Cond.fieldLink RX5 34 "WagonLeaps$Worths" "gathered" "I" ∈ wAll := wA (tb1 (i := 213) (by rfl)) rfl
theorem kF_X5_38 : Cond.fieldLink RX5 38 "WagonLeaps$Worths" "pace" "I" ∈ wAll := wA (tb1 (i := 214) (by rfl)) rfl
theorem kF_X5_41 : Cond.fieldLink RX5 41 "WagonLeaps$Worths" "stop" "I" ∈ wAll := wA (tb1 (i := 215) (by rfl)) rfl
theorem kF_X6_10 : Cond.fieldLink RX6 10 "WagonLeaps" "now" "LWagonLeaps$Race;" ∈ wAll := wA (tb1 (i := 235) (by rfl)) rfl
theorem kF_X6_16 : Cond.fieldLink RX6 16 "WagonLeaps" "imagined" "LWagonLeaps$Race;" ∈ wAll := wA (tb1 (i := 236) (by rfl)) rfl
theorem kF_X6_19 : Cond.fieldLink RX6 19 "WagonLeaps" "snapshot" "LWagonLeaps$Race;" ∈ wAll := wA (tb1 (i := 237) (by rfl)) rfl
theorem kF_X6_25 : Cond.fieldLink RX6 25 "WagonLeaps" "history" "LWagonLeaps$History;" ∈ wAll := wA (tb1 (i := 238) (by rfl)) rfl
theorem kF_X6_32 : Cond.fieldLink RX6 32 "WagonLeaps" "pad" "LWagonLeaps$Pad;" ∈ wAll := wA (tb1 (i := 239) (by rfl)) rfl
theorem kF_X6_39 : Cond.fieldLink RX6 39 "WagonLeaps" "worths" "LWagonLeaps$Worths;" ∈ wAll := wA (tb2 (i := 0) (by rfl)) rfl
theorem kF_X6_43 : Cond.fieldLink RX6 43 "WagonLeaps" "hasSnapshot" "Z" ∈ wAll := wA (tb2 (i := 1) (by rfl)) rfl
theorem kF_X6_47 : Cond.fieldLink RX6 47 "WagonLeaps" "stopPosition" "I" ∈ wAll := wA (tb2 (i := 2) (by rfl)) rfl
theorem kF_X6_51 : Cond.fieldLink RX6 51 "WagonLeaps" "stopReason" "I" ∈ wAll := wA (tb2 (i := 3) (by rfl)) rfl
theorem kM_L_81 : Cond.methodLink RL 81 yX6_why ∈ wAll := wA (tb2 (i := 23) (by rfl)) rfl
theorem kN_X6_why : Cond.instanceMethod yX6_why ∈ wAll := wA (tb2 (i := 24) (by rfl)) rfl
theorem kV_X6_why : Cond.selects RX6 yX6_why yX6_why ∈ wAll := wA (tb2 (i := 25) (by rfl)) rfl
theorem kK_X6_why : Cond.code yX6_why cX6_why 2 (some (.int)) ∈ wAll := wA (tb2 (i := 26) (by rfl)) rfl
theorem kM_L_12 : Cond.methodLink RL 12 yX6_count ∈ wAll := wA (tb2 (i := 27) (by rfl)) rfl
theorem kN_X6_count : Cond.instanceMethod yX6_count ∈ wAll := wA (tb2 (i := 28) (by rfl)) rfl
theorem kV_X6_count : Cond.selects RX6 yX6_count yX6_count ∈ wAll := wA (tb2 (i := 29) (by rfl)) rfl
theorem kK_X6_count : Cond.code yX6_count cX6_count 2 (some (.int)) ∈ wAll := wA (tb2 (i := 30) (by rfl)) rfl
theorem kM_X6_77 : Cond.methodLink RX6 77 yX2_isOver ∈ wAll := wA (tb2 (i := 31) (by rfl)) rfl
theorem kN_X2_isOver : Cond.instanceMethod yX2_isOver ∈ wAll := wA (tb2 (i := 32) (by rfl)) rfl
theorem kV_X2_isOver : Cond.selects RX2 yX2_isOver yX2_isOver ∈ wAll := wA (tb2 (i := 33) (by rfl)) rfl
theorem kK_X2_isOver : Cond.code yX2_isOver cX2_isOver 1 (some (.boolean)) ∈ wAll := wA (tb2 (i := 34) (by rfl)) rfl
theorem kM_X6_190 : Cond.methodLink RX6 190 yX3_howMany ∈ wAll := wA (tb2 (i := 35) (by rfl)) rfl
theorem kN_X3_howMany : Cond.instanceMethod yX3_howMany ∈ wAll := wA (tb2 (i := 36) (by rfl)) rfl
theorem kV_X3_howMany : Cond.selects RX3 yX3_howMany yX3_howMany ∈ wAll := wA (tb2 (i := 37) (by rfl)) rfl
theorem kK_X3_howMany : Cond.code yX3_howMany cX3_howMany 4 (some (.int)) ∈ wAll := wA (tb2 (i := 38) (by rfl)) rfl
theorem kM_X3_23 : Cond.methodLink RX3 23 yX3_kindOf ∈ wAll := wA (tb2 (i := 39) (by rfl)) rfl
theorem kN_X3_kindOf : Cond.instanceMethod yX3_kindOf ∈ wAll := wA (tb2 (i := 40) (by rfl)) rfl
theorem kV_X3_kindOf : Cond.selects RX3 yX3_kindOf yX3_kindOf ∈ wAll := wA (tb2 (i := 41) (by rfl)) rfl
theorem kK_X3_kindOf : Cond.code yX3_kindOf cX3_kindOf 2 (some (.int)) ∈ wAll := wA (tb2 (i := 42) (by rfl)) rfl
theorem kM_L_84 : Cond.methodLink RL 84 yX6_speed ∈ wAll := wA (tb2 (i := 43) (by rfl)) rfl
theorem kN_X6_speed : Cond.instanceMethod yX6_speed ∈ wAll := wA (tb2 (i := 44) (by rfl)) rfl
theorem kV_X6_speed : Cond.selects RX6 yX6_speed yX6_speed ∈ wAll := wA (tb2 (i := 45) (by rfl)) rfl
theorem kK_X6_speed : Cond.code yX6_speed cX6_speed 1 (some (.double)) ∈ wAll := wA (tb2 (i := 46) (by rfl)) rfl
theorem kM_L_78 : Cond.methodLink RL 78 yX6_undo ∈ wAll := wA (tb2 (i := 47) (by rfl)) rfl
theorem kN_X6_undo : Cond.instanceMethod yX6_undo ∈ wAll := wA (tb2 (i := 48) (by rfl)) rfl
theorem kV_X6_undo : Cond.selects RX6 yX6_undo yX6_undo ∈ wAll := wA (tb2 (i := 49) (by rfl)) rfl
theorem kK_X6_undo : Cond.code yX6_undo cX6_undo 1 (some (.int)) ∈ wAll := wA (tb2 (i := 50) (by rfl)) rfl
theorem kM_X6_208 : Cond.methodLink RX6 208 yX0_takeBack ∈ wAll := wA (tb2 (i := 51) (by rfl)) rfl
theorem kN_X0_takeBack : Cond.instanceMethod yX0_takeBack ∈ wAll := wA (tb2 (i := 52) (by rfl)) rfl
theorem kV_X0_takeBack : Cond.selects RX0 yX0_takeBack yX0_takeBack ∈ wAll := wA (tb2 (i := 53) (by rfl)) rfl
theorem kK_X0_takeBack : Cond.code yX0_takeBack cX0_takeBack 3 (some (.boolean)) ∈ wAll := wA (tb2 (i := 54) (by rfl)) rfl
theorem kM_X0_29 : Cond.methodLink RX0 29 yX0_row ∈ wAll := wA (tb2 (i := 55) (by rfl)) rfl
theorem kN_X0_row : Cond.instanceMethod yX0_row ∈ wAll := wA (tb2 (i := 57) (by rfl)) rfl
theorem kK_X0_row : Cond.code yX0_row cX0_row 3 (some (.object "WagonLeaps$Race")) ∈ wAll := wA (tb2 (i := 58) (by rfl)) rfl
theorem kM_X0_23 : Cond.methodLink RX0 23 yJ9_floorMod_7cf53 ∈ wAll := wA (tb2 (i := 59) (by rfl)) rfl
theorem kS_J9_floorMod_7cf53 : Cond.static yJ9_floorMod_7cf53 ∈ wAll := wA (tb2 (i := 60) (by rfl)) rfl
theorem kK_J9_floorMod_7cf53 : Cond.code yJ9_floorMod_7cf53 cJ9_floorMod_7cf53 3 (some (.int)) ∈ wAll := wA (tb2 (i := 61) (by rfl)) rfl
theorem kM_X0_33 : Cond.methodLink RX0 33 yX2_takeOver ∈ wAll := wA (tb2 (i := 62) (by rfl)) rfl
theorem kN_X2_takeOver : Cond.instanceMethod yX2_takeOver ∈ wAll := wA (tb2 (i := 63) (by rfl)) rfl
theorem kV_X2_takeOver : Cond.selects RX2 yX2_takeOver yX2_takeOver ∈ wAll := wA (tb2 (i := 64) (by rfl)) rfl
theorem kK_X2_takeOver : Cond.code yX2_takeOver cX2_takeOver 2 none ∈ wAll := wA (tb2 (i := 65) (by rfl)) rfl
theorem kM_X2_57 : Cond.methodLink RX2 57 yX3_takeOver ∈ wAll := wA (tb2 (i := 66) (by rfl)) rfl
theorem kN_X3_takeOver : Cond.instanceMethod yX3_takeOver ∈ wAll := wA (tb2 (i := 67) (by rfl)) rfl
theorem kV_X3_takeOver : Cond.selects RX3 yX3_takeOver yX3_takeOver ∈ wAll := wA (tb2 (i := 68) (by rfl)) rfl
theorem kK_X3_takeOver : Cond.code yX3_takeOver cX3_takeOver 2 none ∈ wAll := wA (tb2 (i := 69) (by rfl)) rfl
theorem kS_X6_copyRow : Cond.static yX6_copyRow ∈ wAll := wA (tb2 (i := 71) (by rfl)) rfl
theorem kK_X6_copyRow : Cond.code yX6_copyRow cX6_copyRow 3 none ∈ wAll := wA (tb2 (i := 72) (by rfl)) rfl
theorem kM_X2_61 : Cond.methodLink RX2 61 yX4_takeOver ∈ wAll := wA (tb2 (i := 73) (by rfl)) rfl
theorem kN_X4_takeOver : Cond.instanceMethod yX4_takeOver ∈ wAll := wA (tb2 (i := 74) (by rfl)) rfl
theorem kV_X4_takeOver : Cond.selects RX4 yX4_takeOver yX4_takeOver ∈ wAll := wA (tb2 (i := 75) (by rfl)) rfl
theorem kK_X4_takeOver : Cond.code yX4_takeOver cX4_takeOver 2 none ∈ wAll := wA (tb2 (i := 76) (by rfl)) rfl
theorem kM_L_92 : Cond.methodLink RL 92 yX6_save ∈ wAll := wA (tb2 (i := 78) (by rfl)) rfl
theorem kN_X6_save : Cond.instanceMethod yX6_save ∈ wAll := wA (tb2 (i := 79) (by rfl)) rfl
theorem kV_X6_save : Cond.selects RX6 yX6_save yX6_save ∈ wAll := wA (tb2 (i := 80) (by rfl)) rfl
theorem kK_X6_save : Cond.code yX6_save cX6_save 1 (some (.int)) ∈ wAll := wA (tb2 (i := 81) (by rfl)) rfl
theorem kM_X6_205 : Cond.methodLink RX6 205 yX2_takeOver ∈ wAll := wA (tb2 (i := 82) (by rfl)) rfl
theorem kM_L_29 : Cond.methodLink RL 29 yX6_restore ∈ wAll := wA (tb2 (i := 83) (by rfl)) rfl
theorem kN_X6_restore : Cond.instanceMethod yX6_restore ∈ wAll := wA (tb2 (i := 84) (by rfl)) rfl
theorem kV_X6_restore : Cond.selects RX6 yX6_restore yX6_restore ∈ wAll := wA (tb2 (i := 85) (by rfl)) rfl
theorem kK_X6_restore : Cond.code yX6_restore cX6_restore 1 (some (.int)) ∈ wAll := wA (tb2 (i := 86) (by rfl)) rfl
theorem kM_X6_93 : Cond.methodLink RX6 93 yX0_record ∈ wAll := wA (tb2 (i := 87) (by rfl)) rfl
theorem kN_X0_record : Cond.instanceMethod yX0_record ∈ wAll := wA (tb2 (i := 88) (by rfl)) rfl
theorem kV_X0_record : Cond.selects RX0 yX0_record yX0_record ∈ wAll := wA (tb2 (i := 89) (by rfl)) rfl
theorem kK_X0_record : Cond.code yX0_record cX0_record 3 none ∈ wAll := wA (tb2 (i := 90) (by rfl)) rfl
theorem kM_L_88 : Cond.methodLink RL 88 yL_cell ∈ wAll := wA (tb2 (i := 91) (by rfl)) rfl
theorem kS_L_cell : Cond.static yL_cell ∈ wAll := wA (tb2 (i := 92) (by rfl)) rfl
theorem kK_L_cell : Cond.code yL_cell cL_cell 2 (some (.int)) ∈ wAll := wA (tb2 (i := 93) (by rfl)) rfl
theorem kM_L_95 : Cond.methodLink RL 95 yL_told ∈ wAll := wA (tb2 (i := 94) (by rfl)) rfl
theorem kS_L_told : Cond.static yL_told ∈ wAll := wA (tb2 (i := 95) (by rfl)) rfl
theorem kK_L_told : Cond.code yL_told cL_told 4 (some (.long)) ∈ wAll := wA (tb2 (i := 96) (by rfl)) rfl
theorem kQ_L_8 : Cond.constantLong RL 8 (3) ∈ wAll := wA (tb2 (i := 97) (by rfl)) rfl
theorem kQ_L_10 : Cond.constantLong RL 10 (31) ∈ wAll := wA (tb2 (i := 98) (by rfl)) rfl
theorem kM_L_18 : Cond.methodLink RL 18 yX6_wagon ∈ wAll := wA (tb2 (i := 99) (by rfl)) rfl
theorem kN_X6_wagon : Cond.instanceMethod yX6_wagon ∈ wAll := wA (tb2 (i := 100) (by rfl)) rfl
theorem kV_X6_wagon : Cond.selects RX6 yX6_wagon yX6_wagon ∈ wAll := wA (tb2 (i := 101) (by rfl)) rfl
theorem kK_X6_wagon : Cond.code yX6_wagon cX6_wagon 3 (some (.int)) ∈ wAll := wA (tb2 (i := 102) (by rfl)) rfl
theorem kM_X6_164 : Cond.methodLink RX6 164 yX4_property ∈ wAll := wA (tb2 (i := 103) (by rfl)) rfl
theorem kN_X4_property : Cond.instanceMethod yX4_property ∈ wAll := wA (tb2 (i := 104) (by rfl)) rfl
theorem kV_X4_property : Cond.selects RX4 yX4_property yX4_property ∈ wAll := wA (tb2 (i := 105) (by rfl)) rfl
theorem kK_X4_property : Cond.code yX4_property cX4_property 2 (some (.int)) ∈ wAll := wA (tb2 (i := 106) (by rfl)) rfl
theorem kM_L_22 : Cond.methodLink RL 22 yX6_mile ∈ wAll := wA (tb2 (i := 107) (by rfl)) rfl
theorem kN_X6_mile : Cond.instanceMethod yX6_mile ∈ wAll := wA (tb2 (i := 108) (by rfl)) rfl
theorem kV_X6_mile : Cond.selects RX6 yX6_mile yX6_mile ∈ wAll := wA (tb2 (i := 109) (by rfl)) rfl
theorem kK_X6_mile : Cond.code yX6_mile cX6_mile 3 (some (.int)) ∈ wAll := wA (tb2 (i := 110) (by rfl)) rfl
theorem kM_X6_143 : Cond.methodLink RX6 143 yX3_kindOf ∈ wAll := wA (tb2 (i := 111) (by rfl)) rfl
theorem kM_X6_146 : Cond.methodLink RX6 146 yX2_wagonOn ∈ wAll := wA (tb2 (i := 112) (by rfl)) rfl
theorem kN_X2_wagonOn : Cond.instanceMethod yX2_wagonOn ∈ wAll := wA (tb2 (i := 113) (by rfl)) rfl
theorem kV_X2_wagonOn : Cond.selects RX2 yX2_wagonOn yX2_wagonOn ∈ wAll := wA (tb2 (i := 114) (by rfl)) rfl
theorem kK_X2_wagonOn : Cond.code yX2_wagonOn cX2_wagonOn 2 (some (.int)) ∈ wAll := wA (tb2 (i := 115) (by rfl)) rfl
theorem kM_X6_157 : Cond.methodLink RX6 157 yX6_at ∈ wAll := wA (tb2 (i := 116) (by rfl)) rfl
theorem kS_X6_at : Cond.static yX6_at ∈ wAll := wA (tb2 (i := 117) (by rfl)) rfl
theorem kK_X6_at : Cond.code yX6_at cX6_at 2 (some (.int)) ∈ wAll := wA (tb2 (i := 118) (by rfl)) rfl
theorem kM_L_99 : Cond.methodLink RL 99 yL_act ∈ wAll := wA (tb2 (i := 119) (by rfl)) rfl
theorem kS_L_act : Cond.static yL_act ∈ wAll := wA (tb2 (i := 120) (by rfl)) rfl
theorem kK_L_act : Cond.code yL_act cL_act 6 (some (.int)) ∈ wAll := wA (tb2 (i := 121) (by rfl)) rfl
theorem kM_L_25 : Cond.methodLink RL 25 yX6_again ∈ wAll := wA (tb2 (i := 122) (by rfl)) rfl
theorem kN_X6_again : Cond.instanceMethod yX6_again ∈ wAll := wA (tb2 (i := 123) (by rfl)) rfl
theorem kV_X6_again : Cond.selects RX6 yX6_again yX6_again ∈ wAll := wA (tb2 (i := 124) (by rfl)) rfl
theorem kK_X6_again : Cond.code yX6_again cX6_again 1 (some (.int)) ∈ wAll := wA (tb2 (i := 125) (by rfl)) rfl
theorem kM_X6_97 : Cond.methodLink RX6 97 yX2_begin ∈ wAll := wA (tb2 (i := 126) (by rfl)) rfl
theorem kM_L_32 : Cond.methodLink RL 32 yL_low ∈ wAll := wA (tb2 (i := 127) (by rfl)) rfl
theorem kS_L_low : Cond.static yL_low ∈ wAll := wA (tb2 (i := 128) (by rfl)) rfl
theorem kK_L_low : Cond.code yL_low cL_low 2 (some (.int)) ∈ wAll := wA (tb2 (i := 129) (by rfl)) rfl
theorem kQ_L_7 : Cond.constant RL 7 (2147483647) ∈ wAll := wA (tb2 (i := 130) (by rfl)) rfl
theorem kM_L_37 : Cond.methodLink RL 37 yX6_set ∈ wAll := wA (tb2 (i := 131) (by rfl)) rfl
theorem kN_X6_set : Cond.instanceMethod yX6_set ∈ wAll := wA (tb2 (i := 132) (by rfl)) rfl
theorem kV_X6_set : Cond.selects RX6 yX6_set yX6_set ∈ wAll := wA (tb2 (i := 133) (by rfl)) rfl
theorem kK_X6_set : Cond.code yX6_set cX6_set 4 (some (.int)) ∈ wAll := wA (tb2 (i := 134) (by rfl)) rfl
theorem kM_L_40 : Cond.methodLink RL 40 yX6_clear ∈ wAll := wA (tb2 (i := 135) (by rfl)) rfl
theorem kN_X6_clear : Cond.instanceMethod yX6_clear ∈ wAll := wA (tb2 (i := 136) (by rfl)) rfl
theorem kV_X6_clear : Cond.selects RX6 yX6_clear yX6_clear ∈ wAll := wA (tb2 (i := 137) (by rfl)) rfl
theorem kK_X6_clear : Cond.code yX6_clear cX6_clear 1 (some (.int)) ∈ wAll := wA (tb2 (i := 138) (by rfl)) rfl
theorem kM_X6_121 : Cond.methodLink RX6 121 yX1_empty ∈ wAll := wA (tb2 (i := 139) (by rfl)) rfl
theorem kN_X1_empty : Cond.instanceMethod yX1_empty ∈ wAll := wA (tb2 (i := 140) (by rfl)) rfl
theorem kV_X1_empty : Cond.selects RX1 yX1_empty yX1_empty ∈ wAll := wA (tb2 (i := 141) (by rfl)) rfl
theorem kK_X1_empty : Cond.code yX1_empty cX1_empty 2 (some (.int)) ∈ wAll := wA (tb2 (i := 142) (by rfl)) rfl
theorem kM_L_43 : Cond.methodLink RL 43 yX6_append ∈ wAll := wA (tb2 (i := 143) (by rfl)) rfl
theorem kN_X6_append : Cond.instanceMethod yX6_append ∈ wAll := wA (tb2 (i := 144) (by rfl)) rfl
theorem kV_X6_append : Cond.selects RX6 yX6_append yX6_append ∈ wAll := wA (tb2 (i := 145) (by rfl)) rfl
theorem kK_X6_append : Cond.code yX6_append cX6_append 2 (some (.int)) ∈ wAll := wA (tb2 (i := 146) (by rfl)) rfl
theorem kM_X6_115 : Cond.methodLink RX6 115 yX1_isFull ∈ wAll := wA (tb2 (i := 147) (by rfl)) rfl
theorem kN_X1_isFull : Cond.instanceMethod yX1_isFull ∈ wAll := wA (tb2 (i := 148) (by rfl)) rfl
theorem kV_X1_isFull : Cond.selects RX1 yX1_isFull yX1_isFull ∈ wAll := wA (tb2 (i := 149) (by rfl)) rfl
theorem kK_X1_isFull : Cond.code yX1_isFull cX1_isFull 1 (some (.boolean)) ∈ wAll := wA (tb2 (i := 150) (by rfl)) rfl
theorem kM_X6_118 : Cond.methodLink RX6 118 yX1_add ∈ wAll := wA (tb2 (i := 151) (by rfl)) rfl
theorem kN_X1_add : Cond.instanceMethod yX1_add ∈ wAll := wA (tb2 (i := 152) (by rfl)) rfl
theorem kV_X1_add : Cond.selects RX1 yX1_add yX1_add ∈ wAll := wA (tb2 (i := 153) (by rfl)) rfl
theorem kK_X1_add : Cond.code yX1_add cX1_add 2 (some (.int)) ∈ wAll := wA (tb2 (i := 154) (by rfl)) rfl
theorem kM_L_46 : Cond.methodLink RL 46 yX6_road ∈ wAll := wA (tb2 (i := 156) (by rfl)) rfl
theorem kN_X6_road : Cond.instanceMethod yX6_road ∈ wAll := wA (tb2 (i := 157) (by rfl)) rfl
theorem kV_X6_road : Cond.selects RX6 yX6_road yX6_road ∈ wAll := wA (tb2 (i := 158) (by rfl)) rfl
theorem kK_X6_road : Cond.code yX6_road cX6_road 1 (some (.int)) ∈ wAll := wA (tb2 (i := 159) (by rfl)) rfl
theorem kM_X6_124 : Cond.methodLink RX6 124 yX1_firstFault ∈ wAll := wA (tb2 (i := 160) (by rfl)) rfl
theorem kN_X1_firstFault : Cond.instanceMethod yX1_firstFault ∈ wAll := wA (tb2 (i := 161) (by rfl)) rfl
theorem kV_X1_firstFault : Cond.selects RX1 yX1_firstFault yX1_firstFault ∈ wAll := wA (tb2 (i := 162) (by rfl)) rfl
theorem kK_X1_firstFault : Cond.code yX1_firstFault cX1_firstFault 5 (some (.int)) ∈ wAll := wA (tb2 (i := 163) (by rfl)) rfl
theorem kM_X1_27 : Cond.methodLink RX1 27 yX1_signAt ∈ wAll := wA (tb2 (i := 164) (by rfl)) rfl
theorem kN_X1_signAt : Cond.instanceMethod yX1_signAt ∈ wAll := wA (tb2 (i := 165) (by rfl)) rfl
theorem kV_X1_signAt : Cond.selects RX1 yX1_signAt yX1_signAt ∈ wAll := wA (tb2 (i := 166) (by rfl)) rfl
theorem kK_X1_signAt : Cond.code yX1_signAt cX1_signAt 2 (some (.int)) ∈ wAll := wA (tb2 (i := 167) (by rfl)) rfl
theorem kM_X1_31 : Cond.methodLink RX1 31 yX1_kindMeant ∈ wAll := wA (tb2 (i := 169) (by rfl)) rfl
theorem kS_X1_kindMeant : Cond.static yX1_kindMeant ∈ wAll := wA (tb2 (i := 170) (by rfl)) rfl
theorem kK_X1_kindMeant : Cond.code yX1_kindMeant cX1_kindMeant 1 (some (.int)) ∈ wAll := wA (tb2 (i := 171) (by rfl)) rfl
theorem kM_X1_34 : Cond.methodLink RX1 34 yX1_isTurn ∈ wAll := wA (tb2 (i := 172) (by rfl)) rfl
theorem kS_X1_isTurn : Cond.static yX1_isTurn ∈ wAll := wA (tb2 (i := 173) (by rfl)) rfl
theorem kK_X1_isTurn : Cond.code yX1_isTurn cX1_isTurn 1 (some (.boolean)) ∈ wAll := wA (tb2 (i := 174) (by rfl)) rfl
theorem kM_X6_127 : Cond.methodLink RX6 127 yX1_layOut ∈ wAll := wA (tb2 (i := 175) (by rfl)) rfl
theorem kN_X1_layOut : Cond.instanceMethod yX1_layOut ∈ wAll := wA (tb2 (i := 176) (by rfl)) rfl
theorem kV_X1_layOut : Cond.selects RX1 yX1_layOut yX1_layOut ∈ wAll := wA (tb2 (i := 177) (by rfl)) rfl
theorem kK_X1_layOut : Cond.code yX1_layOut cX1_layOut 3 none ∈ wAll := wA (tb2 (i := 178) (by rfl)) rfl
theorem kM_X1_38 : Cond.methodLink RX1 38 yJ9_min_7cf53 ∈ wAll := wA (tb2 (i := 179) (by rfl)) rfl
theorem kS_J9_min_7cf53 : Cond.static yJ9_min_7cf53 ∈ wAll := wA (tb2 (i := 180) (by rfl)) rfl
theorem kK_J9_min_7cf53 : Cond.code yJ9_min_7cf53 cJ9_min_7cf53 2 (some (.int)) ∈ wAll := wA (tb2 (i := 181) (by rfl)) rfl
theorem kM_L_49 : Cond.methodLink RL 49 yX6_token ∈ wAll := wA (tb2 (i := 182) (by rfl)) rfl
theorem kN_X6_token : Cond.instanceMethod yX6_token ∈ wAll := wA (tb2 (i := 183) (by rfl)) rfl
theorem kV_X6_token : Cond.selects RX6 yX6_token yX6_token ∈ wAll := wA (tb2 (i := 184) (by rfl)) rfl
theorem kK_X6_token : Cond.code yX6_token cX6_token 2 (some (.int)) ∈ wAll := wA (tb2 (i := 185) (by rfl)) rfl
theorem kM_X6_54 : Cond.methodLink RX6 54 yX2_refusal ∈ wAll := wA (tb2 (i := 186) (by rfl)) rfl
theorem kN_X2_refusal : Cond.instanceMethod yX2_refusal ∈ wAll := wA (tb2 (i := 187) (by rfl)) rfl
theorem kV_X2_refusal : Cond.selects RX2 yX2_refusal yX2_refusal ∈ wAll := wA (tb2 (i := 188) (by rfl)) rfl
theorem kK_X2_refusal : Cond.code yX2_refusal cX2_refusal 2 (some (.int)) ∈ wAll := wA (tb2 (i := 189) (by rfl)) rfl
theorem kM_X2_67 : Cond.methodLink RX2 67 yX2_isOver ∈ wAll := wA (tb2 (i := 190) (by rfl)) rfl
theorem kM_X2_71 : Cond.methodLink RX2 71 yX2_mover ∈ wAll := wA (tb2 (i := 191) (by rfl)) rfl
theorem kN_X2_mover : Cond.instanceMethod yX2_mover ∈ wAll := wA (tb2 (i := 192) (by rfl)) rfl
theorem kV_X2_mover : Cond.selects RX2 yX2_mover yX2_mover ∈ wAll := wA (tb2 (i := 193) (by rfl)) rfl
theorem kK_X2_mover : Cond.code yX2_mover cX2_mover 1 (some (.object "WagonLeaps$Wagon")) ∈ wAll := wA (tb2 (i := 194) (by rfl)) rfl
theorem kM_X6_71 : Cond.methodLink RX6 71 yX2_waiting ∈ wAll := wA (tb2 (i := 195) (by rfl)) rfl
theorem kN_X2_waiting : Cond.instanceMethod yX2_waiting ∈ wAll := wA (tb2 (i := 196) (by rfl)) rfl
theorem kV_X2_waiting : Cond.selects RX2 yX2_waiting yX2_waiting ∈ wAll := wA (tb2 (i := 197) (by rfl)) rfl
theorem kK_X2_waiting : Cond.code yX2_waiting cX2_waiting 1 (some (.object "WagonLeaps$Wagon")) ∈ wAll := wA (tb2 (i := 198) (by rfl)) rfl
theorem kM_X6_62 : Cond.methodLink RX6 62 yX6_makeAsChange ∈ wAll := wA (tb2 (i := 199) (by rfl)) rfl
theorem kN_X6_makeAsChange : Cond.instanceMethod yX6_makeAsChange ∈ wAll := wA (tb2 (i := 201) (by rfl)) rfl
theorem kK_X6_makeAsChange : Cond.code yX6_makeAsChange cX6_makeAsChange 2 none ∈ wAll := wA (tb2 (i := 202) (by rfl)) rfl
theorem kM_X6_140 : Cond.methodLink RX6 140 yX2_make ∈ wAll := wA (tb2 (i := 203) (by rfl)) rfl
theorem kN_X2_make : Cond.instanceMethod yX2_make ∈ wAll := wA (tb2 (i := 204) (by rfl)) rfl
theorem kV_X2_make : Cond.selects RX2 yX2_make yX2_make ∈ wAll := wA (tb2 (i := 205) (by rfl)) rfl
theorem kK_X2_make : Cond.code yX2_make cX2_make 3 none ∈ wAll := wA (tb2 (i := 206) (by rfl)) rfl
theorem kM_X2_82 : Cond.methodLink RX2 82 yX4_loseTurn ∈ wAll := wA (tb2 (i := 207) (by rfl)) rfl
theorem kN_X4_loseTurn : Cond.instanceMethod yX4_loseTurn ∈ wAll := wA (tb2 (i := 208) (by rfl)) rfl
theorem kV_X4_loseTurn : Cond.selects RX4 yX4_loseTurn yX4_loseTurn ∈ wAll := wA (tb2 (i := 209) (by rfl)) rfl
theorem kK_X4_loseTurn : Cond.code yX4_loseTurn cX4_loseTurn 1 none ∈ wAll := wA (tb2 (i := 210) (by rfl)) rfl
theorem kM_X2_85 : Cond.methodLink RX2 85 yX2_waiting ∈ wAll := wA (tb2 (i := 211) (by rfl)) rfl
theorem kM_X2_88 : Cond.methodLink RX2 88 yX4_stopOther ∈ wAll := wA (tb2 (i := 212) (by rfl)) rfl
theorem kN_X4_stopOther : Cond.instanceMethod yX4_stopOther ∈ wAll := wA (tb2 (i := 213) (by rfl)) rfl
theorem kV_X4_stopOther : Cond.selects RX4 yX4_stopOther yX4_stopOther ∈ wAll := wA (tb2 (i := 214) (by rfl)) rfl
theorem kK_X4_stopOther : Cond.code yX4_stopOther cX4_stopOther 3 none ∈ wAll := wA (tb2 (i := 215) (by rfl)) rfl
theorem kM_X4_75 : Cond.methodLink RX4 75 yJ9_min_7cf53 ∈ wAll := wA (tb2 (i := 216) (by rfl)) rfl
theorem kM_X2_92 : Cond.methodLink RX2 92 yX4_driveOn ∈ wAll := wA (tb2 (i := 217) (by rfl)) rfl
theorem kN_X4_driveOn : Cond.instanceMethod yX4_driveOn ∈ wAll := wA (tb2 (i := 218) (by rfl)) rfl
theorem kV_X4_driveOn : Cond.selects RX4 yX4_driveOn yX4_driveOn ∈ wAll := wA (tb2 (i := 219) (by rfl)) rfl
theorem kK_X4_driveOn : Cond.code yX4_driveOn cX4_driveOn 6 none ∈ wAll := wA (tb2 (i := 220) (by rfl)) rfl
theorem kM_X4_57 : Cond.methodLink RX4 57 yX3_landing ∈ wAll := wA (tb2 (i := 221) (by rfl)) rfl
theorem kN_X3_landing : Cond.instanceMethod yX3_landing ∈ wAll := wA (tb2 (i := 222) (by rfl)) rfl
theorem kV_X3_landing : Cond.selects RX3 yX3_landing yX3_landing ∈ wAll := wA (tb2 (i := 223) (by rfl)) rfl
theorem kK_X3_landing : Cond.code yX3_landing cX3_landing 6 (some (.int)) ∈ wAll := wA (tb2 (i := 224) (by rfl)) rfl
theorem kM_X4_63 : Cond.methodLink RX4 63 yX4_standOn ∈ wAll := wA (tb2 (i := 225) (by rfl)) rfl
theorem kN_X4_standOn : Cond.instanceMethod yX4_standOn ∈ wAll := wA (tb2 (i := 226) (by rfl)) rfl
theorem kV_X4_standOn : Cond.selects RX4 yX4_standOn yX4_standOn ∈ wAll := wA (tb2 (i := 227) (by rfl)) rfl
theorem kK_X4_standOn : Cond.code yX4_standOn cX4_standOn 2 none ∈ wAll := wA (tb2 (i := 228) (by rfl)) rfl
theorem kM_X4_67 : Cond.methodLink RX4 67 yX3_kindOf ∈ wAll := wA (tb2 (i := 231) (by rfl)) rfl
theorem kM_X4_71 : Cond.methodLink RX4 71 yX3_next ∈ wAll := wA (tb2 (i := 232) (by rfl)) rfl
theorem kN_X3_next : Cond.instanceMethod yX3_next ∈ wAll := wA (tb2 (i := 233) (by rfl)) rfl
theorem kV_X3_next : Cond.selects RX3 yX3_next yX3_next ∈ wAll := wA (tb2 (i := 234) (by rfl)) rfl
theorem kK_X3_next : Cond.code yX3_next cX3_next 3 (some (.int)) ∈ wAll := wA (tb2 (i := 235) (by rfl)) rfl
theorem kM_X2_97 : Cond.methodLink RX2 97 yX3_isEnd ∈ wAll := wA (tb2 (i := 236) (by rfl)) rfl
theorem kN_X3_isEnd : Cond.instanceMethod yX3_isEnd ∈ wAll := wA (tb2 (i := 237) (by rfl)) rfl
theorem kV_X3_isEnd : Cond.selects RX3 yX3_isEnd yX3_isEnd ∈ wAll := wA (tb2 (i := 238) (by rfl)) rfl
theorem kK_X3_isEnd : Cond.code yX3_isEnd cX3_isEnd 2 (some (.boolean)) ∈ wAll := wA (tb2 (i := 239) (by rfl)) rfl
theorem kM_X2_101 : Cond.methodLink RX2 101 yX2_arrive ∈ wAll := wA (tb3 (i := 0) (by rfl)) rfl
theorem kN_X2_arrive : Cond.instanceMethod yX2_arrive ∈ wAll := wA (tb3 (i := 2) (by rfl)) rfl
theorem kK_X2_arrive : Cond.code yX2_arrive cX2_arrive 1 none ∈ wAll := wA (tb3 (i := 3) (by rfl)) rfl
theorem kM_L_52 : Cond.methodLink RL 52 yX6_lose ∈ wAll := wA (tb3 (i := 4) (by rfl)) rfl
theorem kN_X6_lose : Cond.instanceMethod yX6_lose ∈ wAll := wA (tb3 (i := 5) (by rfl)) rfl
theorem kV_X6_lose : Cond.selects RX6 yX6_lose yX6_lose ∈ wAll := wA (tb3 (i := 6) (by rfl)) rfl
theorem kK_X6_lose : Cond.code yX6_lose cX6_lose 2 (some (.int)) ∈ wAll := wA (tb3 (i := 7) (by rfl)) rfl
theorem kM_X6_58 : Cond.methodLink RX6 58 yX2_mover ∈ wAll := wA (tb3 (i := 8) (by rfl)) rfl
theorem kM_L_55 : Cond.methodLink RL 55 yX6_best ∈ wAll := wA (tb3 (i := 9) (by rfl)) rfl
theorem kN_X6_best : Cond.instanceMethod yX6_best ∈ wAll := wA (tb3 (i := 10) (by rfl)) rfl
theorem kV_X6_best : Cond.selects RX6 yX6_best yX6_best ∈ wAll := wA (tb3 (i := 11) (by rfl)) rfl
theorem kK_X6_best : Cond.code yX6_best cX6_best 2 (some (.int)) ∈ wAll := wA (tb3 (i := 12) (by rfl)) rfl
theorem kM_X6_81 : Cond.methodLink RX6 81 yX6_preparedWorths ∈ wAll := wA (tb3 (i := 13) (by rfl)) rfl
theorem kN_X6_preparedWorths : Cond.instanceMethod yX6_preparedWorths ∈ wAll := wA (tb3 (i := 15) (by rfl)) rfl
theorem kK_X6_preparedWorths : Cond.code yX6_preparedWorths cX6_preparedWorths 1 (some (.object "WagonLeaps$Worths")) ∈ wAll := wA (tb3 (i := 16) (by rfl)) rfl
theorem kM_X6_212 : Cond.methodLink RX6 212 yX5_prepare ∈ wAll := wA (tb3 (i := 17) (by rfl)) rfl
theorem kN_X5_prepare : Cond.instanceMethod yX5_prepare ∈ wAll := wA (tb3 (i := 18) (by rfl)) rfl
theorem kV_X5_prepare : Cond.selects RX5 yX5_prepare yX5_prepare ∈ wAll := wA (tb3 (i := 19) (by rfl)) rfl
theorem kK_X5_prepare : Cond.code yX5_prepare cX5_prepare 2 none ∈ wAll := wA (tb3 (i := 20) (by rfl)) rfl
theorem kM_X5_68 : Cond.methodLink RX5 68 yX3_isLike ∈ wAll := wA (tb3 (i := 21) (by rfl)) rfl
theorem kN_X3_isLike : Cond.instanceMethod yX3_isLike ∈ wAll := wA (tb3 (i := 22) (by rfl)) rfl
theorem kV_X3_isLike : Cond.selects RX3 yX3_isLike yX3_isLike ∈ wAll := wA (tb3 (i := 23) (by rfl)) rfl
theorem kK_X3_isLike : Cond.code yX3_isLike cX3_isLike 4 (some (.boolean)) ∈ wAll := wA (tb3 (i := 24) (by rfl)) rfl
theorem kM_X5_72 : Cond.methodLink RX5 72 yX3_takeOver ∈ wAll := wA (tb3 (i := 25) (by rfl)) rfl
theorem kM_X5_76 : Cond.methodLink RX5 76 yX5_fillRests ∈ wAll := wA (tb3 (i := 26) (by rfl)) rfl
theorem kN_X5_fillRests : Cond.instanceMethod yX5_fillRests ∈ wAll := wA (tb3 (i := 28) (by rfl)) rfl
theorem kK_X5_fillRests : Cond.code yX5_fillRests cX5_fillRests 4 none ∈ wAll := wA (tb3 (i := 29) (by rfl)) rfl
theorem kM_X5_86 : Cond.methodLink RX5 86 yX3_rest ∈ wAll := wA (tb3 (i := 30) (by rfl)) rfl
theorem kN_X3_rest : Cond.instanceMethod yX3_rest ∈ wAll := wA (tb3 (i := 31) (by rfl)) rfl
theorem kV_X3_rest : Cond.selects RX3 yX3_rest yX3_rest ∈ wAll := wA (tb3 (i := 32) (by rfl)) rfl
theorem kK_X3_rest : Cond.code yX3_rest cX3_rest 6 (some (.int)) ∈ wAll := wA (tb3 (i := 33) (by rfl)) rfl
theorem kM_X3_27 : Cond.methodLink RX3 27 yX3_landing ∈ wAll := wA (tb3 (i := 34) (by rfl)) rfl
theorem kM_X3_31 : Cond.methodLink RX3 31 yX3_next ∈ wAll := wA (tb3 (i := 35) (by rfl)) rfl
theorem kM_X6_85 : Cond.methodLink RX6 85 yX5_bestOf ∈ wAll := wA (tb3 (i := 37) (by rfl)) rfl
theorem kN_X5_bestOf : Cond.instanceMethod yX5_bestOf ∈ wAll := wA (tb3 (i := 38) (by rfl)) rfl
theorem kV_X5_bestOf : Cond.selects RX5 yX5_bestOf yX5_bestOf ∈ wAll := wA (tb3 (i := 39) (by rfl)) rfl
theorem kK_X5_bestOf : Cond.code yX5_bestOf cX5_bestOf 5 (some (.int)) ∈ wAll := wA (tb3 (i := 40) (by rfl)) rfl
theorem kM_X5_90 : Cond.methodLink RX5 90 yX5_standOf ∈ wAll := wA (tb3 (i := 41) (by rfl)) rfl
theorem kS_X5_standOf : Cond.static yX5_standOf ∈ wAll := wA (tb3 (i := 42) (by rfl)) rfl
theorem kK_X5_standOf : Cond.code yX5_standOf cX5_standOf 4 (some (.int)) ∈ wAll := wA (tb3 (i := 43) (by rfl)) rfl
theorem kM_X5_148 : Cond.methodLink RX5 148 yX2_mover ∈ wAll := wA (tb3 (i := 44) (by rfl)) rfl
theorem kM_X5_152 : Cond.methodLink RX5 152 yX2_waiting ∈ wAll := wA (tb3 (i := 45) (by rfl)) rfl
theorem kM_X5_94 : Cond.methodLink RX5 94 yX5_tellInto ∈ wAll := wA (tb3 (i := 46) (by rfl)) rfl
theorem kN_X5_tellInto : Cond.instanceMethod yX5_tellInto ∈ wAll := wA (tb3 (i := 48) (by rfl)) rfl
theorem kK_X5_tellInto : Cond.code yX5_tellInto cX5_tellInto 7 (some (.int)) ∈ wAll := wA (tb3 (i := 49) (by rfl)) rfl
theorem kM_X5_110 : Cond.methodLink RX5 110 yX5_after ∈ wAll := wA (tb3 (i := 51) (by rfl)) rfl
theorem kN_X5_after : Cond.instanceMethod yX5_after ∈ wAll := wA (tb3 (i := 53) (by rfl)) rfl
theorem kK_X5_after : Cond.code yX5_after cX5_after 9 (some (.int)) ∈ wAll := wA (tb3 (i := 54) (by rfl)) rfl
theorem kM_X5_127 : Cond.methodLink RX5 127 yJ9_max_7cf53 ∈ wAll := wA (tb3 (i := 55) (by rfl)) rfl
theorem kS_J9_max_7cf53 : Cond.static yJ9_max_7cf53 ∈ wAll := wA (tb3 (i := 56) (by rfl)) rfl
theorem kK_J9_max_7cf53 : Cond.code yJ9_max_7cf53 cJ9_max_7cf53 2 (some (.int)) ∈ wAll := wA (tb3 (i := 57) (by rfl)) rfl
theorem kM_X5_138 : Cond.methodLink RX5 138 yJ9_min_7cf53 ∈ wAll := wA (tb3 (i := 58) (by rfl)) rfl
theorem kM_X5_141 : Cond.methodLink RX5 141 yX3_isEnd ∈ wAll := wA (tb3 (i := 59) (by rfl)) rfl
theorem kM_X5_121 : Cond.methodLink RX5 121 yX5_greatestInto ∈ wAll := wA (tb3 (i := 60) (by rfl)) rfl
theorem kN_X5_greatestInto : Cond.instanceMethod yX5_greatestInto ∈ wAll := wA (tb3 (i := 62) (by rfl)) rfl
theorem kK_X5_greatestInto : Cond.code yX5_greatestInto cX5_greatestInto 7 (some (.int)) ∈ wAll := wA (tb3 (i := 63) (by rfl)) rfl
theorem kM_X5_117 : Cond.methodLink RX5 117 yX5_isPossible ∈ wAll := wA (tb3 (i := 64) (by rfl)) rfl
theorem kN_X5_isPossible : Cond.instanceMethod yX5_isPossible ∈ wAll := wA (tb3 (i := 66) (by rfl)) rfl
theorem kK_X5_isPossible : Cond.code yX5_isPossible cX5_isPossible 3 (some (.boolean)) ∈ wAll := wA (tb3 (i := 67) (by rfl)) rfl
theorem kM_X5_124 : Cond.methodLink RX5 124 yX5_oneTurnBefore ∈ wAll := wA (tb3 (i := 68) (by rfl)) rfl
theorem kS_X5_oneTurnBefore : Cond.static yX5_oneTurnBefore ∈ wAll := wA (tb3 (i := 69) (by rfl)) rfl
theorem kK_X5_oneTurnBefore : Cond.code yX5_oneTurnBefore cX5_oneTurnBefore 1 (some (.int)) ∈ wAll := wA (tb3 (i := 70) (by rfl)) rfl
theorem kM_X5_113 : Cond.methodLink RX5 113 yX5_worthBy ∈ wAll := wA (tb3 (i := 71) (by rfl)) rfl
theorem kN_X5_worthBy : Cond.instanceMethod yX5_worthBy ∈ wAll := wA (tb3 (i := 73) (by rfl)) rfl
theorem kK_X5_worthBy : Cond.code yX5_worthBy cX5_worthBy 5 (some (.int)) ∈ wAll := wA (tb3 (i := 74) (by rfl)) rfl
theorem kM_L_58 : Cond.methodLink RL 58 yX6_greedy ∈ wAll := wA (tb3 (i := 75) (by rfl)) rfl
theorem kN_X6_greedy : Cond.instanceMethod yX6_greedy ∈ wAll := wA (tb3 (i := 76) (by rfl)) rfl
theorem kV_X6_greedy : Cond.selects RX6 yX6_greedy yX6_greedy ∈ wAll := wA (tb3 (i := 77) (by rfl)) rfl
theorem kK_X6_greedy : Cond.code yX6_greedy cX6_greedy 2 (some (.int)) ∈ wAll := wA (tb3 (i := 78) (by rfl)) rfl
theorem kM_X6_89 : Cond.methodLink RX6 89 yX2_greediest ∈ wAll := wA (tb3 (i := 79) (by rfl)) rfl
theorem kN_X2_greediest : Cond.instanceMethod yX2_greediest ∈ wAll := wA (tb3 (i := 80) (by rfl)) rfl
theorem kV_X2_greediest : Cond.selects RX2 yX2_greediest yX2_greediest ∈ wAll := wA (tb3 (i := 81) (by rfl)) rfl
theorem kK_X2_greediest : Cond.code yX2_greediest cX2_greediest 6 (some (.int)) ∈ wAll := wA (tb3 (i := 82) (by rfl)) rfl
theorem kM_X2_104 : Cond.methodLink RX2 104 yX3_rest ∈ wAll := wA (tb3 (i := 83) (by rfl)) rfl
theorem kM_L_61 : Cond.methodLink RL 61 yX6_drive ∈ wAll := wA (tb3 (i := 84) (by rfl)) rfl
theorem kN_X6_drive : Cond.instanceMethod yX6_drive ∈ wAll := wA (tb3 (i := 85) (by rfl)) rfl
theorem kV_X6_drive : Cond.selects RX6 yX6_drive yX6_drive ∈ wAll := wA (tb3 (i := 86) (by rfl)) rfl
theorem kK_X6_drive : Cond.code yX6_drive cX6_drive 3 (some (.int)) ∈ wAll := wA (tb3 (i := 87) (by rfl)) rfl
theorem kM_L_103 : Cond.methodLink RL 103 yL_holds ∈ wAll := wA (tb3 (i := 88) (by rfl)) rfl
theorem kS_L_holds : Cond.static yL_holds ∈ wAll := wA (tb3 (i := 89) (by rfl)) rfl
theorem kK_L_holds : Cond.code yL_holds cL_holds 11 (some (.boolean)) ∈ wAll := wA (tb3 (i := 90) (by rfl)) rfl
theorem kM_L_107 : Cond.methodLink RL 107 yL_isSure ∈ wAll := wA (tb3 (i := 91) (by rfl)) rfl
theorem kS_L_isSure : Cond.static yL_isSure ∈ wAll := wA (tb3 (i := 92) (by rfl)) rfl
theorem kK_L_isSure : Cond.code yL_isSure cL_isSure 6 (some (.boolean)) ∈ wAll := wA (tb3 (i := 93) (by rfl)) rfl
theorem kM_L_64 : Cond.methodLink RL 64 yX6_worth ∈ wAll := wA (tb3 (i := 94) (by rfl)) rfl
theorem kN_X6_worth : Cond.instanceMethod yX6_worth ∈ wAll := wA (tb3 (i := 95) (by rfl)) rfl
theorem kV_X6_worth : Cond.selects RX6 yX6_worth yX6_worth ∈ wAll := wA (tb3 (i := 96) (by rfl)) rfl
theorem kK_X6_worth : Cond.code yX6_worth cX6_worth 3 (some (.int)) ∈ wAll := wA (tb3 (i := 97) (by rfl)) rfl
theorem kM_X6_171 : Cond.methodLink RX6 171 yX5_toldInto ∈ wAll := wA (tb3 (i := 98) (by rfl)) rfl
theorem kN_X5_toldInto : Cond.instanceMethod yX5_toldInto ∈ wAll := wA (tb3 (i := 99) (by rfl)) rfl
theorem kV_X5_toldInto : Cond.selects RX5 yX5_toldInto yX5_toldInto ∈ wAll := wA (tb3 (i := 100) (by rfl)) rfl
theorem kK_X5_toldInto : Cond.code yX5_toldInto cX5_toldInto 2 (some (.int)) ∈ wAll := wA (tb3 (i := 101) (by rfl)) rfl
theorem kM_X6_174 : Cond.methodLink RX6 174 yX5_toldBySweeps ∈ wAll := wA (tb3 (i := 102) (by rfl)) rfl
theorem kN_X5_toldBySweeps : Cond.instanceMethod yX5_toldBySweeps ∈ wAll := wA (tb3 (i := 103) (by rfl)) rfl
theorem kV_X5_toldBySweeps : Cond.selects RX5 yX5_toldBySweeps yX5_toldBySweeps ∈ wAll := wA (tb3 (i := 104) (by rfl)) rfl
theorem kK_X5_toldBySweeps : Cond.code yX5_toldBySweeps cX5_toldBySweeps 5 (some (.int)) ∈ wAll := wA (tb3 (i := 105) (by rfl)) rfl
theorem kM_X5_102 : Cond.methodLink RX5 102 yX5_gather ∈ wAll := wA (tb3 (i := 106) (by rfl)) rfl
theorem kN_X5_gather : Cond.instanceMethod yX5_gather ∈ wAll := wA (tb3 (i := 108) (by rfl)) rfl
theorem kK_X5_gather : Cond.code yX5_gather cX5_gather 6 none ∈ wAll := wA (tb3 (i := 109) (by rfl)) rfl
theorem kM_X5_132 : Cond.methodLink RX5 132 yX5_guessAllAfter ∈ wAll := wA (tb3 (i := 110) (by rfl)) rfl
theorem kN_X5_guessAllAfter : Cond.instanceMethod yX5_guessAllAfter ∈ wAll := wA (tb3 (i := 112) (by rfl)) rfl
theorem kK_X5_guessAllAfter : Cond.code yX5_guessAllAfter cX5_guessAllAfter 4 none ∈ wAll := wA (tb3 (i := 113) (by rfl)) rfl
theorem kM_X5_106 : Cond.methodLink RX5 106 yX5_sweep ∈ wAll := wA (tb3 (i := 114) (by rfl)) rfl
theorem kN_X5_sweep : Cond.instanceMethod yX5_sweep ∈ wAll := wA (tb3 (i := 116) (by rfl)) rfl
theorem kK_X5_sweep : Cond.code yX5_sweep cX5_sweep 5 (some (.boolean)) ∈ wAll := wA (tb3 (i := 117) (by rfl)) rfl
theorem kM_X5_135 : Cond.methodLink RX5 135 yX5_greatestSwept ∈ wAll := wA (tb3 (i := 118) (by rfl)) rfl
theorem kN_X5_greatestSwept : Cond.instanceMethod yX5_greatestSwept ∈ wAll := wA (tb3 (i := 120) (by rfl)) rfl
theorem kK_X5_greatestSwept : Cond.code yX5_greatestSwept cX5_greatestSwept 4 (some (.int)) ∈ wAll := wA (tb3 (i := 121) (by rfl)) rfl
theorem kM_L_67 : Cond.methodLink RL 67 yX6_bestTurn ∈ wAll := wA (tb3 (i := 122) (by rfl)) rfl
theorem kN_X6_bestTurn : Cond.instanceMethod yX6_bestTurn ∈ wAll := wA (tb3 (i := 123) (by rfl)) rfl
theorem kV_X6_bestTurn : Cond.selects RX6 yX6_bestTurn yX6_bestTurn ∈ wAll := wA (tb3 (i := 124) (by rfl)) rfl
theorem kK_X6_bestTurn : Cond.code yX6_bestTurn cX6_bestTurn 1 (some (.int)) ∈ wAll := wA (tb3 (i := 125) (by rfl)) rfl
theorem kM_L_70 : Cond.methodLink RL 70 yX6_worthOf ∈ wAll := wA (tb3 (i := 126) (by rfl)) rfl
theorem kN_X6_worthOf : Cond.instanceMethod yX6_worthOf ∈ wAll := wA (tb3 (i := 127) (by rfl)) rfl
theorem kV_X6_worthOf : Cond.selects RX6 yX6_worthOf yX6_worthOf ∈ wAll := wA (tb3 (i := 128) (by rfl)) rfl
theorem kK_X6_worthOf : Cond.code yX6_worthOf cX6_worthOf 2 (some (.int)) ∈ wAll := wA (tb3 (i := 129) (by rfl)) rfl
theorem kM_X6_177 : Cond.methodLink RX6 177 yX5_ofTurn ∈ wAll := wA (tb3 (i := 130) (by rfl)) rfl
theorem kN_X5_ofTurn : Cond.instanceMethod yX5_ofTurn ∈ wAll := wA (tb3 (i := 131) (by rfl)) rfl
theorem kV_X5_ofTurn : Cond.selects RX5 yX5_ofTurn yX5_ofTurn ∈ wAll := wA (tb3 (i := 132) (by rfl)) rfl
theorem kK_X5_ofTurn : Cond.code yX5_ofTurn cX5_ofTurn 5 (some (.int)) ∈ wAll := wA (tb3 (i := 133) (by rfl)) rfl
theorem kM_L_73 : Cond.methodLink RL 73 yX6_ended ∈ wAll := wA (tb3 (i := 134) (by rfl)) rfl
theorem kN_X6_ended : Cond.instanceMethod yX6_ended ∈ wAll := wA (tb3 (i := 135) (by rfl)) rfl
theorem kV_X6_ended : Cond.selects RX6 yX6_ended yX6_ended ∈ wAll := wA (tb3 (i := 136) (by rfl)) rfl
theorem kK_X6_ended : Cond.code yX6_ended cX6_ended 7 (some (.int)) ∈ wAll := wA (tb3 (i := 137) (by rfl)) rfl
theorem kL_X0_rows : Cond.laysFinal RX0 "WagonLeaps$History" "rows" "[LWagonLeaps$Race;" ∈ wAll := wA (tb1 (i := 159) (by rfl)) rfl
theorem kL_X0_first : Cond.lays RX0 "WagonLeaps$History" "first" "I" ∈ wAll := wA (tb1 (i := 161) (by rfl)) rfl
theorem kL_X0_states : Cond.lays RX0 "WagonLeaps$History" "states" "I" ∈ wAll := wA (tb1 (i := 163) (by rfl)) rfl
theorem inA_X0 : ∀ w ∈ wsX00, w ∈ wAll := by
  show ∀ w ∈ [u_lay RX0 TX0 0, u_lay RX0 TX0 1, u_lay RX0 TX0 2], w ∈ wAll
  exact List.forall_mem_cons.mpr ⟨kL_X0_rows, List.forall_mem_cons.mpr ⟨kL_X0_first, List.forall_mem_cons.mpr ⟨kL_X0_states, fun _ h => absurd h List.not_mem_nil⟩⟩⟩
theorem kL_X1_signs : Cond.laysFinal RX1 "WagonLeaps$Pad" "signs" "[I" ∈ wAll := wA (tb1 (i := 175) (by rfl)) rfl
theorem kL_X1_length : Cond.lays RX1 "WagonLeaps$Pad" "length" "I" ∈ wAll := wA (tb1 (i := 177) (by rfl)) rfl
theorem inA_X1 : ∀ w ∈ wsX10, w ∈ wAll := by
  show ∀ w ∈ [u_lay RX1 TX1 0, u_lay RX1 TX1 1], w ∈ wAll
  exact List.forall_mem_cons.mpr ⟨kL_X1_signs, List.forall_mem_cons.mpr ⟨kL_X1_length, fun _ h => absurd h List.not_mem_nil⟩⟩
theorem kL_X2_way : Cond.laysFinal RX2 "WagonLeaps$Race" "way" "LWagonLeaps$Road;" ∈ wAll := wA (tb1 (i := 123) (by rfl)) rfl
theorem kL_X2_zero : Cond.laysFinal RX2 "WagonLeaps$Race" "zero" "LWagonLeaps$Wagon;" ∈ wAll := wA (tb1 (i := 125) (by rfl)) rfl
theorem kL_X2_one : Cond.laysFinal RX2 "WagonLeaps$Race" "one" "LWagonLeaps$Wagon;" ∈ wAll := wA (tb1 (i := 127) (by rfl)) rfl
theorem kL_X2_pace : Cond.lays RX2 "WagonLeaps$Race" "pace" "I" ∈ wAll := wA (tb1 (i := 129) (by rfl)) rfl
theorem kL_X2_stop : Cond.lays RX2 "WagonLeaps$Race" "stop" "I" ∈ wAll := wA (tb1 (i := 131) (by rfl)) rfl
theorem kL_X2_onTurn : Cond.lays RX2 "WagonLeaps$Race" "onTurn" "I" ∈ wAll := wA (tb1 (i := 133) (by rfl)) rfl
theorem kL_X2_winner : Cond.lays RX2 "WagonLeaps$Race" "winner" "I" ∈ wAll := wA (tb1 (i := 135) (by rfl)) rfl
theorem kL_X2_turns : Cond.lays RX2 "WagonLeaps$Race" "turns" "I" ∈ wAll := wA (tb1 (i := 137) (by rfl)) rfl
theorem kL_X2_began : Cond.lays RX2 "WagonLeaps$Race" "began" "I" ∈ wAll := wA (tb1 (i := 139) (by rfl)) rfl
theorem kL_X2_wonByZero : Cond.lays RX2 "WagonLeaps$Race" "wonByZero" "I" ∈ wAll := wA (tb1 (i := 141) (by rfl)) rfl
theorem kL_X2_wonByOne : Cond.lays RX2 "WagonLeaps$Race" "wonByOne" "I" ∈ wAll := wA (tb1 (i := 143) (by rfl)) rfl
theorem inA_X2 : ∀ w ∈ wsX20, w ∈ wAll := by
  show ∀ w ∈ [u_lay RX2 TX2 0, u_lay RX2 TX2 1, u_lay RX2 TX2 2, u_lay RX2 TX2 3, u_lay RX2 TX2 4, u_lay RX2 TX2 5, u_lay RX2 TX2 6, u_lay RX2 TX2 7, u_lay RX2 TX2 8, u_lay RX2 TX2 9, u_lay RX2 TX2 10], w ∈ wAll
  exact List.forall_mem_cons.mpr ⟨kL_X2_way, List.forall_mem_cons.mpr ⟨kL_X2_zero, List.forall_mem_cons.mpr ⟨kL_X2_one, List.forall_mem_cons.mpr ⟨kL_X2_pace, List.forall_mem_cons.mpr ⟨kL_X2_stop, List.forall_mem_cons.mpr ⟨kL_X2_onTurn, List.forall_mem_cons.mpr ⟨kL_X2_winner, List.forall_mem_cons.mpr ⟨kL_X2_turns, List.forall_mem_cons.mpr ⟨kL_X2_began, List.forall_mem_cons.mpr ⟨kL_X2_wonByZero, List.forall_mem_cons.mpr ⟨kL_X2_wonByOne, fun _ h => absurd h List.not_mem_nil⟩⟩⟩⟩⟩⟩⟩⟩⟩⟩⟩
theorem kL_X3_kinds : Cond.laysFinal RX3 "WagonLeaps$Road" "kinds" "[I" ∈ wAll := wA (tb1 (i := 37) (by rfl)) rfl
theorem kL_X3_miles : Cond.lays RX3 "WagonLeaps$Road" "miles" "I" ∈ wAll := wA (tb1 (i := 39) (by rfl)) rfl
theorem inA_X3 : ∀ w ∈ wsX30, w ∈ wAll := by
  show ∀ w ∈ [u_lay RX3 TX3 0, u_lay RX3 TX3 1], w ∈ wAll
  exact List.forall_mem_cons.mpr ⟨kL_X3_kinds, List.forall_mem_cons.mpr ⟨kL_X3_miles, fun _ h => absurd h List.not_mem_nil⟩⟩
theorem kL_X4_stands : Cond.laysFinal RX4 "WagonLeaps$Wagon" "stands" "[I" ∈ wAll := wA (tb1 (i := 68) (by rfl)) rfl
theorem kL_X4_place : Cond.lays RX4 "WagonLeaps$Wagon" "place" "I" ∈ wAll := wA (tb1 (i := 70) (by rfl)) rfl
theorem kL_X4_hasToken : Cond.lays RX4 "WagonLeaps$Wagon" "hasToken" "Z" ∈ wAll := wA (tb1 (i := 72) (by rfl)) rfl
theorem kL_X4_loses : Cond.lays RX4 "WagonLeaps$Wagon" "loses" "I" ∈ wAll := wA (tb1 (i := 74) (by rfl)) rfl
theorem kL_X4_turns : Cond.lays RX4 "WagonLeaps$Wagon" "turns" "I" ∈ wAll := wA (tb1 (i := 76) (by rfl)) rfl
theorem kL_X4_lost : Cond.lays RX4 "WagonLeaps$Wagon" "lost" "I" ∈ wAll := wA (tb1 (i := 78) (by rfl)) rfl
theorem kL_X4_leaps : Cond.lays RX4 "WagonLeaps$Wagon" "leaps" "I" ∈ wAll := wA (tb1 (i := 80) (by rfl)) rfl
theorem kL_X4_used : Cond.lays RX4 "WagonLeaps$Wagon" "used" "I" ∈ wAll := wA (tb1 (i := 82) (by rfl)) rfl
theorem kL_X4_rolled : Cond.lays RX4 "WagonLeaps$Wagon" "rolled" "I" ∈ wAll := wA (tb1 (i := 84) (by rfl)) rfl
theorem inA_X4 : ∀ w ∈ wsX40, w ∈ wAll := by
  show ∀ w ∈ [u_lay RX4 TX4 0, u_lay RX4 TX4 1, u_lay RX4 TX4 2, u_lay RX4 TX4 3, u_lay RX4 TX4 4, u_lay RX4 TX4 5, u_lay RX4 TX4 6, u_lay RX4 TX4 7, u_lay RX4 TX4 8], w ∈ wAll
  exact List.forall_mem_cons.mpr ⟨kL_X4_stands, List.forall_mem_cons.mpr ⟨kL_X4_place, List.forall_mem_cons.mpr ⟨kL_X4_hasToken, List.forall_mem_cons.mpr ⟨kL_X4_loses, List.forall_mem_cons.mpr ⟨kL_X4_turns, List.forall_mem_cons.mpr ⟨kL_X4_lost, List.forall_mem_cons.mpr ⟨kL_X4_leaps, List.forall_mem_cons.mpr ⟨kL_X4_used, List.forall_mem_cons.mpr ⟨kL_X4_rolled, fun _ h => absurd h List.not_mem_nil⟩⟩⟩⟩⟩⟩⟩⟩⟩
theorem kL_X5_way : Cond.laysFinal RX5 "WagonLeaps$Worths" "way" "LWagonLeaps$Road;" ∈ wAll := wA (tb1 (i := 216) (by rfl)) rfl
theorem kL_X5_rests : Cond.laysFinal RX5 "WagonLeaps$Worths" "rests" "[I" ∈ wAll := wA (tb1 (i := 218) (by rfl)) rfl
theorem kL_X5_tails : Cond.laysFinal RX5 "WagonLeaps$Worths" "tails" "[I" ∈ wAll := wA (tb1 (i := 220) (by rfl)) rfl
theorem kL_X5_told : Cond.laysFinal RX5 "WagonLeaps$Worths" "told" "[I" ∈ wAll := wA (tb1 (i := 222) (by rfl)) rfl
theorem kL_X5_swept : Cond.laysFinal RX5 "WagonLeaps$Worths" "swept" "[I" ∈ wAll := wA (tb1 (i := 224) (by rfl)) rfl
theorem kL_X5_coming : Cond.laysFinal RX5 "WagonLeaps$Worths" "coming" "[I" ∈ wAll := wA (tb1 (i := 226) (by rfl)) rfl
theorem kL_X5_gathered : Cond.lays RX5 "WagonLeaps$Worths" "gathered" "I" ∈ wAll := wA (tb1 (i := 228) (by rfl)) rfl
theorem kL_X5_pace : Cond.lays RX5 "WagonLeaps$Worths" "pace" "I" ∈ wAll := wA (tb1 (i := 230) (by rfl)) rfl
theorem kL_X5_stop : Cond.lays RX5 "WagonLeaps$Worths" "stop" "I" ∈ wAll := wA (tb1 (i := 232) (by rfl)) rfl
theorem inA_X5 : ∀ w ∈ wsX50, w ∈ wAll := by
  show ∀ w ∈ [u_lay RX5 TX5 0, u_lay RX5 TX5 1, u_lay RX5 TX5 2, u_lay RX5 TX5 3, u_lay RX5 TX5 4, u_lay RX5 TX5 5, u_lay RX5 TX5 6, u_lay RX5 TX5 7, u_lay RX5 TX5 8], w ∈ wAll
  exact List.forall_mem_cons.mpr ⟨kL_X5_way, List.forall_mem_cons.mpr ⟨kL_X5_rests, List.forall_mem_cons.mpr ⟨kL_X5_tails, List.forall_mem_cons.mpr ⟨kL_X5_told, List.forall_mem_cons.mpr ⟨kL_X5_swept, List.forall_mem_cons.mpr ⟨kL_X5_coming, List.forall_mem_cons.mpr ⟨kL_X5_gathered, List.forall_mem_cons.mpr ⟨kL_X5_pace, List.forall_mem_cons.mpr ⟨kL_X5_stop, fun _ h => absurd h List.not_mem_nil⟩⟩⟩⟩⟩⟩⟩⟩⟩
theorem kL_X6_now : Cond.laysFinal RX6 "WagonLeaps" "now" "LWagonLeaps$Race;" ∈ wAll := wA (tb2 (i := 4) (by rfl)) rfl
theorem kL_X6_imagined : Cond.laysFinal RX6 "WagonLeaps" "imagined" "LWagonLeaps$Race;" ∈ wAll := wA (tb2 (i := 6) (by rfl)) rfl
theorem kL_X6_snapshot : Cond.laysFinal RX6 "WagonLeaps" "snapshot" "LWagonLeaps$Race;" ∈ wAll := wA (tb2 (i := 8) (by rfl)) rfl
theorem kL_X6_history : Cond.laysFinal RX6 "WagonLeaps" "history" "LWagonLeaps$History;" ∈ wAll := wA (tb2 (i := 10) (by rfl)) rfl
theorem kL_X6_pad : Cond.laysFinal RX6 "WagonLeaps" "pad" "LWagonLeaps$Pad;" ∈ wAll := wA (tb2 (i := 12) (by rfl)) rfl
theorem kL_X6_worths : Cond.laysFinal RX6 "WagonLeaps" "worths" "LWagonLeaps$Worths;" ∈ wAll := wA (tb2 (i := 14) (by rfl)) rfl
theorem kL_X6_hasSnapshot : Cond.lays RX6 "WagonLeaps" "hasSnapshot" "Z" ∈ wAll := wA (tb2 (i := 16) (by rfl)) rfl
theorem kL_X6_stopPosition : Cond.lays RX6 "WagonLeaps" "stopPosition" "I" ∈ wAll := wA (tb2 (i := 18) (by rfl)) rfl
theorem kL_X6_stopReason : Cond.lays RX6 "WagonLeaps" "stopReason" "I" ∈ wAll := wA (tb2 (i := 20) (by rfl)) rfl
theorem inA_X6 : ∀ w ∈ wsX60, w ∈ wAll := by
  show ∀ w ∈ [u_lay RX6 TX6 0, u_lay RX6 TX6 1, u_lay RX6 TX6 2, u_lay RX6 TX6 3, u_lay RX6 TX6 4, u_lay RX6 TX6 5, u_lay RX6 TX6 6, u_lay RX6 TX6 7, u_lay RX6 TX6 8], w ∈ wAll
  exact List.forall_mem_cons.mpr ⟨kL_X6_now, List.forall_mem_cons.mpr ⟨kL_X6_imagined, List.forall_mem_cons.mpr ⟨kL_X6_snapshot, List.forall_mem_cons.mpr ⟨kL_X6_history, List.forall_mem_cons.mpr ⟨kL_X6_pad, List.forall_mem_cons.mpr ⟨kL_X6_worths, List.forall_mem_cons.mpr ⟨kL_X6_hasSnapshot, List.forall_mem_cons.mpr ⟨kL_X6_stopPosition, List.forall_mem_cons.mpr ⟨kL_X6_stopReason, fun _ h => absurd h List.not_mem_nil⟩⟩⟩⟩⟩⟩⟩⟩⟩
/-- words of nest mates: kept beside, each contract bids them of its start -/
def nWs : List Cond := [Cond.methodLinkNest RX2 11 yX3_init "WagonLeaps", Cond.fieldLinkNest RX1 49 "WagonLeaps$Road" "kinds" "[I" "WagonLeaps", Cond.fieldLinkNest RX5 145 "WagonLeaps$Road" "kinds" "[I" "WagonLeaps", Cond.fieldLinkNest RX5 83 "WagonLeaps$Road" "miles" "I" "WagonLeaps", Cond.fieldLinkNest RX1 44 "WagonLeaps$Road" "miles" "I" "WagonLeaps", Cond.fieldLinkNest RX6 104 "WagonLeaps$Road" "miles" "I" "WagonLeaps", Cond.methodLinkNest RX2 20 yX4_init "WagonLeaps", Cond.fieldLinkNest RX6 153 "WagonLeaps$Wagon" "stands" "[I" "WagonLeaps", Cond.fieldLinkNest RX6 66 "WagonLeaps$Wagon" "place" "I" "WagonLeaps", Cond.fieldLinkNest RX2 64 "WagonLeaps$Wagon" "place" "I" "WagonLeaps", Cond.fieldLinkNest RX5 161 "WagonLeaps$Wagon" "place" "I" "WagonLeaps", Cond.fieldLinkNest RX2 78 "WagonLeaps$Wagon" "hasToken" "Z" "WagonLeaps", Cond.fieldLinkNest RX5 155 "WagonLeaps$Wagon" "hasToken" "Z" "WagonLeaps", Cond.fieldLinkNest RX6 74 "WagonLeaps$Wagon" "loses" "I" "WagonLeaps", Cond.fieldLinkNest RX2 75 "WagonLeaps$Wagon" "loses" "I" "WagonLeaps", Cond.fieldLinkNest RX5 164 "WagonLeaps$Wagon" "loses" "I" "WagonLeaps", Cond.fieldLinkNest RX2 96 "WagonLeaps$Wagon" "turns" "I" "WagonLeaps", Cond.methodLinkNest RX4 15 yX6_fillRow "WagonLeaps", Cond.fieldLinkNest RX5 67 "WagonLeaps$Race" "way" "LWagonLeaps$Road;" "WagonLeaps", Cond.fieldLinkNest RX6 100 "WagonLeaps$Race" "way" "LWagonLeaps$Road;" "WagonLeaps", Cond.fieldLinkNest RX6 149 "WagonLeaps$Race" "zero" "LWagonLeaps$Wagon;" "WagonLeaps", Cond.fieldLinkNest RX6 161 "WagonLeaps$Race" "one" "LWagonLeaps$Wagon;" "WagonLeaps", Cond.fieldLinkNest RX5 63 "WagonLeaps$Race" "pace" "I" "WagonLeaps", Cond.fieldLinkNest RX6 109 "WagonLeaps$Race" "pace" "I" "WagonLeaps", Cond.fieldLinkNest RX5 66 "WagonLeaps$Race" "stop" "I" "WagonLeaps", Cond.fieldLinkNest RX6 112 "WagonLeaps$Race" "stop" "I" "WagonLeaps", Cond.fieldLinkNest RX6 181 "WagonLeaps$Race" "onTurn" "I" "WagonLeaps", Cond.fieldLinkNest RX6 184 "WagonLeaps$Race" "winner" "I" "WagonLeaps", Cond.fieldLinkNest RX6 187 "WagonLeaps$Race" "turns" "I" "WagonLeaps", Cond.fieldLinkNest RX6 193 "WagonLeaps$Race" "began" "I" "WagonLeaps", Cond.fieldLinkNest RX6 196 "WagonLeaps$Race" "wonByZero" "I" "WagonLeaps", Cond.fieldLinkNest RX6 199 "WagonLeaps$Race" "wonByOne" "I" "WagonLeaps", Cond.arrayOver (.object RX2), Cond.fieldLinkNest RX6 202 "WagonLeaps$History" "states" "I" "WagonLeaps", Cond.methodLinkNest RX6 31 yX1_init "WagonLeaps", Cond.fieldLinkNest RX6 131 "WagonLeaps$Pad" "length" "I" "WagonLeaps", Cond.methodLinkNest RX5 11 yX3_init "WagonLeaps", Cond.methodLinkNest RX5 59 yX6_put "WagonLeaps", Cond.methodLinkNest RX3 19 yX6_copyRow "WagonLeaps", Cond.methodLinkNest RX4 45 yX6_copyRow "WagonLeaps", Cond.methodLinkNest RX1 19 yX6_put "WagonLeaps", Cond.methodLinkNest RX1 23 yX6_at "WagonLeaps", Cond.methodLinkNest RX4 49 yX6_at "WagonLeaps", Cond.methodLinkNest RX4 53 yX6_put "WagonLeaps", Cond.methodLinkNest RX5 79 yX6_fillRow "WagonLeaps", Cond.methodLinkNest RX5 98 yX6_at "WagonLeaps"]
theorem nWs_tbl : ∀ w ∈ nWs, w ∈ lw_tbl := by
  show ∀ w ∈ [Cond.methodLinkNest RX2 11 yX3_init "WagonLeaps", Cond.fieldLinkNest RX1 49 "WagonLeaps$Road" "kinds" "[I" "WagonLeaps", Cond.fieldLinkNest RX5 145 "WagonLeaps$Road" "kinds" "[I" "WagonLeaps", Cond.fieldLinkNest RX5 83 "WagonLeaps$Road" "miles" "I" "WagonLeaps", Cond.fieldLinkNest RX1 44 "WagonLeaps$Road" "miles" "I" "WagonLeaps", Cond.fieldLinkNest RX6 104 "WagonLeaps$Road" "miles" "I" "WagonLeaps", Cond.methodLinkNest RX2 20 yX4_init "WagonLeaps", Cond.fieldLinkNest RX6 153 "WagonLeaps$Wagon" "stands" "[I" "WagonLeaps", Cond.fieldLinkNest RX6 66 "WagonLeaps$Wagon" "place" "I" "WagonLeaps", Cond.fieldLinkNest RX2 64 "WagonLeaps$Wagon" "place" "I" "WagonLeaps", Cond.fieldLinkNest RX5 161 "WagonLeaps$Wagon" "place" "I" "WagonLeaps", Cond.fieldLinkNest RX2 78 "WagonLeaps$Wagon" "hasToken" "Z" "WagonLeaps", Cond.fieldLinkNest RX5 155 "WagonLeaps$Wagon" "hasToken" "Z" "WagonLeaps", Cond.fieldLinkNest RX6 74 "WagonLeaps$Wagon" "loses" "I" "WagonLeaps", Cond.fieldLinkNest RX2 75 "WagonLeaps$Wagon" "loses" "I" "WagonLeaps", Cond.fieldLinkNest RX5 164 "WagonLeaps$Wagon" "loses" "I" "WagonLeaps", Cond.fieldLinkNest RX2 96 "WagonLeaps$Wagon" "turns" "I" "WagonLeaps", Cond.methodLinkNest RX4 15 yX6_fillRow "WagonLeaps", Cond.fieldLinkNest RX5 67 "WagonLeaps$Race" "way" "LWagonLeaps$Road;" "WagonLeaps", Cond.fieldLinkNest RX6 100 "WagonLeaps$Race" "way" "LWagonLeaps$Road;" "WagonLeaps", Cond.fieldLinkNest RX6 149 "WagonLeaps$Race" "zero" "LWagonLeaps$Wagon;" "WagonLeaps", Cond.fieldLinkNest RX6 161 "WagonLeaps$Race" "one" "LWagonLeaps$Wagon;" "WagonLeaps", Cond.fieldLinkNest RX5 63 "WagonLeaps$Race" "pace" "I" "WagonLeaps", Cond.fieldLinkNest RX6 109 "WagonLeaps$Race" "pace" "I" "WagonLeaps", Cond.fieldLinkNest RX5 66 "WagonLeaps$Race" "stop" "I" "WagonLeaps", Cond.fieldLinkNest RX6 112 "WagonLeaps$Race" "stop" "I" "WagonLeaps", Cond.fieldLinkNest RX6 181 "WagonLeaps$Race" "onTurn" "I" "WagonLeaps", Cond.fieldLinkNest RX6 184 "WagonLeaps$Race" "winner" "I" "WagonLeaps", Cond.fieldLinkNest RX6 187 "WagonLeaps$Race" "turns" "I" "WagonLeaps", Cond.fieldLinkNest RX6 193 "WagonLeaps$Race" "began" "I" "WagonLeaps", Cond.fieldLinkNest RX6 196 "WagonLeaps$Race" "wonByZero" "I" "WagonLeaps", Cond.fieldLinkNest RX6 199 "WagonLeaps$Race" "wonByOne" "I" "WagonLeaps", Cond.arrayOver (.object RX2), Cond.fieldLinkNest RX6 202 "WagonLeaps$History" "states" "I" "WagonLeaps", Cond.methodLinkNest RX6 31 yX1_init "WagonLeaps", Cond.fieldLinkNest RX6 131 "WagonLeaps$Pad" "length" "I" "WagonLeaps", Cond.methodLinkNest RX5 11 yX3_init "WagonLeaps", Cond.methodLinkNest RX5 59 yX6_put "WagonLeaps", Cond.methodLinkNest RX3 19 yX6_copyRow "WagonLeaps", Cond.methodLinkNest RX4 45 yX6_copyRow "WagonLeaps", Cond.methodLinkNest RX1 19 yX6_put "WagonLeaps", Cond.methodLinkNest RX1 23 yX6_at "WagonLeaps", Cond.methodLinkNest RX4 49 yX6_at "WagonLeaps", Cond.methodLinkNest RX4 53 yX6_put "WagonLeaps", Cond.methodLinkNest RX5 79 yX6_fillRow "WagonLeaps", Cond.methodLinkNest RX5 98 yX6_at "WagonLeaps"], w ∈ lw_tbl
  exact List.forall_mem_cons.mpr ⟨tb1 (i := 26) (by rfl), List.forall_mem_cons.mpr ⟨tb1 (i := 31) (by rfl), List.forall_mem_cons.mpr ⟨tb1 (i := 32) (by rfl), List.forall_mem_cons.mpr ⟨tb1 (i := 34) (by rfl), List.forall_mem_cons.mpr ⟨tb1 (i := 35) (by rfl), List.forall_mem_cons.mpr ⟨tb1 (i := 36) (by rfl), List.forall_mem_cons.mpr ⟨tb1 (i := 45) (by rfl), List.forall_mem_cons.mpr ⟨tb1 (i := 50) (by rfl), List.forall_mem_cons.mpr ⟨tb1 (i := 52) (by rfl), List.forall_mem_cons.mpr ⟨tb1 (i := 53) (by rfl), List.forall_mem_cons.mpr ⟨tb1 (i := 54) (by rfl), List.forall_mem_cons.mpr ⟨tb1 (i := 56) (by rfl), List.forall_mem_cons.mpr ⟨tb1 (i := 57) (by rfl), List.forall_mem_cons.mpr ⟨tb1 (i := 59) (by rfl), List.forall_mem_cons.mpr ⟨tb1 (i := 60) (by rfl), List.forall_mem_cons.mpr ⟨tb1 (i := 61) (by rfl), List.forall_mem_cons.mpr ⟨tb1 (i := 63) (by rfl), List.forall_mem_cons.mpr ⟨tb1 (i := 95) (by rfl), List.forall_mem_cons.mpr ⟨tb1 (i := 99) (by rfl), List.forall_mem_cons.mpr ⟨tb1 (i := 100) (by rfl), List.forall_mem_cons.mpr ⟨tb1 (i := 102) (by rfl), List.forall_mem_cons.mpr ⟨tb1 (i := 104) (by rfl), List.forall_mem_cons.mpr ⟨tb1 (i := 106) (by rfl), List.forall_mem_cons.mpr ⟨tb1 (i := 107) (by rfl), List.forall_mem_cons.mpr ⟨tb1 (i := 109) (by rfl), List.forall_mem_cons.mpr ⟨tb1 (i := 110) (by rfl), List.forall_mem_cons.mpr ⟨tb1 (i := 112) (by rfl), List.forall_mem_cons.mpr ⟨tb1 (i := 114) (by rfl), List.forall_mem_cons.mpr ⟨tb1 (i := 116) (by rfl), List.forall_mem_cons.mpr ⟨tb1 (i := 118) (by rfl), List.forall_mem_cons.mpr ⟨tb1 (i := 120) (by rfl), List.forall_mem_cons.mpr ⟨tb1 (i := 122) (by rfl), List.forall_mem_cons.mpr ⟨tb1 (i := 153) (by rfl), List.forall_mem_cons.mpr ⟨tb1 (i := 158) (by rfl), List.forall_mem_cons.mpr ⟨tb1 (i := 168) (by rfl), List.forall_mem_cons.mpr ⟨tb1 (i := 174) (by rfl), List.forall_mem_cons.mpr ⟨tb1 (i := 187) (by rfl), List.forall_mem_cons.mpr ⟨tb1 (i := 204) (by rfl), List.forall_mem_cons.mpr ⟨tb2 (i := 70) (by rfl), List.forall_mem_cons.mpr ⟨tb2 (i := 77) (by rfl), List.forall_mem_cons.mpr ⟨tb2 (i := 155) (by rfl), List.forall_mem_cons.mpr ⟨tb2 (i := 168) (by rfl), List.forall_mem_cons.mpr ⟨tb2 (i := 229) (by rfl), List.forall_mem_cons.mpr ⟨tb2 (i := 230) (by rfl), List.forall_mem_cons.mpr ⟨tb3 (i := 36) (by rfl), List.forall_mem_cons.mpr ⟨tb3 (i := 50) (by rfl), fun _ h => absurd h List.not_mem_nil⟩⟩⟩⟩⟩⟩⟩⟩⟩⟩⟩⟩⟩⟩⟩⟩⟩⟩⟩⟩⟩⟩⟩⟩⟩⟩⟩⟩⟩⟩⟩⟩⟩⟩⟩⟩⟩⟩⟩⟩⟩⟩⟩⟩⟩⟩
def nst (U : State) : Prop := ∀ w ∈ nWs, va_Nw w U
theorem nM_X2_11 {U : State} (h : nst U) : va_Nw (Cond.methodLinkNest RX2 11 yX3_init "WagonLeaps") U := h _ (List.mem_of_getElem? (i := 0) rfl)
theorem nF_X1_49 {U : State} (h : nst U) : va_Nw (Cond.fieldLinkNest RX1 49 "WagonLeaps$Road" "kinds" "[I" "WagonLeaps") U := h _ (List.mem_of_getElem? (i := 1) rfl)
theorem nF_X5_145 {U : State} (h : nst U) : va_Nw (Cond.fieldLinkNest RX5 145 "WagonLeaps$Road" "kinds" "[I" "WagonLeaps") U := h _ (List.mem_of_getElem? (i := 2) rfl)
theorem nF_X5_83 {U : State} (h : nst U) : va_Nw (Cond.fieldLinkNest RX5 83 "WagonLeaps$Road" "miles" "I" "WagonLeaps") U := h _ (List.mem_of_getElem? (i := 3) rfl)
theorem nF_X1_44 {U : State} (h : nst U) : va_Nw (Cond.fieldLinkNest RX1 44 "WagonLeaps$Road" "miles" "I" "WagonLeaps") U := h _ (List.mem_of_getElem? (i := 4) rfl)
theorem nF_X6_104 {U : State} (h : nst U) : va_Nw (Cond.fieldLinkNest RX6 104 "WagonLeaps$Road" "miles" "I" "WagonLeaps") U := h _ (List.mem_of_getElem? (i := 5) rfl)
theorem nM_X2_20 {U : State} (h : nst U) : va_Nw (Cond.methodLinkNest RX2 20 yX4_init "WagonLeaps") U := h _ (List.mem_of_getElem? (i := 6) rfl)
theorem nF_X6_153 {U : State} (h : nst U) : va_Nw (Cond.fieldLinkNest RX6 153 "WagonLeaps$Wagon" "stands" "[I" "WagonLeaps") U := h _ (List.mem_of_getElem? (i := 7) rfl)
theorem nF_X6_66 {U : State} (h : nst U) : va_Nw (Cond.fieldLinkNest RX6 66 "WagonLeaps$Wagon" "place" "I" "WagonLeaps") U := h _ (List.mem_of_getElem? (i := 8) rfl)
theorem nF_X2_64 {U : State} (h : nst U) : va_Nw (Cond.fieldLinkNest RX2 64 "WagonLeaps$Wagon" "place" "I" "WagonLeaps") U := h _ (List.mem_of_getElem? (i := 9) rfl)
theorem nF_X5_161 {U : State} (h : nst U) : va_Nw (Cond.fieldLinkNest RX5 161 "WagonLeaps$Wagon" "place" "I" "WagonLeaps") U := h _ (List.mem_of_getElem? (i := 10) rfl)
theorem nF_X2_78 {U : State} (h : nst U) : va_Nw (Cond.fieldLinkNest RX2 78 "WagonLeaps$Wagon" "hasToken" "Z" "WagonLeaps") U := h _ (List.mem_of_getElem? (i := 11) rfl)
theorem nF_X5_155 {U : State} (h : nst U) : va_Nw (Cond.fieldLinkNest RX5 155 "WagonLeaps$Wagon" "hasToken" "Z" "WagonLeaps") U := h _ (List.mem_of_getElem? (i := 12) rfl)
theorem nF_X6_74 {U : State} (h : nst U) : va_Nw (Cond.fieldLinkNest RX6 74 "WagonLeaps$Wagon" "loses" "I" "WagonLeaps") U := h _ (List.mem_of_getElem? (i := 13) rfl)
theorem nF_X2_75 {U : State} (h : nst U) : va_Nw (Cond.fieldLinkNest RX2 75 "WagonLeaps$Wagon" "loses" "I" "WagonLeaps") U := h _ (List.mem_of_getElem? (i := 14) rfl)
theorem nF_X5_164 {U : State} (h : nst U) : va_Nw (Cond.fieldLinkNest RX5 164 "WagonLeaps$Wagon" "loses" "I" "WagonLeaps") U := h _ (List.mem_of_getElem? (i := 15) rfl)
theorem nF_X2_96 {U : State} (h : nst U) : va_Nw (Cond.fieldLinkNest RX2 96 "WagonLeaps$Wagon" "turns" "I" "WagonLeaps") U := h _ (List.mem_of_getElem? (i := 16) rfl)
theorem nM_X4_15 {U : State} (h : nst U) : va_Nw (Cond.methodLinkNest RX4 15 yX6_fillRow "WagonLeaps") U := h _ (List.mem_of_getElem? (i := 17) rfl)
theorem nF_X5_67 {U : State} (h : nst U) : va_Nw (Cond.fieldLinkNest RX5 67 "WagonLeaps$Race" "way" "LWagonLeaps$Road;" "WagonLeaps") U := h _ (List.mem_of_getElem? (i := 18) rfl)
theorem nF_X6_100 {U : State} (h : nst U) : va_Nw (Cond.fieldLinkNest RX6 100 "WagonLeaps$Race" "way" "LWagonLeaps$Road;" "WagonLeaps") U := h _ (List.mem_of_getElem? (i := 19) rfl)
theorem nF_X6_149 {U : State} (h : nst U) : va_Nw (Cond.fieldLinkNest RX6 149 "WagonLeaps$Race" "zero" "LWagonLeaps$Wagon;" "WagonLeaps") U := h _ (List.mem_of_getElem? (i := 20) rfl)
theorem nF_X6_161 {U : State} (h : nst U) : va_Nw (Cond.fieldLinkNest RX6 161 "WagonLeaps$Race" "one" "LWagonLeaps$Wagon;" "WagonLeaps") U := h _ (List.mem_of_getElem? (i := 21) rfl)
theorem nF_X5_63 {U : State} (h : nst U) : va_Nw (Cond.fieldLinkNest RX5 63 "WagonLeaps$Race" "pace" "I" "WagonLeaps") U := h _ (List.mem_of_getElem? (i := 22) rfl)
theorem nF_X6_109 {U : State} (h : nst U) : va_Nw (Cond.fieldLinkNest RX6 109 "WagonLeaps$Race" "pace" "I" "WagonLeaps") U := h _ (List.mem_of_getElem? (i := 23) rfl)
theorem nF_X5_66 {U : State} (h : nst U) : va_Nw (Cond.fieldLinkNest RX5 66 "WagonLeaps$Race" "stop" "I" "WagonLeaps") U := h _ (List.mem_of_getElem? (i := 24) rfl)
theorem nF_X6_112 {U : State} (h : nst U) : va_Nw (Cond.fieldLinkNest RX6 112 "WagonLeaps$Race" "stop" "I" "WagonLeaps") U := h _ (List.mem_of_getElem? (i := 25) rfl)
theorem nF_X6_181 {U : State} (h : nst U) : va_Nw (Cond.fieldLinkNest RX6 181 "WagonLeaps$Race" "onTurn" "I" "WagonLeaps") U := h _ (List.mem_of_getElem? (i := 26) rfl)
theorem nF_X6_184 {U : State} (h : nst U) : va_Nw (Cond.fieldLinkNest RX6 184 "WagonLeaps$Race" "winner" "I" "WagonLeaps") U := h _ (List.mem_of_getElem? (i := 27) rfl)
theorem nF_X6_187 {U : State} (h : nst U) : va_Nw (Cond.fieldLinkNest RX6 187 "WagonLeaps$Race" "turns" "I" "WagonLeaps") U := h _ (List.mem_of_getElem? (i := 28) rfl)
theorem nF_X6_193 {U : State} (h : nst U) : va_Nw (Cond.fieldLinkNest RX6 193 "WagonLeaps$Race" "began" "I" "WagonLeaps") U := h _ (List.mem_of_getElem? (i := 29) rfl)
theorem nF_X6_196 {U : State} (h : nst U) : va_Nw (Cond.fieldLinkNest RX6 196 "WagonLeaps$Race" "wonByZero" "I" "WagonLeaps") U := h _ (List.mem_of_getElem? (i := 30) rfl)
theorem nF_X6_199 {U : State} (h : nst U) : va_Nw (Cond.fieldLinkNest RX6 199 "WagonLeaps$Race" "wonByOne" "I" "WagonLeaps") U := h _ (List.mem_of_getElem? (i := 31) rfl)
theorem nA_race {U : State} (h : nst U) : va_Nw (Cond.arrayOver (.object RX2)) U := h _ (List.mem_of_getElem? (i := 32) rfl)
theorem nF_X6_202 {U : State} (h : nst U) : va_Nw (Cond.fieldLinkNest RX6 202 "WagonLeaps$History" "states" "I" "WagonLeaps") U := h _ (List.mem_of_getElem? (i := 33) rfl)
theorem nM_X6_31 {U : State} (h : nst U) : va_Nw (Cond.methodLinkNest RX6 31 yX1_init "WagonLeaps") U := h _ (List.mem_of_getElem? (i := 34) rfl)
theorem nF_X6_131 {U : State} (h : nst U) : va_Nw (Cond.fieldLinkNest RX6 131 "WagonLeaps$Pad" "length" "I" "WagonLeaps") U := h _ (List.mem_of_getElem? (i := 35) rfl)
theorem nM_X5_11 {U : State} (h : nst U) : va_Nw (Cond.methodLinkNest RX5 11 yX3_init "WagonLeaps") U := h _ (List.mem_of_getElem? (i := 36) rfl)
theorem nM_X5_59 {U : State} (h : nst U) : va_Nw (Cond.methodLinkNest RX5 59 yX6_put "WagonLeaps") U := h _ (List.mem_of_getElem? (i := 37) rfl)
theorem nM_X3_19 {U : State} (h : nst U) : va_Nw (Cond.methodLinkNest RX3 19 yX6_copyRow "WagonLeaps") U := h _ (List.mem_of_getElem? (i := 38) rfl)
theorem nM_X4_45 {U : State} (h : nst U) : va_Nw (Cond.methodLinkNest RX4 45 yX6_copyRow "WagonLeaps") U := h _ (List.mem_of_getElem? (i := 39) rfl)
theorem nM_X1_19 {U : State} (h : nst U) : va_Nw (Cond.methodLinkNest RX1 19 yX6_put "WagonLeaps") U := h _ (List.mem_of_getElem? (i := 40) rfl)
theorem nM_X1_23 {U : State} (h : nst U) : va_Nw (Cond.methodLinkNest RX1 23 yX6_at "WagonLeaps") U := h _ (List.mem_of_getElem? (i := 41) rfl)
theorem nM_X4_49 {U : State} (h : nst U) : va_Nw (Cond.methodLinkNest RX4 49 yX6_at "WagonLeaps") U := h _ (List.mem_of_getElem? (i := 42) rfl)
theorem nM_X4_53 {U : State} (h : nst U) : va_Nw (Cond.methodLinkNest RX4 53 yX6_put "WagonLeaps") U := h _ (List.mem_of_getElem? (i := 43) rfl)
theorem nM_X5_79 {U : State} (h : nst U) : va_Nw (Cond.methodLinkNest RX5 79 yX6_fillRow "WagonLeaps") U := h _ (List.mem_of_getElem? (i := 44) rfl)
theorem nM_X5_98 {U : State} (h : nst U) : va_Nw (Cond.methodLinkNest RX5 98 yX6_at "WagonLeaps") U := h _ (List.mem_of_getElem? (i := 45) rfl)

/-! the methods: name, code, locals, answer; their words -/
def ifn (r : Option Nat) (A : Prop) (B : Nat → Prop) : Prop := match r with
  | none => A
  | some x => B x
theorem tb1 {w : Cond} (h : w ∈ tables_1_1) : w ∈ lw_tbl := by unfold lw_tbl tables_1; simp only [List.mem_append]; simp [h]
theorem tb2 {w : Cond} (h : w ∈ tables_1_2) : w ∈ lw_tbl := by unfold lw_tbl tables_1; simp only [List.mem_append]; simp [h]
theorem tb3 {w : Cond} (h : w ∈ tables_1_3) : w ∈ lw_tbl := by unfold lw_tbl tables_1; simp only [List.mem_append]; simp [h]
theorem tb4 {w : Cond} (h : w ∈ tables_1_4) : w ∈ lw_tbl := by unfold lw_tbl tables_1; simp only [List.mem_append]; simp [h]
theorem tb5 {w : Cond} (h : w ∈ tables_1_5) : w ∈ lw_tbl := by unfold lw_tbl tables_1; simp only [List.mem_append]; simp [h]
theorem tb6 {w : Cond} (h : w ∈ tables_1_6) : w ∈ lw_tbl := by unfold lw_tbl tables_1; simp only [List.mem_append]; simp [h]
theorem tb7 {w : Cond} (h : w ∈ tables_1_7) : w ∈ lw_tbl := by unfold lw_tbl tables_1; simp only [List.mem_append]; simp [h]
theorem tp1 {w : Cond} (h : w ∈ k2_sels lw_privs_1) : w ∈ lw_tbl := by unfold lw_tbl lw_privs; unfold k2_sels at h ⊢; simp only [List.map_append, List.mem_append]; simp only [h, true_or, or_true]
theorem tp2 {w : Cond} (h : w ∈ k2_sels lw_privs_2) : w ∈ lw_tbl := by unfold lw_tbl lw_privs; unfold k2_sels at h ⊢; simp only [List.map_append, List.mem_append]; simp only [h, true_or, or_true]
theorem tp3 {w : Cond} (h : w ∈ k2_sels lw_privs_3) : w ∈ lw_tbl := by unfold lw_tbl lw_privs; unfold k2_sels at h ⊢; simp only [List.map_append, List.mem_append]; simp only [h, true_or, or_true]
theorem tp4 {w : Cond} (h : w ∈ k2_sels lw_privs_4) : w ∈ lw_tbl := by unfold lw_tbl lw_privs; unfold k2_sels at h ⊢; simp only [List.map_append, List.mem_append]; simp only [h, true_or, or_true]
theorem tp5 {w : Cond} (h : w ∈ k2_sels lw_privs_5) : w ∈ lw_tbl := by unfold lw_tbl lw_privs; unfold k2_sels at h ⊢; simp only [List.map_append, List.mem_append]; simp only [h, true_or, or_true]
theorem tp6 {w : Cond} (h : w ∈ k2_sels lw_privs_6) : w ∈ lw_tbl := by unfold lw_tbl lw_privs; unfold k2_sels at h ⊢; simp only [List.map_append, List.mem_append]; simp only [h, true_or, or_true]
theorem tp7 {w : Cond} (h : w ∈ k2_sels lw_privs_7) : w ∈ lw_tbl := by unfold lw_tbl lw_privs; unfold k2_sels at h ⊢; simp only [List.map_append, List.mem_append]; simp only [h, true_or, or_true]
theorem inX9 : Cond.initialized RX9 ∈ lw_good := good_in (tb1 (List.mem_of_getElem? (i := 1) rfl)) rfl
theorem inX0 : Cond.initialized RX0 ∈ lw_good := good_in (tb1 (List.mem_of_getElem? (i := 8) rfl)) rfl
theorem inX1 : Cond.initialized RX1 ∈ lw_good := good_in (tb1 (List.mem_of_getElem? (i := 7) rfl)) rfl
theorem inX2 : Cond.initialized RX2 ∈ lw_good := good_in (tb1 (List.mem_of_getElem? (i := 9) rfl)) rfl
theorem inX3 : Cond.initialized RX3 ∈ lw_good := good_in (tb1 (List.mem_of_getElem? (i := 2) rfl)) rfl
theorem inX4 : Cond.initialized RX4 ∈ lw_good := good_in (tb1 (List.mem_of_getElem? (i := 6) rfl)) rfl
theorem inX5 : Cond.initialized RX5 ∈ lw_good := good_in (tb1 (List.mem_of_getElem? (i := 4) rfl)) rfl
theorem inX6 : Cond.initialized RX6 ∈ lw_good := good_in (tb1 (List.mem_of_getElem? (i := 5) rfl)) rfl
theorem inX7 : Cond.initialized RX7 ∈ lw_good := good_in (tb1 (List.mem_of_getElem? (i := 10) rfl)) rfl
theorem inX8 : Cond.initialized RX8 ∈ lw_good := good_in (tb1 (List.mem_of_getElem? (i := 3) rfl)) rfl
theorem inX10 : Cond.initialized RX10 ∈ lw_good := good_in (tb1 (List.mem_of_getElem? (i := 11) rfl)) rfl
theorem inJ6 : Cond.initialized RJ6 ∈ lw_good := good_in (tb1 (List.mem_of_getElem? (i := 17) rfl)) rfl
theorem inJ9 : Cond.initialized RJ9 ∈ lw_good := good_in (tb1 (List.mem_of_getElem? (i := 12) rfl)) rfl
theorem inJ0 : Cond.initialized RJ0 ∈ lw_good := good_in (tb1 (List.mem_of_getElem? (i := 13) rfl)) rfl
theorem inJ1 : Cond.initialized RJ1 ∈ lw_good := good_in (tb1 (List.mem_of_getElem? (i := 14) rfl)) rfl
theorem inJ2 : Cond.initialized RJ2 ∈ lw_good := good_in (tb1 (List.mem_of_getElem? (i := 16) rfl)) rfl
theorem inJ3 : Cond.initialized RJ3 ∈ lw_good := good_in (tb1 (List.mem_of_getElem? (i := 15) rfl)) rfl
theorem itX9 : Cond.instantiable (cC 9) (cN 9) ∈ lw_good := good_in (tb1 (List.mem_of_getElem? (i := 19) rfl)) rfl
theorem itX0 : Cond.instantiable (cC 0) (cN 0) ∈ lw_good := good_in (tb2 (List.mem_of_getElem? (i := 18) rfl)) rfl
theorem itX1 : Cond.instantiable (cC 1) (cN 1) ∈ lw_good := good_in (tb1 (List.mem_of_getElem? (i := 234) rfl)) rfl
theorem itX2 : Cond.instantiable (cC 2) (cN 2) ∈ lw_good := good_in (tb2 (List.mem_of_getElem? (i := 58) rfl)) rfl
theorem itX3 : Cond.instantiable (cC 3) (cN 3) ∈ lw_good := good_in (tb1 (List.mem_of_getElem? (i := 29) rfl)) rfl
theorem itX4 : Cond.instantiable (cC 4) (cN 4) ∈ lw_good := good_in (tb1 (List.mem_of_getElem? (i := 211) rfl)) rfl
theorem itX5 : Cond.instantiable (cC 5) (cN 5) ∈ lw_good := good_in (tb1 (List.mem_of_getElem? (i := 125) rfl)) rfl
theorem itX6 : Cond.instantiable (cC 6) (cN 6) ∈ lw_good := good_in (tb1 (List.mem_of_getElem? (i := 179) rfl)) rfl
theorem itX7 : Cond.instantiable (cC 7) (cN 7) ∈ lw_good := good_in (tb2 (List.mem_of_getElem? (i := 81) rfl)) rfl
theorem itX8 : Cond.instantiable (cC 8) (cN 8) ∈ lw_good := good_in (tb1 (List.mem_of_getElem? (i := 35) rfl)) rfl
theorem itX10 : Cond.instantiable (cC 10) (cN 10) ∈ lw_good := good_in (tb5 (List.mem_of_getElem? (i := 49) rfl)) rfl
theorem ac_int : Cond.arrayClass .int ∈ lw_good := good_in (tb1 (List.mem_of_getElem? (i := 123) rfl)) rfl
theorem ac_byte : Cond.arrayClass .byte ∈ lw_good := good_in (tb3 (List.mem_of_getElem? (i := 44) rfl)) rfl
theorem ac_boolean : Cond.arrayClass .boolean ∈ lw_good := good_in (tb1 (List.mem_of_getElem? (i := 209) rfl)) rfl
theorem ac_long : Cond.arrayClass .long ∈ lw_good := good_in (tb1 (List.mem_of_getElem? (i := 232) rfl)) rfl
theorem aoX8 : ∀ (g : GT) (U : State), GS g U → va_AO RX8 U := fun _ _ h => h.2.2.1.1
theorem aoX7 : ∀ (g : GT) (U : State), GS g U → va_AO RX7 U := fun _ _ h => h.2.2.1.2.1
theorem aoX3 : ∀ (g : GT) (U : State), GS g U → va_AO RX3 U := fun _ _ h => h.2.2.1.2.2
theorem obI : Cond.instanceMethod Lib.objectInit ∈ lw_good := good_in (tb1 (List.mem_of_getElem? (i := 24) rfl)) rfl
theorem obC : Cond.code Lib.objectInit ⟨#[0xb1]⟩ 1 none ∈ lw_good := good_in (tb1 (List.mem_of_getElem? (i := 25) rfl)) rfl
abbrev mX0_init : MD := (yX0_init, cX0_init, 3, none)
abbrev mX0_told : MD := (yX0_told, cX0_told, 2, some (.int))
abbrev mX0_holdNobody : MD := (yX0_holdNobody, cX0_holdNobody, 2, none)
abbrev mX0_findRow : MD := (yX0_findRow, cX0_findRow, 5, none)
abbrev mX0_searchRow : MD := (yX0_searchRow, cX0_searchRow, 8, none)
abbrev mX0_keepIfLess : MD := (yX0_keepIfLess, cX0_keepIfLess, 4, none)
abbrev mX0_findTonight : MD := (yX0_findTonight, cX0_findTonight, 3, none)
abbrev mX0_weighPlaces : MD := (yX0_weighPlaces, cX0_weighPlaces, 6, some (.int))
abbrev mX0_searchTonight : MD := (yX0_searchTonight, cX0_searchTonight, 5, none)
abbrev mX0_findLain : MD := (yX0_findLain, cX0_findLain, 8, none)
abbrev mX0_findRests : MD := (yX0_findRests, cX0_findRests, 8, none)
abbrev mX0_playAllTwos : MD := (yX0_playAllTwos, cX0_playAllTwos, 10, none)
abbrev mX0_isRest : MD := (yX0_isRest, cX0_isRest, 6, some (.boolean))
abbrev mX1_init : MD := (yX1_init, cX1_init, 2, none)
abbrev mX1_told : MD := (yX1_told, cX1_told, 2, some (.int))
abbrev mX1_tell : MD := (yX1_tell, cX1_tell, 4, none)
abbrev mX1_after : MD := (yX1_after, cX1_after, 4, some (.object "HollowBed$Town"))
abbrev mX1_goOn : MD := (yX1_goOn, cX1_goOn, 4, none)
abbrev mX1_firstNightOf : MD := (yX1_firstNightOf, cX1_firstNightOf, 6, some (.int))
abbrev mX1_findTurned : MD := (yX1_findTurned, cX1_findTurned, 7, none)
abbrev mX1_findBest : MD := (yX1_findBest, cX1_findBest, 9, none)
abbrev mX1_findTwins : MD := (yX1_findTwins, cX1_findTwins, 6, none)
abbrev mX1_findSettled : MD := (yX1_findSettled, cX1_findSettled, 5, none)
abbrev mX1_writeBegin : MD := (yX1_writeBegin, cX1_writeBegin, 4, none)
abbrev mX1_sameBegins : MD := (yX1_sameBegins, cX1_sameBegins, 4, some (.boolean))
abbrev mX1_findMays : MD := (yX1_findMays, cX1_findMays, 9, none)
abbrev mX1_goOnTurning : MD := (yX1_goOnTurning, cX1_goOnTurning, 5, none)
abbrev mX1_draw : MD := (yX1_draw, cX1_draw, 1, some (.int))
abbrev mX2_init : MD := (yX2_init, cX2_init, 2, none)
abbrev mX2_told : MD := (yX2_told, cX2_told, 2, some (.int))
abbrev mX2_findRuled : MD := (yX2_findRuled, cX2_findRuled, 5, none)
abbrev mX2_findLook : MD := (yX2_findLook, cX2_findLook, 8, none)
abbrev mX2_agrees : MD := (yX2_agrees, cX2_agrees, 7, some (.boolean))
abbrev mX2_countPlaces : MD := (yX2_countPlaces, cX2_countPlaces, 4, none)
abbrev mX2_mostAlike : MD := (yX2_mostAlike, cX2_mostAlike, 4, some (.int))
abbrev mX3_init : MD := (yX3_init, cX3_init, 1, none)
abbrev mX3_beginWith : MD := (yX3_beginWith, cX3_beginWith, 2, none)
abbrev mX3_keepForUndo : MD := (yX3_keepForUndo, cX3_keepForUndo, 1, none)
abbrev mX3_addNote : MD := (yX3_addNote, cX3_addNote, 4, some (.int))
abbrev mX3_lastNotedNight : MD := (yX3_lastNotedNight, cX3_lastNotedNight, 3, some (.int))
abbrev mX3_agrees : MD := (yX3_agrees, cX3_agrees, 5, some (.boolean))
abbrev mX3_copyFrom : MD := (yX3_copyFrom, cX3_copyFrom, 3, none)
abbrev mX4_init : MD := (yX4_init, cX4_init, 1, none)
abbrev mX4_pass : MD := (yX4_pass, cX4_pass, 7, some (.int))
abbrev mX4_hasRoom : MD := (yX4_hasRoom, cX4_hasRoom, 3, some (.boolean))
abbrev mX4_byHabit : MD := (yX4_byHabit, cX4_byHabit, 4, some (.int))
abbrev mX4_byRule : MD := (yX4_byRule, cX4_byRule, 10, some (.int))
abbrev mX4_worthOf : MD := (yX4_worthOf, cX4_worthOf, 8, some (.long))
abbrev mX4_run : MD := (yX4_run, cX4_run, 11, some (.long))
abbrev mX4_join : MD := (yX4_join, cX4_join, 5, some (.long))
abbrev mX4_wordOf : MD := (yX4_wordOf, cX4_wordOf, 6, some (.long))
abbrev mX4_shapeAll : MD := (yX4_shapeAll, cX4_shapeAll, 3, none)
abbrev mX5_init : MD := (yX5_init, cX5_init, 1, none)
abbrev mX5_keep : MD := (yX5_keep, cX5_keep, 2, none)
abbrev mX5_takeBack : MD := (yX5_takeBack, cX5_takeBack, 2, some (.boolean))
abbrev mX5_forget : MD := (yX5_forget, cX5_forget, 1, none)
abbrev mX5_copyFrom : MD := (yX5_copyFrom, cX5_copyFrom, 3, none)
abbrev mX6_init : MD := (yX6_init, cX6_init, 1, none)
abbrev mX6_readCity : MD := (yX6_readCity, cX6_readCity, 4, some (.int))
abbrev mX6_readCityClause : MD := (yX6_readCityClause, cX6_readCityClause, 6, none)
abbrev mX6_cityClauseFits : MD := (yX6_cityClauseFits, cX6_cityClauseFits, 3, some (.boolean))
abbrev mX6_readRule : MD := (yX6_readRule, cX6_readRule, 6, some (.int))
abbrev mX6_readTest : MD := (yX6_readTest, cX6_readTest, 5, none)
abbrev mX6_readFact : MD := (yX6_readFact, cX6_readFact, 5, none)
abbrev mX6_expectClosing : MD := (yX6_expectClosing, cX6_expectClosing, 1, none)
abbrev mX6_readSign : MD := (yX6_readSign, cX6_readSign, 3, some (.int))
abbrev mX6_readSum : MD := (yX6_readSum, cX6_readSum, 5, none)
abbrev mX6_stepOf : MD := (yX6_stepOf, cX6_stepOf, 1, some (.int))
abbrev mX6_readValue : MD := (yX6_readValue, cX6_readValue, 4, none)
abbrev mX6_countItem : MD := (yX6_countItem, cX6_countItem, 2, none)
abbrev mX6_readNumber : MD := (yX6_readNumber, cX6_readNumber, 6, some (.int))
abbrev mX6_takeWord : MD := (yX6_takeWord, cX6_takeWord, 7, some (.int))
abbrev mX6_clauseListEnds : MD := (yX6_clauseListEnds, cX6_clauseListEnds, 2, some (.boolean))
abbrev mX6_open : MD := (yX6_open, cX6_open, 3, none)
abbrev mX6_next : MD := (yX6_next, cX6_next, 1, some (.int))
abbrev mX6_fail : MD := (yX6_fail, cX6_fail, 3, none)
abbrev mX6_isDigit : MD := (yX6_isDigit, cX6_isDigit, 1, some (.boolean))
abbrev mX6_isLetter : MD := (yX6_isLetter, cX6_isLetter, 1, some (.boolean))
abbrev mX7_init : MD := (yX7_init, cX7_init, 1, none)
abbrev mX7_clear : MD := (yX7_clear, cX7_clear, 1, none)
abbrev mX7_add : MD := (yX7_add, cX7_add, 3, none)
abbrev mX7_openClause : MD := (yX7_openClause, cX7_openClause, 1, none)
abbrev mX7_openTest : MD := (yX7_openTest, cX7_openTest, 1, none)
abbrev mX7_closeClause : MD := (yX7_closeClause, cX7_closeClause, 1, none)
abbrev mX8_init : MD := (yX8_init, cX8_init, 1, none)
abbrev mX8_stands : MD := (yX8_stands, cX8_stands, 1, some (.boolean))
abbrev mX8_hasBed : MD := (yX8_hasBed, cX8_hasBed, 2, some (.boolean))
abbrev mX8_hasLodger : MD := (yX8_hasLodger, cX8_hasLodger, 2, some (.boolean))
abbrev mX8_far : MD := (yX8_far, cX8_far, 2, some (.int))
abbrev mX8_farOfAll : MD := (yX8_farOfAll, cX8_farOfAll, 3, some (.int))
abbrev mX8_hollowOfAll : MD := (yX8_hollowOfAll, cX8_hollowOfAll, 3, some (.int))
abbrev mX8_sleptOfAll : MD := (yX8_sleptOfAll, cX8_sleptOfAll, 3, some (.int))
abbrev mX8_lodgersOn : MD := (yX8_lodgersOn, cX8_lodgersOn, 4, some (.int))
abbrev mX8_shapeBehind : MD := (yX8_shapeBehind, cX8_shapeBehind, 5, some (.int))
abbrev mX8_hollowBehind : MD := (yX8_hollowBehind, cX8_hollowBehind, 7, some (.int))
abbrev mX8_swapSides : MD := (yX8_swapSides, cX8_swapSides, 3, none)
abbrev mX8_cardAllIfDue : MD := (yX8_cardAllIfDue, cX8_cardAllIfDue, 2, none)
abbrev mX8_rentOf : MD := (yX8_rentOf, cX8_rentOf, 9, some (.int))
abbrev mX8_clear : MD := (yX8_clear, cX8_clear, 1, none)
abbrev mX8_addBed : MD := (yX8_addBed, cX8_addBed, 4, none)
abbrev mX8_addLodger : MD := (yX8_addLodger, cX8_addLodger, 4, none)
abbrev mX8_copyFrom : MD := (yX8_copyFrom, cX8_copyFrom, 3, none)
abbrev mX8_packInto : MD := (yX8_packInto, cX8_packInto, 5, none)
abbrev mX8_unpackFrom : MD := (yX8_unpackFrom, cX8_unpackFrom, 5, none)
abbrev mX9_init : MD := (yX9_init, cX9_init, 2, none)
abbrev mX9_feed : MD := (yX9_feed, cX9_feed, 6, some (.int))
abbrev mX9_append : MD := (yX9_append, cX9_append, 3, none)
abbrev mX9_end : MD := (yX9_end, cX9_end, 2, some (.int))
abbrev mX9_city : MD := (yX9_city, cX9_city, 2, some (.int))
abbrev mX9_rule : MD := (yX9_rule, cX9_rule, 2, some (.int))
abbrev mX9_force : MD := (yX9_force, cX9_force, 3, some (.int))
abbrev mX9_ruleInForce : MD := (yX9_ruleInForce, cX9_ruleInForce, 2, some (.object "HollowBed$Rule"))
abbrev mX9_bed : MD := (yX9_bed, cX9_bed, 4, some (.int))
abbrev mX9_lodger : MD := (yX9_lodger, cX9_lodger, 4, some (.int))
abbrev mX9_night : MD := (yX9_night, cX9_night, 1, some (.int))
abbrev mX9_turn : MD := (yX9_turn, cX9_turn, 2, some (.int))
abbrev mX9_stuff : MD := (yX9_stuff, cX9_stuff, 5, some (.int))
abbrev mX9_burn : MD := (yX9_burn, cX9_burn, 4, some (.int))
abbrev mX9_lead : MD := (yX9_lead, cX9_lead, 5, some (.int))
abbrev mX9_undo : MD := (yX9_undo, cX9_undo, 1, some (.int))
abbrev mX9_ahead : MD := (yX9_ahead, cX9_ahead, 7, some (.int))
abbrev mX9_comes : MD := (yX9_comes, cX9_comes, 3, some (.int))
abbrev mX9_row : MD := (yX9_row, cX9_row, 5, some (.int))
abbrev mX9_tonight : MD := (yX9_tonight, cX9_tonight, 2, some (.int))
abbrev mX9_turned : MD := (yX9_turned, cX9_turned, 3, some (.int))
abbrev mX9_lain : MD := (yX9_lain, cX9_lain, 5, some (.int))
abbrev mX9_twins : MD := (yX9_twins, cX9_twins, 3, some (.int))
abbrev mX9_settled : MD := (yX9_settled, cX9_settled, 2, some (.int))
abbrev mX9_best : MD := (yX9_best, cX9_best, 3, some (.int))
abbrev mX9_rests : MD := (yX9_rests, cX9_rests, 6, some (.int))
abbrev mX9_rent : MD := (yX9_rent, cX9_rent, 3, some (.int))
abbrev mX9_note : MD := (yX9_note, cX9_note, 5, some (.int))
abbrev mX9_ruled : MD := (yX9_ruled, cX9_ruled, 2, some (.int))
abbrev mX9_look : MD := (yX9_look, cX9_look, 3, some (.int))
abbrev mX9_seed : MD := (yX9_seed, cX9_seed, 3, some (.int))
abbrev mX9_mays : MD := (yX9_mays, cX9_mays, 6, some (.int))
abbrev mX9_count : MD := (yX9_count, cX9_count, 3, some (.int))
abbrev mX9_image : MD := (yX9_image, cX9_image, 2, some (.int))
abbrev mX9_back : MD := (yX9_back, cX9_back, 2, some (.int))
abbrev mX10_init : MD := (yX10_init, cX10_init, 1, none)
abbrev mX10_in : MD := (yX10_in, cX10_in, 6, some (.boolean))
abbrev mX10_bits : MD := (yX10_bits, cX10_bits, 3, some (.int))
abbrev mX10_has : MD := (yX10_has, cX10_has, 2, some (.boolean))
abbrev mX10_isCity : MD := (yX10_isCity, cX10_isCity, 1, some (.boolean))
abbrev mX10_isBed : MD := (yX10_isBed, cX10_isBed, 2, some (.boolean))
abbrev mX10_isLodger : MD := (yX10_isLodger, cX10_isLodger, 2, some (.boolean))
abbrev mX10_feed : MD := (yX10_feed, cX10_feed, 6, some (.int))
abbrev mX10_put : MD := (yX10_put, cX10_put, 3, none)
abbrev mX10_end : MD := (yX10_end, cX10_end, 2, some (.int))
abbrev mX10_wordOf : MD := (yX10_wordOf, cX10_wordOf, 1, some (.object "java/lang/String"))
abbrev mX10_fails : MD := (yX10_fails, cX10_fails, 3, none)
abbrev mX10_sign : MD := (yX10_sign, cX10_sign, 1, some (.int))
abbrev mX10_blanks : MD := (yX10_blanks, cX10_blanks, 1, none)
abbrev mX10_isDigit : MD := (yX10_isDigit, cX10_isDigit, 1, some (.boolean))
abbrev mX10_stood : MD := (yX10_stood, cX10_stood, 5, some (.boolean))
abbrev mX10_takes : MD := (yX10_takes, cX10_takes, 3, some (.boolean))
abbrev mX10_entry : MD := (yX10_entry, cX10_entry, 3, none)
abbrev mX10_isCounted : MD := (yX10_isCounted, cX10_isCounted, 2, none)
abbrev mX10_digits : MD := (yX10_digits, cX10_digits, 4, some (.int))
abbrev mX10_value : MD := (yX10_value, cX10_value, 3, none)
abbrev mX10_term : MD := (yX10_term, cX10_term, 2, none)
abbrev mX10_sum : MD := (yX10_sum, cX10_sum, 2, none)
abbrev mX10_compared : MD := (yX10_compared, cX10_compared, 3, none)
abbrev mX10_top : MD := (yX10_top, cX10_top, 1, some (.int))
abbrev mX10_opens : MD := (yX10_opens, cX10_opens, 2, none)
abbrev mX10_answers : MD := (yX10_answers, cX10_answers, 2, none)
abbrev mX10_fact : MD := (yX10_fact, cX10_fact, 1, some (.boolean))
abbrev mX10_test : MD := (yX10_test, cX10_test, 5, none)
abbrev mX10_amount : MD := (yX10_amount, cX10_amount, 5, some (.int))
abbrev mX10_cityWord : MD := (yX10_cityWord, cX10_cityWord, 1, some (.object "java/lang/String"))
abbrev mX10_cityPart : MD := (yX10_cityPart, cX10_cityPart, 3, none)
abbrev mX10_isFull : MD := (yX10_isFull, cX10_isFull, 3, some (.boolean))
abbrev mX10_cityClause : MD := (yX10_cityClause, cX10_cityClause, 4, none)
abbrev mX10_copies : MD := (yX10_copies, cX10_copies, 3, none)
abbrev mX10_goesOn : MD := (yX10_goesOn, cX10_goesOn, 2, some (.boolean))
abbrev mX10_starts : MD := (yX10_starts, cX10_starts, 1, none)
abbrev mX10_readsAll : MD := (yX10_readsAll, cX10_readsAll, 3, none)
abbrev mX10_begins : MD := (yX10_begins, cX10_begins, 2, none)
abbrev mX10_city : MD := (yX10_city, cX10_city, 2, some (.int))
abbrev mX10_ruleClause : MD := (yX10_ruleClause, cX10_ruleClause, 4, none)
abbrev mX10_rule : MD := (yX10_rule, cX10_rule, 3, some (.int))
abbrev mX10_force : MD := (yX10_force, cX10_force, 3, some (.int))
abbrev mX10_wanted : MD := (yX10_wanted, cX10_wanted, 3, some (.long))
abbrev mX10_truth : MD := (yX10_truth, cX10_truth, 1, some (.long))
abbrev mX10_both : MD := (yX10_both, cX10_both, 5, some (.long))
abbrev mX10_answer : MD := (yX10_answer, cX10_answer, 8, some (.long))
abbrev mX10_differ : MD := (yX10_differ, cX10_differ, 2, some (.int))
abbrev mX10_farOf : MD := (yX10_farOf, cX10_farOf, 2, some (.int))
abbrev mX10_allFar : MD := (yX10_allFar, cX10_allFar, 3, some (.int))
abbrev mX10_layOn : MD := (yX10_layOn, cX10_layOn, 4, some (.int))
abbrev mX10_bed : MD := (yX10_bed, cX10_bed, 3, some (.int))
abbrev mX10_lodger : MD := (yX10_lodger, cX10_lodger, 3, some (.int))
abbrev mX10_isRoom : MD := (yX10_isRoom, cX10_isRoom, 2, some (.boolean))
abbrev mX10_sumOf : MD := (yX10_sumOf, cX10_sumOf, 3, some (.long))
abbrev mX10_likes : MD := (yX10_likes, cX10_likes, 3, some (.long))
abbrev mX10_choice : MD := (yX10_choice, cX10_choice, 8, some (.int))
abbrev mX10_shapesAll : MD := (yX10_shapesAll, cX10_shapesAll, 2, none)
abbrev mX10_goes : MD := (yX10_goes, cX10_goes, 3, some (.int))
abbrev mX10_goFor : MD := (yX10_goFor, cX10_goFor, 3, none)
abbrev mX10_freesAll : MD := (yX10_freesAll, cX10_freesAll, 2, none)
abbrev mX10_moves : MD := (yX10_moves, cX10_moves, 3, some (.int))
abbrev mX10_movesRow : MD := (yX10_movesRow, cX10_movesRow, 3, none)
abbrev mX10_movesAll : MD := (yX10_movesAll, cX10_movesAll, 3, none)
abbrev mX10_keepsAct : MD := (yX10_keepsAct, cX10_keepsAct, 2, none)
abbrev mX10_undo : MD := (yX10_undo, cX10_undo, 1, some (.int))
abbrev mX10_night : MD := (yX10_night, cX10_night, 1, some (.int))
abbrev mX10_turns : MD := (yX10_turns, cX10_turns, 3, none)
abbrev mX10_turn : MD := (yX10_turn, cX10_turn, 2, some (.int))
abbrev mX10_stuff : MD := (yX10_stuff, cX10_stuff, 4, some (.int))
abbrev mX10_burn : MD := (yX10_burn, cX10_burn, 3, some (.int))
abbrev mX10_lead : MD := (yX10_lead, cX10_lead, 4, some (.int))
abbrev mX10_keepsAll : MD := (yX10_keepsAll, cX10_keepsAll, 1, none)
abbrev mX10_laysBack : MD := (yX10_laysBack, cX10_laysBack, 1, none)
abbrev mX10_farIn : MD := (yX10_farIn, cX10_farIn, 3, some (.int))
abbrev mX10_ahead : MD := (yX10_ahead, cX10_ahead, 6, some (.int))
abbrev mX10_comes : MD := (yX10_comes, cX10_comes, 5, some (.int))
abbrev mX10_codesOf : MD := (yX10_codesOf, cX10_codesOf, 4, some (.int))
abbrev mX10_placeOf : MD := (yX10_placeOf, cX10_placeOf, 3, some (.int))
abbrev mX10_farByRow : MD := (yX10_farByRow, cX10_farByRow, 6, some (.int))
abbrev mX10_row : MD := (yX10_row, cX10_row, 7, some (.int))
abbrev mX10_farTonight : MD := (yX10_farTonight, cX10_farTonight, 4, some (.int))
abbrev mX10_tonight : MD := (yX10_tonight, cX10_tonight, 6, some (.int))
abbrev mX10_turned : MD := (yX10_turned, cX10_turned, 7, some (.int))
abbrev mX10_hollowBy : MD := (yX10_hollowBy, cX10_hollowBy, 6, some (.int))
abbrev mX10_lain : MD := (yX10_lain, cX10_lain, 8, some (.int))
abbrev mX10_twins : MD := (yX10_twins, cX10_twins, 8, some (.int))
abbrev mX10_laysCourse : MD := (yX10_laysCourse, cX10_laysCourse, 3, none)
abbrev mX10_areAlike : MD := (yX10_areAlike, cX10_areAlike, 4, some (.boolean))
abbrev mX10_settled : MD := (yX10_settled, cX10_settled, 4, some (.int))
abbrev mX10_best : MD := (yX10_best, cX10_best, 7, some (.int))
abbrev mX10_laysBeds : MD := (yX10_laysBeds, cX10_laysBeds, 6, none)
abbrev mX10_isRest : MD := (yX10_isRest, cX10_isRest, 4, some (.boolean))
abbrev mX10_rests : MD := (yX10_rests, cX10_rests, 10, some (.int))
abbrev mX10_allNights : MD := (yX10_allNights, cX10_allNights, 3, some (.int))
abbrev mX10_rent : MD := (yX10_rent, cX10_rent, 8, some (.int))
abbrev mX10_note : MD := (yX10_note, cX10_note, 5, some (.int))
abbrev mX10_couldRule : MD := (yX10_couldRule, cX10_couldRule, 4, some (.boolean))
abbrev mX10_ruled : MD := (yX10_ruled, cX10_ruled, 5, some (.int))
abbrev mX10_mostAlike : MD := (yX10_mostAlike, cX10_mostAlike, 7, some (.int))
abbrev mX10_look : MD := (yX10_look, cX10_look, 6, some (.int))
abbrev mX10_seed : MD := (yX10_seed, cX10_seed, 3, some (.int))
abbrev mX10_draws : MD := (yX10_draws, cX10_draws, 2, some (.int))
abbrev mX10_allHollows : MD := (yX10_allHollows, cX10_allHollows, 3, some (.int))
abbrev mX10_mays : MD := (yX10_mays, cX10_mays, 11, some (.int))
abbrev mX10_count : MD := (yX10_count, cX10_count, 2, some (.int))
abbrev mX10_carryRow : MD := (yX10_carryRow, cX10_carryRow, 3, none)
abbrev mX10_carriesAll : MD := (yX10_carriesAll, cX10_carriesAll, 3, none)
abbrev mX10_image : MD := (yX10_image, cX10_image, 2, some (.int))
abbrev mX10_back : MD := (yX10_back, cX10_back, 2, some (.int))
abbrev mJ6_bitCount_0f7a4 : MD := (yJ6_bitCount_0f7a4, cJ6_bitCount_0f7a4, 1, some (.int))
abbrev mJ9_floorDiv_7cf53 : MD := (yJ9_floorDiv_7cf53, cJ9_floorDiv_7cf53, 3, some (.int))
abbrev mJ9_abs_0f7a4 : MD := (yJ9_abs_0f7a4, cJ9_abs_0f7a4, 1, some (.int))
abbrev mJ9_max_7cf53 : MD := (yJ9_max_7cf53, cJ9_max_7cf53, 2, some (.int))
abbrev mJ9_min_7cf53 : MD := (yJ9_min_7cf53, cJ9_min_7cf53, 2, some (.int))
abbrev mJ0_length_8abf5 : MD := (yJ0_length_8abf5, cJ0_length_8abf5, 1, some (.int))
abbrev mJ0_charAt_5068e : MD := (yJ0_charAt_5068e, cJ0_charAt_5068e, 2, some (.char))
abbrev mJ0_coder_7d493 : MD := (yJ0_coder_7d493, cJ0_coder_7d493, 1, some (.byte))
abbrev mJ0_isLatin1_aae02 : MD := (yJ0_isLatin1_aae02, cJ0_isLatin1_aae02, 1, some (.boolean))
abbrev mJ0_checkIndex_df160 : MD := (yJ0_checkIndex_df160, cJ0_checkIndex_df160, 2, none)
abbrev mJ1_charAt_3b067 : MD := (yJ1_charAt_3b067, cJ1_charAt_3b067, 2, some (.char))
abbrev mJ2_getChar_3b067 : MD := (yJ2_getChar_3b067, cJ2_getChar_3b067, 2, some (.char))
abbrev mJ2_length_9d52b : MD := (yJ2_length_9d52b, cJ2_length_9d52b, 1, some (.int))
abbrev mJ2_charAt_3b067 : MD := (yJ2_charAt_3b067, cJ2_charAt_3b067, 2, some (.char))
abbrev mJ2_checkIndex_2214a : MD := (yJ2_checkIndex_2214a, cJ2_checkIndex_2214a, 2, none)
abbrev mJ3_checkIndex_8e157 : MD := (yJ3_checkIndex_8e157, cJ3_checkIndex_8e157, 3, some (.int))
theorem bX0_init : MB mX0_init 1 := ⟨good_in (tb2 (List.mem_of_getElem? (i := 21) rfl)) rfl, inX0, by decide +kernel, plainFor_of_name (by decide +kernel), by decide⟩
theorem qX0_init : Cond.instanceMethod yX0_init ∈ lw_good ∧ yX0_init.name = "<init>" ∧ mX0_init.2.2.2 = none := ⟨good_in (tb2 (List.mem_of_getElem? (i := 20) rfl)) rfl, rfl, rfl⟩
theorem bX0_told : MB mX0_told 1 := ⟨good_in (tb4 (List.mem_of_getElem? (i := 68) rfl)) rfl, inX0, by decide +kernel, plainFor_of_name (by decide +kernel), by decide⟩
theorem oX0_told : MO mX0_told 0 := ⟨good_in (tb4 (List.mem_of_getElem? (i := 66) rfl)) rfl, good_in (tb4 (List.mem_of_getElem? (i := 67) rfl)) rfl, by decide, rfl⟩
theorem bX0_holdNobody : MB mX0_holdNobody 0 := ⟨good_in (tb4 (List.mem_of_getElem? (i := 52) rfl)) rfl, inX0, by decide +kernel, plainFor_of_name (by decide +kernel), by decide⟩
theorem oX0_holdNobody : MO mX0_holdNobody 0 := ⟨good_in (tb4 (List.mem_of_getElem? (i := 51) rfl)) rfl, good_in (tp2 (List.mem_of_getElem? (i := 9) rfl)) rfl, by decide, rfl⟩
theorem bX0_findRow : MB mX0_findRow 4 := ⟨good_in (tb4 (List.mem_of_getElem? (i := 48) rfl)) rfl, inX0, by decide +kernel, plainFor_of_name (by decide +kernel), by decide⟩
theorem oX0_findRow : MO mX0_findRow 0 := ⟨good_in (tb4 (List.mem_of_getElem? (i := 46) rfl)) rfl, good_in (tb4 (List.mem_of_getElem? (i := 47) rfl)) rfl, by decide, rfl⟩
theorem bX0_searchRow : MB mX0_searchRow 4 := ⟨good_in (tb4 (List.mem_of_getElem? (i := 58) rfl)) rfl, inX0, by decide +kernel, plainFor_of_name (by decide +kernel), by decide⟩
theorem oX0_searchRow : MO mX0_searchRow 0 := ⟨good_in (tb4 (List.mem_of_getElem? (i := 57) rfl)) rfl, good_in (tp2 (List.mem_of_getElem? (i := 10) rfl)) rfl, by decide, rfl⟩
theorem bX0_keepIfLess : MB mX0_keepIfLess 2 := ⟨good_in (tb4 (List.mem_of_getElem? (i := 63) rfl)) rfl, inX0, by decide +kernel, plainFor_of_name (by decide +kernel), by decide⟩
theorem oX0_keepIfLess : MO mX0_keepIfLess 0 := ⟨good_in (tb4 (List.mem_of_getElem? (i := 62) rfl)) rfl, good_in (tp2 (List.mem_of_getElem? (i := 11) rfl)) rfl, by decide, rfl⟩
theorem bX0_findTonight : MB mX0_findTonight 1 := ⟨good_in (tb4 (List.mem_of_getElem? (i := 76) rfl)) rfl, inX0, by decide +kernel, plainFor_of_name (by decide +kernel), by decide⟩
theorem oX0_findTonight : MO mX0_findTonight 0 := ⟨good_in (tb4 (List.mem_of_getElem? (i := 74) rfl)) rfl, good_in (tb4 (List.mem_of_getElem? (i := 75) rfl)) rfl, by decide, rfl⟩
theorem bX0_weighPlaces : MB mX0_weighPlaces 2 := ⟨good_in (tb4 (List.mem_of_getElem? (i := 80) rfl)) rfl, inX0, by decide +kernel, plainFor_of_name (by decide +kernel), by decide⟩
theorem oX0_weighPlaces : MO mX0_weighPlaces 0 := ⟨good_in (tb4 (List.mem_of_getElem? (i := 79) rfl)) rfl, good_in (tp2 (List.mem_of_getElem? (i := 12) rfl)) rfl, by decide, rfl⟩
theorem bX0_searchTonight : MB mX0_searchTonight 3 := ⟨good_in (tb4 (List.mem_of_getElem? (i := 88) rfl)) rfl, inX0, by decide +kernel, plainFor_of_name (by decide +kernel), by decide⟩
theorem oX0_searchTonight : MO mX0_searchTonight 0 := ⟨good_in (tb4 (List.mem_of_getElem? (i := 87) rfl)) rfl, good_in (tp2 (List.mem_of_getElem? (i := 13) rfl)) rfl, by decide, rfl⟩
theorem bX0_findLain : MB mX0_findLain 3 := ⟨good_in (tb4 (List.mem_of_getElem? (i := 115) rfl)) rfl, inX0, by decide +kernel, plainFor_of_name (by decide +kernel), by decide⟩
theorem oX0_findLain : MO mX0_findLain 0 := ⟨good_in (tb4 (List.mem_of_getElem? (i := 113) rfl)) rfl, good_in (tb4 (List.mem_of_getElem? (i := 114) rfl)) rfl, by decide, rfl⟩
theorem bX0_findRests : MB mX0_findRests 5 := ⟨good_in (tb4 (List.mem_of_getElem? (i := 163) rfl)) rfl, inX0, by decide +kernel, plainFor_of_name (by decide +kernel), by decide⟩
theorem oX0_findRests : MO mX0_findRests 0 := ⟨good_in (tb4 (List.mem_of_getElem? (i := 161) rfl)) rfl, good_in (tb4 (List.mem_of_getElem? (i := 162) rfl)) rfl, by decide, rfl⟩
theorem bX0_playAllTwos : MB mX0_playAllTwos 5 := ⟨good_in (tb4 (List.mem_of_getElem? (i := 167) rfl)) rfl, inX0, by decide +kernel, plainFor_of_name (by decide +kernel), by decide⟩
theorem oX0_playAllTwos : MO mX0_playAllTwos 0 := ⟨good_in (tb4 (List.mem_of_getElem? (i := 166) rfl)) rfl, good_in (tp3 (List.mem_of_getElem? (i := 1) rfl)) rfl, by decide, rfl⟩
theorem bX0_isRest : MB mX0_isRest 3 := ⟨good_in (tb4 (List.mem_of_getElem? (i := 171) rfl)) rfl, inX0, by decide +kernel, plainFor_of_name (by decide +kernel), by decide⟩
theorem oX0_isRest : MO mX0_isRest 0 := ⟨good_in (tb4 (List.mem_of_getElem? (i := 170) rfl)) rfl, good_in (tp3 (List.mem_of_getElem? (i := 2) rfl)) rfl, by decide, rfl⟩
theorem bX1_init : MB mX1_init 1 := ⟨good_in (tb1 (List.mem_of_getElem? (i := 237) rfl)) rfl, inX1, by decide +kernel, plainFor_of_name (by decide +kernel), by decide⟩
theorem qX1_init : Cond.instanceMethod yX1_init ∈ lw_good ∧ yX1_init.name = "<init>" ∧ mX1_init.2.2.2 = none := ⟨good_in (tb1 (List.mem_of_getElem? (i := 236) rfl)) rfl, rfl, rfl⟩
theorem bX1_told : MB mX1_told 1 := ⟨good_in (tb4 (List.mem_of_getElem? (i := 107) rfl)) rfl, inX1, by decide +kernel, plainFor_of_name (by decide +kernel), by decide⟩
theorem oX1_told : MO mX1_told 1 := ⟨good_in (tb4 (List.mem_of_getElem? (i := 105) rfl)) rfl, good_in (tb4 (List.mem_of_getElem? (i := 106) rfl)) rfl, by decide, rfl⟩
theorem bX1_tell : MB mX1_tell 3 := ⟨good_in (tb4 (List.mem_of_getElem? (i := 103) rfl)) rfl, inX1, by decide +kernel, plainFor_of_name (by decide +kernel), by decide⟩
theorem oX1_tell : MO mX1_tell 1 := ⟨good_in (tb4 (List.mem_of_getElem? (i := 102) rfl)) rfl, good_in (tp2 (List.mem_of_getElem? (i := 14) rfl)) rfl, by decide, rfl⟩
theorem bX1_after : MB mX1_after 3 := ⟨good_in (tb4 (List.mem_of_getElem? (i := 20) rfl)) rfl, inX1, by decide +kernel, plainFor_of_name (by decide +kernel), by decide⟩
theorem oX1_after : MO mX1_after 1 := ⟨good_in (tb4 (List.mem_of_getElem? (i := 18) rfl)) rfl, good_in (tb4 (List.mem_of_getElem? (i := 19) rfl)) rfl, by decide, rfl⟩
theorem bX1_goOn : MB mX1_goOn 2 := ⟨good_in (tb4 (List.mem_of_getElem? (i := 25) rfl)) rfl, inX1, by decide +kernel, plainFor_of_name (by decide +kernel), by decide⟩
theorem oX1_goOn : MO mX1_goOn 1 := ⟨good_in (tb4 (List.mem_of_getElem? (i := 24) rfl)) rfl, good_in (tp2 (List.mem_of_getElem? (i := 8) rfl)) rfl, by decide, rfl⟩
theorem bX1_firstNightOf : MB mX1_firstNightOf 4 := ⟨good_in (tb4 (List.mem_of_getElem? (i := 39) rfl)) rfl, inX1, by decide +kernel, plainFor_of_name (by decide +kernel), by decide⟩
theorem oX1_firstNightOf : MO mX1_firstNightOf 1 := ⟨good_in (tb4 (List.mem_of_getElem? (i := 37) rfl)) rfl, good_in (tb4 (List.mem_of_getElem? (i := 38) rfl)) rfl, by decide, rfl⟩
theorem bX1_findTurned : MB mX1_findTurned 3 := ⟨good_in (tb4 (List.mem_of_getElem? (i := 96) rfl)) rfl, inX1, by decide +kernel, plainFor_of_name (by decide +kernel), by decide⟩
theorem oX1_findTurned : MO mX1_findTurned 1 := ⟨good_in (tb4 (List.mem_of_getElem? (i := 94) rfl)) rfl, good_in (tb4 (List.mem_of_getElem? (i := 95) rfl)) rfl, by decide, rfl⟩
theorem bX1_findBest : MB mX1_findBest 3 := ⟨good_in (tb4 (List.mem_of_getElem? (i := 155) rfl)) rfl, inX1, by decide +kernel, plainFor_of_name (by decide +kernel), by decide⟩
theorem oX1_findBest : MO mX1_findBest 1 := ⟨good_in (tb4 (List.mem_of_getElem? (i := 153) rfl)) rfl, good_in (tb4 (List.mem_of_getElem? (i := 154) rfl)) rfl, by decide, rfl⟩
theorem bX1_findTwins : MB mX1_findTwins 3 := ⟨good_in (tb4 (List.mem_of_getElem? (i := 130) rfl)) rfl, inX1, by decide +kernel, plainFor_of_name (by decide +kernel), by decide⟩
theorem oX1_findTwins : MO mX1_findTwins 1 := ⟨good_in (tb4 (List.mem_of_getElem? (i := 128) rfl)) rfl, good_in (tb4 (List.mem_of_getElem? (i := 129) rfl)) rfl, by decide, rfl⟩
theorem bX1_findSettled : MB mX1_findSettled 2 := ⟨good_in (tb4 (List.mem_of_getElem? (i := 138) rfl)) rfl, inX1, by decide +kernel, plainFor_of_name (by decide +kernel), by decide⟩
theorem oX1_findSettled : MO mX1_findSettled 1 := ⟨good_in (tb4 (List.mem_of_getElem? (i := 136) rfl)) rfl, good_in (tb4 (List.mem_of_getElem? (i := 137) rfl)) rfl, by decide, rfl⟩
theorem bX1_writeBegin : MB mX1_writeBegin 1 := ⟨good_in (tb4 (List.mem_of_getElem? (i := 142) rfl)) rfl, inX1, by decide +kernel, plainFor_of_name (by decide +kernel), by decide⟩
theorem oX1_writeBegin : MO mX1_writeBegin 1 := ⟨good_in (tb4 (List.mem_of_getElem? (i := 141) rfl)) rfl, good_in (tp2 (List.mem_of_getElem? (i := 15) rfl)) rfl, by decide, rfl⟩
theorem bX1_sameBegins : MB mX1_sameBegins 2 := ⟨good_in (tb4 (List.mem_of_getElem? (i := 146) rfl)) rfl, inX1, by decide +kernel, plainFor_of_name (by decide +kernel), by decide⟩
theorem oX1_sameBegins : MO mX1_sameBegins 1 := ⟨good_in (tb4 (List.mem_of_getElem? (i := 145) rfl)) rfl, good_in (tp3 (List.mem_of_getElem? (i := 0) rfl)) rfl, by decide, rfl⟩
theorem bX1_findMays : MB mX1_findMays 5 := ⟨good_in (tb5 (List.mem_of_getElem? (i := 9) rfl)) rfl, inX1, by decide +kernel, plainFor_of_name (by decide +kernel), by decide⟩
theorem oX1_findMays : MO mX1_findMays 1 := ⟨good_in (tb5 (List.mem_of_getElem? (i := 7) rfl)) rfl, good_in (tb5 (List.mem_of_getElem? (i := 8) rfl)) rfl, by decide, rfl⟩
theorem bX1_goOnTurning : MB mX1_goOnTurning 3 := ⟨good_in (tb5 (List.mem_of_getElem? (i := 13) rfl)) rfl, inX1, by decide +kernel, plainFor_of_name (by decide +kernel), by decide⟩
theorem oX1_goOnTurning : MO mX1_goOnTurning 1 := ⟨good_in (tb5 (List.mem_of_getElem? (i := 12) rfl)) rfl, good_in (tp3 (List.mem_of_getElem? (i := 6) rfl)) rfl, by decide, rfl⟩
theorem bX1_draw : MB mX1_draw 0 := ⟨good_in (tb5 (List.mem_of_getElem? (i := 17) rfl)) rfl, inX1, by decide +kernel, plainFor_of_name (by decide +kernel), by decide⟩
theorem oX1_draw : MO mX1_draw 1 := ⟨good_in (tb5 (List.mem_of_getElem? (i := 16) rfl)) rfl, good_in (tp3 (List.mem_of_getElem? (i := 7) rfl)) rfl, by decide, rfl⟩
theorem bX2_init : MB mX2_init 1 := ⟨good_in (tb2 (List.mem_of_getElem? (i := 61) rfl)) rfl, inX2, by decide +kernel, plainFor_of_name (by decide +kernel), by decide⟩
theorem qX2_init : Cond.instanceMethod yX2_init ∈ lw_good ∧ yX2_init.name = "<init>" ∧ mX2_init.2.2.2 = none := ⟨good_in (tb2 (List.mem_of_getElem? (i := 60) rfl)) rfl, rfl, rfl⟩
theorem bX2_told : MB mX2_told 1 := ⟨good_in (tb4 (List.mem_of_getElem? (i := 221) rfl)) rfl, inX2, by decide +kernel, plainFor_of_name (by decide +kernel), by decide⟩
theorem oX2_told : MO mX2_told 2 := ⟨good_in (tb4 (List.mem_of_getElem? (i := 219) rfl)) rfl, good_in (tb4 (List.mem_of_getElem? (i := 220) rfl)) rfl, by decide, rfl⟩
theorem bX2_findRuled : MB mX2_findRuled 3 := ⟨good_in (tb4 (List.mem_of_getElem? (i := 199) rfl)) rfl, inX2, by decide +kernel, plainFor_of_name (by decide +kernel), by decide⟩
theorem oX2_findRuled : MO mX2_findRuled 2 := ⟨good_in (tb4 (List.mem_of_getElem? (i := 197) rfl)) rfl, good_in (tb4 (List.mem_of_getElem? (i := 198) rfl)) rfl, by decide, rfl⟩
theorem bX2_findLook : MB mX2_findLook 4 := ⟨good_in (tb4 (List.mem_of_getElem? (i := 229) rfl)) rfl, inX2, by decide +kernel, plainFor_of_name (by decide +kernel), by decide⟩
theorem oX2_findLook : MO mX2_findLook 2 := ⟨good_in (tb4 (List.mem_of_getElem? (i := 227) rfl)) rfl, good_in (tb4 (List.mem_of_getElem? (i := 228) rfl)) rfl, by decide, rfl⟩
theorem bX2_agrees : MB mX2_agrees 3 := ⟨good_in (tb4 (List.mem_of_getElem? (i := 203) rfl)) rfl, inX2, by decide +kernel, plainFor_of_name (by decide +kernel), by decide⟩
theorem oX2_agrees : MO mX2_agrees 2 := ⟨good_in (tb4 (List.mem_of_getElem? (i := 202) rfl)) rfl, good_in (tp3 (List.mem_of_getElem? (i := 3) rfl)) rfl, by decide, rfl⟩
theorem bX2_countPlaces : MB mX2_countPlaces 1 := ⟨good_in (tb4 (List.mem_of_getElem? (i := 233) rfl)) rfl, inX2, by decide +kernel, plainFor_of_name (by decide +kernel), by decide⟩
theorem oX2_countPlaces : MO mX2_countPlaces 2 := ⟨good_in (tb4 (List.mem_of_getElem? (i := 232) rfl)) rfl, good_in (tp3 (List.mem_of_getElem? (i := 4) rfl)) rfl, by decide, rfl⟩
theorem bX2_mostAlike : MB mX2_mostAlike 1 := ⟨good_in (tb4 (List.mem_of_getElem? (i := 237) rfl)) rfl, inX2, by decide +kernel, plainFor_of_name (by decide +kernel), by decide⟩
theorem oX2_mostAlike : MO mX2_mostAlike 2 := ⟨good_in (tb4 (List.mem_of_getElem? (i := 236) rfl)) rfl, good_in (tp3 (List.mem_of_getElem? (i := 5) rfl)) rfl, by decide, rfl⟩
theorem bX3_init : MB mX3_init 0 := ⟨good_in (tb1 (List.mem_of_getElem? (i := 32) rfl)) rfl, inX3, by decide +kernel, plainFor_of_name (by decide +kernel), by decide⟩
theorem qX3_init : Cond.instanceMethod yX3_init ∈ lw_good ∧ yX3_init.name = "<init>" ∧ mX3_init.2.2.2 = none := ⟨good_in (tb1 (List.mem_of_getElem? (i := 31) rfl)) rfl, rfl, rfl⟩
theorem bX3_beginWith : MB mX3_beginWith 1 := ⟨good_in (tb3 (List.mem_of_getElem? (i := 35) rfl)) rfl, inX3, by decide +kernel, plainFor_of_name (by decide +kernel), by decide⟩
theorem oX3_beginWith : MO mX3_beginWith 3 := ⟨good_in (tb3 (List.mem_of_getElem? (i := 33) rfl)) rfl, good_in (tb3 (List.mem_of_getElem? (i := 34) rfl)) rfl, by decide, rfl⟩
theorem bX3_keepForUndo : MB mX3_keepForUndo 0 := ⟨good_in (tb3 (List.mem_of_getElem? (i := 153) rfl)) rfl, inX3, by decide +kernel, plainFor_of_name (by decide +kernel), by decide⟩
theorem oX3_keepForUndo : MO mX3_keepForUndo 3 := ⟨good_in (tb3 (List.mem_of_getElem? (i := 151) rfl)) rfl, good_in (tb3 (List.mem_of_getElem? (i := 152) rfl)) rfl, by decide, rfl⟩
theorem bX3_addNote : MB mX3_addNote 3 := ⟨good_in (tb4 (List.mem_of_getElem? (i := 191) rfl)) rfl, inX3, by decide +kernel, plainFor_of_name (by decide +kernel), by decide⟩
theorem oX3_addNote : MO mX3_addNote 3 := ⟨good_in (tb4 (List.mem_of_getElem? (i := 189) rfl)) rfl, good_in (tb4 (List.mem_of_getElem? (i := 190) rfl)) rfl, by decide, rfl⟩
theorem bX3_lastNotedNight : MB mX3_lastNotedNight 0 := ⟨good_in (tb4 (List.mem_of_getElem? (i := 207) rfl)) rfl, inX3, by decide +kernel, plainFor_of_name (by decide +kernel), by decide⟩
theorem oX3_lastNotedNight : MO mX3_lastNotedNight 3 := ⟨good_in (tb4 (List.mem_of_getElem? (i := 205) rfl)) rfl, good_in (tb4 (List.mem_of_getElem? (i := 206) rfl)) rfl, by decide, rfl⟩
theorem bX3_agrees : MB mX3_agrees 2 := ⟨good_in (tb4 (List.mem_of_getElem? (i := 216) rfl)) rfl, inX3, by decide +kernel, plainFor_of_name (by decide +kernel), by decide⟩
theorem oX3_agrees : MO mX3_agrees 3 := ⟨good_in (tb4 (List.mem_of_getElem? (i := 214) rfl)) rfl, good_in (tb4 (List.mem_of_getElem? (i := 215) rfl)) rfl, by decide, rfl⟩
theorem bX3_copyFrom : MB mX3_copyFrom 1 := ⟨good_in (tb5 (List.mem_of_getElem? (i := 39) rfl)) rfl, inX3, by decide +kernel, plainFor_of_name (by decide +kernel), by decide⟩
theorem oX3_copyFrom : MO mX3_copyFrom 3 := ⟨good_in (tb5 (List.mem_of_getElem? (i := 37) rfl)) rfl, good_in (tb5 (List.mem_of_getElem? (i := 38) rfl)) rfl, by decide, rfl⟩
theorem bX4_init : MB mX4_init 0 := ⟨good_in (tb1 (List.mem_of_getElem? (i := 214) rfl)) rfl, inX4, by decide +kernel, plainFor_of_name (by decide +kernel), by decide⟩
theorem qX4_init : Cond.instanceMethod yX4_init ∈ lw_good ∧ yX4_init.name = "<init>" ∧ mX4_init.2.2.2 = none := ⟨good_in (tb1 (List.mem_of_getElem? (i := 213) rfl)) rfl, rfl, rfl⟩
theorem bX4_pass : MB mX4_pass 3 := ⟨good_in (tb3 (List.mem_of_getElem? (i := 170) rfl)) rfl, inX4, by decide +kernel, plainFor_of_name (by decide +kernel), by decide⟩
theorem oX4_pass : MO mX4_pass 4 := ⟨good_in (tb3 (List.mem_of_getElem? (i := 168) rfl)) rfl, good_in (tb3 (List.mem_of_getElem? (i := 169) rfl)) rfl, by decide, rfl⟩
theorem bX4_hasRoom : MB mX4_hasRoom 2 := ⟨good_in (tb3 (List.mem_of_getElem? (i := 179) rfl)) rfl, inX4, by decide +kernel, plainFor_of_name (by decide +kernel), by decide⟩
theorem oX4_hasRoom : MO mX4_hasRoom 4 := ⟨good_in (tb3 (List.mem_of_getElem? (i := 178) rfl)) rfl, good_in (tp2 (List.mem_of_getElem? (i := 2) rfl)) rfl, by decide, rfl⟩
theorem bX4_byHabit : MB mX4_byHabit 2 := ⟨good_in (tb3 (List.mem_of_getElem? (i := 174) rfl)) rfl, inX4, by decide +kernel, plainFor_of_name (by decide +kernel), by decide⟩
theorem oX4_byHabit : MO mX4_byHabit 4 := ⟨good_in (tb3 (List.mem_of_getElem? (i := 173) rfl)) rfl, good_in (tp2 (List.mem_of_getElem? (i := 1) rfl)) rfl, by decide, rfl⟩
theorem bX4_byRule : MB mX4_byRule 3 := ⟨good_in (tb3 (List.mem_of_getElem? (i := 184) rfl)) rfl, inX4, by decide +kernel, plainFor_of_name (by decide +kernel), by decide⟩
theorem oX4_byRule : MO mX4_byRule 4 := ⟨good_in (tb3 (List.mem_of_getElem? (i := 183) rfl)) rfl, good_in (tp2 (List.mem_of_getElem? (i := 3) rfl)) rfl, by decide, rfl⟩
theorem bX4_worthOf : MB mX4_worthOf 4 := ⟨good_in (tb3 (List.mem_of_getElem? (i := 188) rfl)) rfl, inX4, by decide +kernel, plainFor_of_name (by decide +kernel), by decide⟩
theorem oX4_worthOf : MO mX4_worthOf 4 := ⟨good_in (tb3 (List.mem_of_getElem? (i := 187) rfl)) rfl, good_in (tp2 (List.mem_of_getElem? (i := 4) rfl)) rfl, by decide, rfl⟩
theorem bX4_run : MB mX4_run 6 := ⟨good_in (tb3 (List.mem_of_getElem? (i := 192) rfl)) rfl, inX4, by decide +kernel, plainFor_of_name (by decide +kernel), by decide⟩
theorem oX4_run : MO mX4_run 4 := ⟨good_in (tb3 (List.mem_of_getElem? (i := 191) rfl)) rfl, good_in (tp2 (List.mem_of_getElem? (i := 5) rfl)) rfl, by decide, rfl⟩
theorem bX4_join : MB mX4_join 3 := ⟨good_in (tb3 (List.mem_of_getElem? (i := 200) rfl)) rfl, inX4, by decide +kernel, plainFor_of_name (by decide +kernel), by decide⟩
theorem sX4_join : Cond.static yX4_join ∈ lw_good := good_in (tb3 (List.mem_of_getElem? (i := 199) rfl)) rfl
theorem bX4_wordOf : MB mX4_wordOf 4 := ⟨good_in (tb3 (List.mem_of_getElem? (i := 197) rfl)) rfl, inX4, by decide +kernel, plainFor_of_name (by decide +kernel), by decide⟩
theorem oX4_wordOf : MO mX4_wordOf 4 := ⟨good_in (tb3 (List.mem_of_getElem? (i := 196) rfl)) rfl, good_in (tp2 (List.mem_of_getElem? (i := 6) rfl)) rfl, by decide, rfl⟩
theorem bX4_shapeAll : MB mX4_shapeAll 1 := ⟨good_in (tb3 (List.mem_of_getElem? (i := 204) rfl)) rfl, inX4, by decide +kernel, plainFor_of_name (by decide +kernel), by decide⟩
theorem oX4_shapeAll : MO mX4_shapeAll 4 := ⟨good_in (tb3 (List.mem_of_getElem? (i := 203) rfl)) rfl, good_in (tp2 (List.mem_of_getElem? (i := 7) rfl)) rfl, by decide, rfl⟩
theorem bX5_init : MB mX5_init 0 := ⟨good_in (tb1 (List.mem_of_getElem? (i := 128) rfl)) rfl, inX5, by decide +kernel, plainFor_of_name (by decide +kernel), by decide⟩
theorem qX5_init : Cond.instanceMethod yX5_init ∈ lw_good ∧ yX5_init.name = "<init>" ∧ mX5_init.2.2.2 = none := ⟨good_in (tb1 (List.mem_of_getElem? (i := 127) rfl)) rfl, rfl, rfl⟩
theorem bX5_keep : MB mX5_keep 1 := ⟨good_in (tb3 (List.mem_of_getElem? (i := 157) rfl)) rfl, inX5, by decide +kernel, plainFor_of_name (by decide +kernel), by decide⟩
theorem oX5_keep : MO mX5_keep 5 := ⟨good_in (tb3 (List.mem_of_getElem? (i := 155) rfl)) rfl, good_in (tb3 (List.mem_of_getElem? (i := 156) rfl)) rfl, by decide, rfl⟩
theorem bX5_takeBack : MB mX5_takeBack 1 := ⟨good_in (tb4 (List.mem_of_getElem? (i := 8) rfl)) rfl, inX5, by decide +kernel, plainFor_of_name (by decide +kernel), by decide⟩
theorem oX5_takeBack : MO mX5_takeBack 5 := ⟨good_in (tb4 (List.mem_of_getElem? (i := 6) rfl)) rfl, good_in (tb4 (List.mem_of_getElem? (i := 7) rfl)) rfl, by decide, rfl⟩
theorem bX5_forget : MB mX5_forget 0 := ⟨good_in (tb3 (List.mem_of_getElem? (i := 43) rfl)) rfl, inX5, by decide +kernel, plainFor_of_name (by decide +kernel), by decide⟩
theorem oX5_forget : MO mX5_forget 5 := ⟨good_in (tb3 (List.mem_of_getElem? (i := 41) rfl)) rfl, good_in (tb3 (List.mem_of_getElem? (i := 42) rfl)) rfl, by decide, rfl⟩
theorem bX5_copyFrom : MB mX5_copyFrom 1 := ⟨good_in (tb5 (List.mem_of_getElem? (i := 43) rfl)) rfl, inX5, by decide +kernel, plainFor_of_name (by decide +kernel), by decide⟩
theorem oX5_copyFrom : MO mX5_copyFrom 5 := ⟨good_in (tb5 (List.mem_of_getElem? (i := 41) rfl)) rfl, good_in (tb5 (List.mem_of_getElem? (i := 42) rfl)) rfl, by decide, rfl⟩
theorem bX6_init : MB mX6_init 0 := ⟨good_in (tb1 (List.mem_of_getElem? (i := 182) rfl)) rfl, inX6, by decide +kernel, plainFor_of_name (by decide +kernel), by decide⟩
theorem qX6_init : Cond.instanceMethod yX6_init ∈ lw_good ∧ yX6_init.name = "<init>" ∧ mX6_init.2.2.2 = none := ⟨good_in (tb1 (List.mem_of_getElem? (i := 181) rfl)) rfl, rfl, rfl⟩
theorem bX6_readCity : MB mX6_readCity 2 := ⟨good_in (tb2 (List.mem_of_getElem? (i := 166) rfl)) rfl, inX6, by decide +kernel, plainFor_of_name (by decide +kernel), by decide⟩
theorem oX6_readCity : MO mX6_readCity 6 := ⟨good_in (tb2 (List.mem_of_getElem? (i := 164) rfl)) rfl, good_in (tb2 (List.mem_of_getElem? (i := 165) rfl)) rfl, by decide, rfl⟩
theorem bX6_readCityClause : MB mX6_readCityClause 1 := ⟨good_in (tb2 (List.mem_of_getElem? (i := 184) rfl)) rfl, inX6, by decide +kernel, plainFor_of_name (by decide +kernel), by decide⟩
theorem oX6_readCityClause : MO mX6_readCityClause 6 := ⟨good_in (tb2 (List.mem_of_getElem? (i := 183) rfl)) rfl, good_in (tp1 (List.mem_of_getElem? (i := 2) rfl)) rfl, by decide, rfl⟩
theorem bX6_cityClauseFits : MB mX6_cityClauseFits 2 := ⟨good_in (tb3 (List.mem_of_getElem? (i := 12) rfl)) rfl, inX6, by decide +kernel, plainFor_of_name (by decide +kernel), by decide⟩
theorem oX6_cityClauseFits : MO mX6_cityClauseFits 6 := ⟨good_in (tb3 (List.mem_of_getElem? (i := 11) rfl)) rfl, good_in (tp1 (List.mem_of_getElem? (i := 6) rfl)) rfl, by decide, rfl⟩
theorem bX6_readRule : MB mX6_readRule 3 := ⟨good_in (tb3 (List.mem_of_getElem? (i := 52) rfl)) rfl, inX6, by decide +kernel, plainFor_of_name (by decide +kernel), by decide⟩
theorem oX6_readRule : MO mX6_readRule 6 := ⟨good_in (tb3 (List.mem_of_getElem? (i := 50) rfl)) rfl, good_in (tb3 (List.mem_of_getElem? (i := 51) rfl)) rfl, by decide, rfl⟩
theorem bX6_readTest : MB mX6_readTest 1 := ⟨good_in (tb3 (List.mem_of_getElem? (i := 91) rfl)) rfl, inX6, by decide +kernel, plainFor_of_name (by decide +kernel), by decide⟩
theorem oX6_readTest : MO mX6_readTest 6 := ⟨good_in (tb3 (List.mem_of_getElem? (i := 90) rfl)) rfl, good_in (tp1 (List.mem_of_getElem? (i := 12) rfl)) rfl, by decide, rfl⟩
theorem bX6_readFact : MB mX6_readFact 1 := ⟨good_in (tb3 (List.mem_of_getElem? (i := 95) rfl)) rfl, inX6, by decide +kernel, plainFor_of_name (by decide +kernel), by decide⟩
theorem oX6_readFact : MO mX6_readFact 6 := ⟨good_in (tb3 (List.mem_of_getElem? (i := 94) rfl)) rfl, good_in (tp1 (List.mem_of_getElem? (i := 13) rfl)) rfl, by decide, rfl⟩
theorem bX6_expectClosing : MB mX6_expectClosing 0 := ⟨good_in (tb3 (List.mem_of_getElem? (i := 100) rfl)) rfl, inX6, by decide +kernel, plainFor_of_name (by decide +kernel), by decide⟩
theorem oX6_expectClosing : MO mX6_expectClosing 6 := ⟨good_in (tb3 (List.mem_of_getElem? (i := 99) rfl)) rfl, good_in (tp1 (List.mem_of_getElem? (i := 14) rfl)) rfl, by decide, rfl⟩
theorem bX6_readSign : MB mX6_readSign 0 := ⟨good_in (tb3 (List.mem_of_getElem? (i := 104) rfl)) rfl, inX6, by decide +kernel, plainFor_of_name (by decide +kernel), by decide⟩
theorem oX6_readSign : MO mX6_readSign 6 := ⟨good_in (tb3 (List.mem_of_getElem? (i := 103) rfl)) rfl, good_in (tp1 (List.mem_of_getElem? (i := 15) rfl)) rfl, by decide, rfl⟩
theorem bX6_readSum : MB mX6_readSum 0 := ⟨good_in (tb3 (List.mem_of_getElem? (i := 65) rfl)) rfl, inX6, by decide +kernel, plainFor_of_name (by decide +kernel), by decide⟩
theorem oX6_readSum : MO mX6_readSum 6 := ⟨good_in (tb3 (List.mem_of_getElem? (i := 64) rfl)) rfl, good_in (tp1 (List.mem_of_getElem? (i := 9) rfl)) rfl, by decide, rfl⟩
theorem bX6_stepOf : MB mX6_stepOf 1 := ⟨good_in (tb3 (List.mem_of_getElem? (i := 82) rfl)) rfl, inX6, by decide +kernel, plainFor_of_name (by decide +kernel), by decide⟩
theorem sX6_stepOf : Cond.static yX6_stepOf ∈ lw_good := good_in (tb3 (List.mem_of_getElem? (i := 81) rfl)) rfl
theorem bX6_readValue : MB mX6_readValue 0 := ⟨good_in (tb3 (List.mem_of_getElem? (i := 69) rfl)) rfl, inX6, by decide +kernel, plainFor_of_name (by decide +kernel), by decide⟩
theorem oX6_readValue : MO mX6_readValue 6 := ⟨good_in (tb3 (List.mem_of_getElem? (i := 68) rfl)) rfl, good_in (tp1 (List.mem_of_getElem? (i := 10) rfl)) rfl, by decide, rfl⟩
theorem bX6_countItem : MB mX6_countItem 1 := ⟨good_in (tb3 (List.mem_of_getElem? (i := 79) rfl)) rfl, inX6, by decide +kernel, plainFor_of_name (by decide +kernel), by decide⟩
theorem oX6_countItem : MO mX6_countItem 6 := ⟨good_in (tb3 (List.mem_of_getElem? (i := 78) rfl)) rfl, good_in (tp1 (List.mem_of_getElem? (i := 11) rfl)) rfl, by decide, rfl⟩
theorem bX6_readNumber : MB mX6_readNumber 2 := ⟨good_in (tb3 (List.mem_of_getElem? (i := 16) rfl)) rfl, inX6, by decide +kernel, plainFor_of_name (by decide +kernel), by decide⟩
theorem oX6_readNumber : MO mX6_readNumber 6 := ⟨good_in (tb3 (List.mem_of_getElem? (i := 15) rfl)) rfl, good_in (tp1 (List.mem_of_getElem? (i := 7) rfl)) rfl, by decide, rfl⟩
theorem bX6_takeWord : MB mX6_takeWord 1 := ⟨good_in (tb2 (List.mem_of_getElem? (i := 193) rfl)) rfl, inX6, by decide +kernel, plainFor_of_name (by decide +kernel), by decide⟩
theorem oX6_takeWord : MO mX6_takeWord 6 := ⟨good_in (tb2 (List.mem_of_getElem? (i := 192) rfl)) rfl, good_in (tp1 (List.mem_of_getElem? (i := 4) rfl)) rfl, by decide, rfl⟩
theorem bX6_clauseListEnds : MB mX6_clauseListEnds 0 := ⟨good_in (tb3 (List.mem_of_getElem? (i := 31) rfl)) rfl, inX6, by decide +kernel, plainFor_of_name (by decide +kernel), by decide⟩
theorem oX6_clauseListEnds : MO mX6_clauseListEnds 6 := ⟨good_in (tb3 (List.mem_of_getElem? (i := 30) rfl)) rfl, good_in (tp1 (List.mem_of_getElem? (i := 8) rfl)) rfl, by decide, rfl⟩
theorem bX6_open : MB mX6_open 2 := ⟨good_in (tb2 (List.mem_of_getElem? (i := 170) rfl)) rfl, inX6, by decide +kernel, plainFor_of_name (by decide +kernel), by decide⟩
theorem oX6_open : MO mX6_open 6 := ⟨good_in (tb2 (List.mem_of_getElem? (i := 169) rfl)) rfl, good_in (tp1 (List.mem_of_getElem? (i := 1) rfl)) rfl, by decide, rfl⟩
theorem bX6_next : MB mX6_next 0 := ⟨good_in (tb2 (List.mem_of_getElem? (i := 188) rfl)) rfl, inX6, by decide +kernel, plainFor_of_name (by decide +kernel), by decide⟩
theorem oX6_next : MO mX6_next 6 := ⟨good_in (tb2 (List.mem_of_getElem? (i := 187) rfl)) rfl, good_in (tp1 (List.mem_of_getElem? (i := 3) rfl)) rfl, by decide, rfl⟩
theorem bX6_fail : MB mX6_fail 2 := ⟨good_in (tb3 (List.mem_of_getElem? (i := 8) rfl)) rfl, inX6, by decide +kernel, plainFor_of_name (by decide +kernel), by decide⟩
theorem oX6_fail : MO mX6_fail 6 := ⟨good_in (tb3 (List.mem_of_getElem? (i := 7) rfl)) rfl, good_in (tp1 (List.mem_of_getElem? (i := 5) rfl)) rfl, by decide, rfl⟩
theorem bX6_isDigit : MB mX6_isDigit 1 := ⟨good_in (tb3 (List.mem_of_getElem? (i := 19) rfl)) rfl, inX6, by decide +kernel, plainFor_of_name (by decide +kernel), by decide⟩
theorem sX6_isDigit : Cond.static yX6_isDigit ∈ lw_good := good_in (tb3 (List.mem_of_getElem? (i := 18) rfl)) rfl
theorem bX6_isLetter : MB mX6_isLetter 1 := ⟨good_in (tb3 (List.mem_of_getElem? (i := 4) rfl)) rfl, inX6, by decide +kernel, plainFor_of_name (by decide +kernel), by decide⟩
theorem sX6_isLetter : Cond.static yX6_isLetter ∈ lw_good := good_in (tb3 (List.mem_of_getElem? (i := 3) rfl)) rfl
theorem bX7_init : MB mX7_init 0 := ⟨good_in (tb2 (List.mem_of_getElem? (i := 84) rfl)) rfl, inX7, by decide +kernel, plainFor_of_name (by decide +kernel), by decide⟩
theorem qX7_init : Cond.instanceMethod yX7_init ∈ lw_good ∧ yX7_init.name = "<init>" ∧ mX7_init.2.2.2 = none := ⟨good_in (tb2 (List.mem_of_getElem? (i := 83) rfl)) rfl, rfl, rfl⟩
theorem bX7_clear : MB mX7_clear 0 := ⟨good_in (tb3 (List.mem_of_getElem? (i := 56) rfl)) rfl, inX7, by decide +kernel, plainFor_of_name (by decide +kernel), by decide⟩
theorem oX7_clear : MO mX7_clear 7 := ⟨good_in (tb3 (List.mem_of_getElem? (i := 54) rfl)) rfl, good_in (tb3 (List.mem_of_getElem? (i := 55) rfl)) rfl, by decide, rfl⟩
theorem bX7_add : MB mX7_add 2 := ⟨good_in (tb3 (List.mem_of_getElem? (i := 74) rfl)) rfl, inX7, by decide +kernel, plainFor_of_name (by decide +kernel), by decide⟩
theorem oX7_add : MO mX7_add 7 := ⟨good_in (tb3 (List.mem_of_getElem? (i := 72) rfl)) rfl, good_in (tb3 (List.mem_of_getElem? (i := 73) rfl)) rfl, by decide, rfl⟩
theorem bX7_openClause : MB mX7_openClause 0 := ⟨good_in (tb3 (List.mem_of_getElem? (i := 61) rfl)) rfl, inX7, by decide +kernel, plainFor_of_name (by decide +kernel), by decide⟩
theorem oX7_openClause : MO mX7_openClause 7 := ⟨good_in (tb3 (List.mem_of_getElem? (i := 59) rfl)) rfl, good_in (tb3 (List.mem_of_getElem? (i := 60) rfl)) rfl, by decide, rfl⟩
theorem bX7_openTest : MB mX7_openTest 0 := ⟨good_in (tb3 (List.mem_of_getElem? (i := 86) rfl)) rfl, inX7, by decide +kernel, plainFor_of_name (by decide +kernel), by decide⟩
theorem oX7_openTest : MO mX7_openTest 7 := ⟨good_in (tb3 (List.mem_of_getElem? (i := 84) rfl)) rfl, good_in (tb3 (List.mem_of_getElem? (i := 85) rfl)) rfl, by decide, rfl⟩
theorem bX7_closeClause : MB mX7_closeClause 0 := ⟨good_in (tb3 (List.mem_of_getElem? (i := 109) rfl)) rfl, inX7, by decide +kernel, plainFor_of_name (by decide +kernel), by decide⟩
theorem oX7_closeClause : MO mX7_closeClause 7 := ⟨good_in (tb3 (List.mem_of_getElem? (i := 107) rfl)) rfl, good_in (tb3 (List.mem_of_getElem? (i := 108) rfl)) rfl, by decide, rfl⟩
theorem bX8_init : MB mX8_init 0 := ⟨good_in (tb1 (List.mem_of_getElem? (i := 38) rfl)) rfl, inX8, by decide +kernel, plainFor_of_name (by decide +kernel), by decide⟩
theorem qX8_init : Cond.instanceMethod yX8_init ∈ lw_good ∧ yX8_init.name = "<init>" ∧ mX8_init.2.2.2 = none := ⟨good_in (tb1 (List.mem_of_getElem? (i := 37) rfl)) rfl, rfl, rfl⟩
theorem bX8_stands : MB mX8_stands 0 := ⟨good_in (tb3 (List.mem_of_getElem? (i := 149) rfl)) rfl, inX8, by decide +kernel, plainFor_of_name (by decide +kernel), by decide⟩
theorem oX8_stands : MO mX8_stands 8 := ⟨good_in (tb3 (List.mem_of_getElem? (i := 147) rfl)) rfl, good_in (tb3 (List.mem_of_getElem? (i := 148) rfl)) rfl, by decide, rfl⟩
theorem bX8_hasBed : MB mX8_hasBed 1 := ⟨good_in (tb3 (List.mem_of_getElem? (i := 121) rfl)) rfl, inX8, by decide +kernel, plainFor_of_name (by decide +kernel), by decide⟩
theorem oX8_hasBed : MO mX8_hasBed 8 := ⟨good_in (tb3 (List.mem_of_getElem? (i := 119) rfl)) rfl, good_in (tb3 (List.mem_of_getElem? (i := 120) rfl)) rfl, by decide, rfl⟩
theorem bX8_hasLodger : MB mX8_hasLodger 1 := ⟨good_in (tb3 (List.mem_of_getElem? (i := 133) rfl)) rfl, inX8, by decide +kernel, plainFor_of_name (by decide +kernel), by decide⟩
theorem oX8_hasLodger : MO mX8_hasLodger 8 := ⟨good_in (tb3 (List.mem_of_getElem? (i := 131) rfl)) rfl, good_in (tb3 (List.mem_of_getElem? (i := 132) rfl)) rfl, by decide, rfl⟩
theorem bX8_far : MB mX8_far 1 := ⟨good_in (tb3 (List.mem_of_getElem? (i := 137) rfl)) rfl, inX8, by decide +kernel, plainFor_of_name (by decide +kernel), by decide⟩
theorem oX8_far : MO mX8_far 8 := ⟨good_in (tb3 (List.mem_of_getElem? (i := 135) rfl)) rfl, good_in (tb3 (List.mem_of_getElem? (i := 136) rfl)) rfl, by decide, rfl⟩
theorem bX8_farOfAll : MB mX8_farOfAll 0 := ⟨good_in (tb4 (List.mem_of_getElem? (i := 30) rfl)) rfl, inX8, by decide +kernel, plainFor_of_name (by decide +kernel), by decide⟩
theorem oX8_farOfAll : MO mX8_farOfAll 8 := ⟨good_in (tb4 (List.mem_of_getElem? (i := 28) rfl)) rfl, good_in (tb4 (List.mem_of_getElem? (i := 29) rfl)) rfl, by decide, rfl⟩
theorem bX8_hollowOfAll : MB mX8_hollowOfAll 0 := ⟨good_in (tb5 (List.mem_of_getElem? (i := 25) rfl)) rfl, inX8, by decide +kernel, plainFor_of_name (by decide +kernel), by decide⟩
theorem oX8_hollowOfAll : MO mX8_hollowOfAll 8 := ⟨good_in (tb5 (List.mem_of_getElem? (i := 23) rfl)) rfl, good_in (tb5 (List.mem_of_getElem? (i := 24) rfl)) rfl, by decide, rfl⟩
theorem bX8_sleptOfAll : MB mX8_sleptOfAll 0 := ⟨good_in (tb4 (List.mem_of_getElem? (i := 183) rfl)) rfl, inX8, by decide +kernel, plainFor_of_name (by decide +kernel), by decide⟩
theorem oX8_sleptOfAll : MO mX8_sleptOfAll 8 := ⟨good_in (tb4 (List.mem_of_getElem? (i := 181) rfl)) rfl, good_in (tb4 (List.mem_of_getElem? (i := 182) rfl)) rfl, by decide, rfl⟩
theorem bX8_lodgersOn : MB mX8_lodgersOn 1 := ⟨good_in (tb3 (List.mem_of_getElem? (i := 125) rfl)) rfl, inX8, by decide +kernel, plainFor_of_name (by decide +kernel), by decide⟩
theorem oX8_lodgersOn : MO mX8_lodgersOn 8 := ⟨good_in (tb3 (List.mem_of_getElem? (i := 123) rfl)) rfl, good_in (tb3 (List.mem_of_getElem? (i := 124) rfl)) rfl, by decide, rfl⟩
theorem bX8_shapeBehind : MB mX8_shapeBehind 2 := ⟨good_in (tb3 (List.mem_of_getElem? (i := 216) rfl)) rfl, inX8, by decide +kernel, plainFor_of_name (by decide +kernel), by decide⟩
theorem oX8_shapeBehind : MO mX8_shapeBehind 8 := ⟨good_in (tb3 (List.mem_of_getElem? (i := 214) rfl)) rfl, good_in (tb3 (List.mem_of_getElem? (i := 215) rfl)) rfl, by decide, rfl⟩
theorem bX8_hollowBehind : MB mX8_hollowBehind 2 := ⟨good_in (tb3 (List.mem_of_getElem? (i := 208) rfl)) rfl, inX8, by decide +kernel, plainFor_of_name (by decide +kernel), by decide⟩
theorem oX8_hollowBehind : MO mX8_hollowBehind 8 := ⟨good_in (tb3 (List.mem_of_getElem? (i := 206) rfl)) rfl, good_in (tb3 (List.mem_of_getElem? (i := 207) rfl)) rfl, by decide, rfl⟩
theorem bX8_swapSides : MB mX8_swapSides 1 := ⟨good_in (tb3 (List.mem_of_getElem? (i := 228) rfl)) rfl, inX8, by decide +kernel, plainFor_of_name (by decide +kernel), by decide⟩
theorem oX8_swapSides : MO mX8_swapSides 8 := ⟨good_in (tb3 (List.mem_of_getElem? (i := 226) rfl)) rfl, good_in (tb3 (List.mem_of_getElem? (i := 227) rfl)) rfl, by decide, rfl⟩
theorem bX8_cardAllIfDue : MB mX8_cardAllIfDue 0 := ⟨good_in (tb3 (List.mem_of_getElem? (i := 220) rfl)) rfl, inX8, by decide +kernel, plainFor_of_name (by decide +kernel), by decide⟩
theorem oX8_cardAllIfDue : MO mX8_cardAllIfDue 8 := ⟨good_in (tb3 (List.mem_of_getElem? (i := 218) rfl)) rfl, good_in (tb3 (List.mem_of_getElem? (i := 219) rfl)) rfl, by decide, rfl⟩
theorem bX8_rentOf : MB mX8_rentOf 2 := ⟨good_in (tb4 (List.mem_of_getElem? (i := 179) rfl)) rfl, inX8, by decide +kernel, plainFor_of_name (by decide +kernel), by decide⟩
theorem oX8_rentOf : MO mX8_rentOf 8 := ⟨good_in (tb4 (List.mem_of_getElem? (i := 177) rfl)) rfl, good_in (tb4 (List.mem_of_getElem? (i := 178) rfl)) rfl, by decide, rfl⟩
theorem bX8_clear : MB mX8_clear 0 := ⟨good_in (tb2 (List.mem_of_getElem? (i := 180) rfl)) rfl, inX8, by decide +kernel, plainFor_of_name (by decide +kernel), by decide⟩
theorem oX8_clear : MO mX8_clear 8 := ⟨good_in (tb2 (List.mem_of_getElem? (i := 178) rfl)) rfl, good_in (tb2 (List.mem_of_getElem? (i := 179) rfl)) rfl, by decide, rfl⟩
theorem bX8_addBed : MB mX8_addBed 3 := ⟨good_in (tb3 (List.mem_of_getElem? (i := 23) rfl)) rfl, inX8, by decide +kernel, plainFor_of_name (by decide +kernel), by decide⟩
theorem oX8_addBed : MO mX8_addBed 8 := ⟨good_in (tb3 (List.mem_of_getElem? (i := 21) rfl)) rfl, good_in (tb3 (List.mem_of_getElem? (i := 22) rfl)) rfl, by decide, rfl⟩
theorem bX8_addLodger : MB mX8_addLodger 3 := ⟨good_in (tb3 (List.mem_of_getElem? (i := 27) rfl)) rfl, inX8, by decide +kernel, plainFor_of_name (by decide +kernel), by decide⟩
theorem oX8_addLodger : MO mX8_addLodger 8 := ⟨good_in (tb3 (List.mem_of_getElem? (i := 25) rfl)) rfl, good_in (tb3 (List.mem_of_getElem? (i := 26) rfl)) rfl, by decide, rfl⟩
theorem bX8_copyFrom : MB mX8_copyFrom 1 := ⟨good_in (tb3 (List.mem_of_getElem? (i := 39) rfl)) rfl, inX8, by decide +kernel, plainFor_of_name (by decide +kernel), by decide⟩
theorem oX8_copyFrom : MO mX8_copyFrom 8 := ⟨good_in (tb3 (List.mem_of_getElem? (i := 37) rfl)) rfl, good_in (tb3 (List.mem_of_getElem? (i := 38) rfl)) rfl, by decide, rfl⟩
theorem bX8_packInto : MB mX8_packInto 2 := ⟨good_in (tb3 (List.mem_of_getElem? (i := 161) rfl)) rfl, inX8, by decide +kernel, plainFor_of_name (by decide +kernel), by decide⟩
theorem oX8_packInto : MO mX8_packInto 8 := ⟨good_in (tb3 (List.mem_of_getElem? (i := 159) rfl)) rfl, good_in (tb3 (List.mem_of_getElem? (i := 160) rfl)) rfl, by decide, rfl⟩
theorem bX8_unpackFrom : MB mX8_unpackFrom 2 := ⟨good_in (tb4 (List.mem_of_getElem? (i := 12) rfl)) rfl, inX8, by decide +kernel, plainFor_of_name (by decide +kernel), by decide⟩
theorem oX8_unpackFrom : MO mX8_unpackFrom 8 := ⟨good_in (tb4 (List.mem_of_getElem? (i := 10) rfl)) rfl, good_in (tb4 (List.mem_of_getElem? (i := 11) rfl)) rfl, by decide, rfl⟩
theorem bX9_init : MB mX9_init 0 := ⟨good_in (tb1 (List.mem_of_getElem? (i := 22) rfl)) rfl, inX9, by decide +kernel, plainFor_of_name (by decide +kernel), by decide⟩
theorem qX9_init : Cond.instanceMethod yX9_init ∈ lw_good ∧ yX9_init.name = "<init>" ∧ mX9_init.2.2.2 = none := ⟨good_in (tb1 (List.mem_of_getElem? (i := 21) rfl)) rfl, rfl, rfl⟩
theorem bX9_feed : MB mX9_feed 5 := ⟨good_in (tb2 (List.mem_of_getElem? (i := 150) rfl)) rfl, inX9, by decide +kernel, plainFor_of_name (by decide +kernel), by decide⟩
theorem oX9_feed : MO mX9_feed 9 := ⟨good_in (tb2 (List.mem_of_getElem? (i := 148) rfl)) rfl, good_in (tb2 (List.mem_of_getElem? (i := 149) rfl)) rfl, by decide, rfl⟩
theorem bX9_append : MB mX9_append 1 := ⟨good_in (tb2 (List.mem_of_getElem? (i := 154) rfl)) rfl, inX9, by decide +kernel, plainFor_of_name (by decide +kernel), by decide⟩
theorem oX9_append : MO mX9_append 9 := ⟨good_in (tb2 (List.mem_of_getElem? (i := 153) rfl)) rfl, good_in (tp1 (List.mem_of_getElem? (i := 0) rfl)) rfl, by decide, rfl⟩
theorem bX9_end : MB mX9_end 1 := ⟨good_in (tb2 (List.mem_of_getElem? (i := 158) rfl)) rfl, inX9, by decide +kernel, plainFor_of_name (by decide +kernel), by decide⟩
theorem oX9_end : MO mX9_end 9 := ⟨good_in (tb2 (List.mem_of_getElem? (i := 156) rfl)) rfl, good_in (tb2 (List.mem_of_getElem? (i := 157) rfl)) rfl, by decide, rfl⟩
theorem bX9_city : MB mX9_city 0 := ⟨good_in (tb2 (List.mem_of_getElem? (i := 162) rfl)) rfl, inX9, by decide +kernel, plainFor_of_name (by decide +kernel), by decide⟩
theorem oX9_city : MO mX9_city 9 := ⟨good_in (tb2 (List.mem_of_getElem? (i := 160) rfl)) rfl, good_in (tb2 (List.mem_of_getElem? (i := 161) rfl)) rfl, by decide, rfl⟩
theorem bX9_rule : MB mX9_rule 0 := ⟨good_in (tb3 (List.mem_of_getElem? (i := 48) rfl)) rfl, inX9, by decide +kernel, plainFor_of_name (by decide +kernel), by decide⟩
theorem oX9_rule : MO mX9_rule 9 := ⟨good_in (tb3 (List.mem_of_getElem? (i := 46) rfl)) rfl, good_in (tb3 (List.mem_of_getElem? (i := 47) rfl)) rfl, by decide, rfl⟩
theorem bX9_force : MB mX9_force 1 := ⟨good_in (tb3 (List.mem_of_getElem? (i := 113) rfl)) rfl, inX9, by decide +kernel, plainFor_of_name (by decide +kernel), by decide⟩
theorem oX9_force : MO mX9_force 9 := ⟨good_in (tb3 (List.mem_of_getElem? (i := 111) rfl)) rfl, good_in (tb3 (List.mem_of_getElem? (i := 112) rfl)) rfl, by decide, rfl⟩
theorem bX9_ruleInForce : MB mX9_ruleInForce 0 := ⟨good_in (tb3 (List.mem_of_getElem? (i := 166) rfl)) rfl, inX9, by decide +kernel, plainFor_of_name (by decide +kernel), by decide⟩
theorem oX9_ruleInForce : MO mX9_ruleInForce 9 := ⟨good_in (tb3 (List.mem_of_getElem? (i := 165) rfl)) rfl, good_in (tp2 (List.mem_of_getElem? (i := 0) rfl)) rfl, by decide, rfl⟩
theorem bX9_bed : MB mX9_bed 2 := ⟨good_in (tb3 (List.mem_of_getElem? (i := 117) rfl)) rfl, inX9, by decide +kernel, plainFor_of_name (by decide +kernel), by decide⟩
theorem oX9_bed : MO mX9_bed 9 := ⟨good_in (tb3 (List.mem_of_getElem? (i := 115) rfl)) rfl, good_in (tb3 (List.mem_of_getElem? (i := 116) rfl)) rfl, by decide, rfl⟩
theorem bX9_lodger : MB mX9_lodger 2 := ⟨good_in (tb3 (List.mem_of_getElem? (i := 129) rfl)) rfl, inX9, by decide +kernel, plainFor_of_name (by decide +kernel), by decide⟩
theorem oX9_lodger : MO mX9_lodger 9 := ⟨good_in (tb3 (List.mem_of_getElem? (i := 127) rfl)) rfl, good_in (tb3 (List.mem_of_getElem? (i := 128) rfl)) rfl, by decide, rfl⟩
theorem bX9_night : MB mX9_night 0 := ⟨good_in (tb3 (List.mem_of_getElem? (i := 145) rfl)) rfl, inX9, by decide +kernel, plainFor_of_name (by decide +kernel), by decide⟩
theorem oX9_night : MO mX9_night 9 := ⟨good_in (tb3 (List.mem_of_getElem? (i := 143) rfl)) rfl, good_in (tb3 (List.mem_of_getElem? (i := 144) rfl)) rfl, by decide, rfl⟩
theorem bX9_turn : MB mX9_turn 1 := ⟨good_in (tb3 (List.mem_of_getElem? (i := 224) rfl)) rfl, inX9, by decide +kernel, plainFor_of_name (by decide +kernel), by decide⟩
theorem oX9_turn : MO mX9_turn 9 := ⟨good_in (tb3 (List.mem_of_getElem? (i := 222) rfl)) rfl, good_in (tb3 (List.mem_of_getElem? (i := 223) rfl)) rfl, by decide, rfl⟩
theorem bX9_stuff : MB mX9_stuff 2 := ⟨good_in (tb3 (List.mem_of_getElem? (i := 232) rfl)) rfl, inX9, by decide +kernel, plainFor_of_name (by decide +kernel), by decide⟩
theorem oX9_stuff : MO mX9_stuff 9 := ⟨good_in (tb3 (List.mem_of_getElem? (i := 230) rfl)) rfl, good_in (tb3 (List.mem_of_getElem? (i := 231) rfl)) rfl, by decide, rfl⟩
theorem bX9_burn : MB mX9_burn 1 := ⟨good_in (tb3 (List.mem_of_getElem? (i := 236) rfl)) rfl, inX9, by decide +kernel, plainFor_of_name (by decide +kernel), by decide⟩
theorem oX9_burn : MO mX9_burn 9 := ⟨good_in (tb3 (List.mem_of_getElem? (i := 234) rfl)) rfl, good_in (tb3 (List.mem_of_getElem? (i := 235) rfl)) rfl, by decide, rfl⟩
theorem bX9_lead : MB mX9_lead 2 := ⟨good_in (tb4 (List.mem_of_getElem? (i := 0) rfl)) rfl, inX9, by decide +kernel, plainFor_of_name (by decide +kernel), by decide⟩
theorem oX9_lead : MO mX9_lead 9 := ⟨good_in (tb3 (List.mem_of_getElem? (i := 238) rfl)) rfl, good_in (tb3 (List.mem_of_getElem? (i := 239) rfl)) rfl, by decide, rfl⟩
theorem bX9_undo : MB mX9_undo 0 := ⟨good_in (tb4 (List.mem_of_getElem? (i := 4) rfl)) rfl, inX9, by decide +kernel, plainFor_of_name (by decide +kernel), by decide⟩
theorem oX9_undo : MO mX9_undo 9 := ⟨good_in (tb4 (List.mem_of_getElem? (i := 2) rfl)) rfl, good_in (tb4 (List.mem_of_getElem? (i := 3) rfl)) rfl, by decide, rfl⟩
theorem bX9_ahead : MB mX9_ahead 3 := ⟨good_in (tb4 (List.mem_of_getElem? (i := 16) rfl)) rfl, inX9, by decide +kernel, plainFor_of_name (by decide +kernel), by decide⟩
theorem oX9_ahead : MO mX9_ahead 9 := ⟨good_in (tb4 (List.mem_of_getElem? (i := 14) rfl)) rfl, good_in (tb4 (List.mem_of_getElem? (i := 15) rfl)) rfl, by decide, rfl⟩
theorem bX9_comes : MB mX9_comes 2 := ⟨good_in (tb4 (List.mem_of_getElem? (i := 35) rfl)) rfl, inX9, by decide +kernel, plainFor_of_name (by decide +kernel), by decide⟩
theorem oX9_comes : MO mX9_comes 9 := ⟨good_in (tb4 (List.mem_of_getElem? (i := 33) rfl)) rfl, good_in (tb4 (List.mem_of_getElem? (i := 34) rfl)) rfl, by decide, rfl⟩
theorem bX9_row : MB mX9_row 3 := ⟨good_in (tb4 (List.mem_of_getElem? (i := 44) rfl)) rfl, inX9, by decide +kernel, plainFor_of_name (by decide +kernel), by decide⟩
theorem oX9_row : MO mX9_row 9 := ⟨good_in (tb4 (List.mem_of_getElem? (i := 42) rfl)) rfl, good_in (tb4 (List.mem_of_getElem? (i := 43) rfl)) rfl, by decide, rfl⟩
theorem bX9_tonight : MB mX9_tonight 1 := ⟨good_in (tb4 (List.mem_of_getElem? (i := 72) rfl)) rfl, inX9, by decide +kernel, plainFor_of_name (by decide +kernel), by decide⟩
theorem oX9_tonight : MO mX9_tonight 9 := ⟨good_in (tb4 (List.mem_of_getElem? (i := 70) rfl)) rfl, good_in (tb4 (List.mem_of_getElem? (i := 71) rfl)) rfl, by decide, rfl⟩
theorem bX9_turned : MB mX9_turned 2 := ⟨good_in (tb4 (List.mem_of_getElem? (i := 92) rfl)) rfl, inX9, by decide +kernel, plainFor_of_name (by decide +kernel), by decide⟩
theorem oX9_turned : MO mX9_turned 9 := ⟨good_in (tb4 (List.mem_of_getElem? (i := 90) rfl)) rfl, good_in (tb4 (List.mem_of_getElem? (i := 91) rfl)) rfl, by decide, rfl⟩
theorem bX9_lain : MB mX9_lain 3 := ⟨good_in (tb4 (List.mem_of_getElem? (i := 111) rfl)) rfl, inX9, by decide +kernel, plainFor_of_name (by decide +kernel), by decide⟩
theorem oX9_lain : MO mX9_lain 9 := ⟨good_in (tb4 (List.mem_of_getElem? (i := 109) rfl)) rfl, good_in (tb4 (List.mem_of_getElem? (i := 110) rfl)) rfl, by decide, rfl⟩
theorem bX9_twins : MB mX9_twins 2 := ⟨good_in (tb4 (List.mem_of_getElem? (i := 126) rfl)) rfl, inX9, by decide +kernel, plainFor_of_name (by decide +kernel), by decide⟩
theorem oX9_twins : MO mX9_twins 9 := ⟨good_in (tb4 (List.mem_of_getElem? (i := 124) rfl)) rfl, good_in (tb4 (List.mem_of_getElem? (i := 125) rfl)) rfl, by decide, rfl⟩
theorem bX9_settled : MB mX9_settled 1 := ⟨good_in (tb4 (List.mem_of_getElem? (i := 134) rfl)) rfl, inX9, by decide +kernel, plainFor_of_name (by decide +kernel), by decide⟩
theorem oX9_settled : MO mX9_settled 9 := ⟨good_in (tb4 (List.mem_of_getElem? (i := 132) rfl)) rfl, good_in (tb4 (List.mem_of_getElem? (i := 133) rfl)) rfl, by decide, rfl⟩
theorem bX9_best : MB mX9_best 2 := ⟨good_in (tb4 (List.mem_of_getElem? (i := 151) rfl)) rfl, inX9, by decide +kernel, plainFor_of_name (by decide +kernel), by decide⟩
theorem oX9_best : MO mX9_best 9 := ⟨good_in (tb4 (List.mem_of_getElem? (i := 149) rfl)) rfl, good_in (tb4 (List.mem_of_getElem? (i := 150) rfl)) rfl, by decide, rfl⟩
theorem bX9_rests : MB mX9_rests 4 := ⟨good_in (tb4 (List.mem_of_getElem? (i := 159) rfl)) rfl, inX9, by decide +kernel, plainFor_of_name (by decide +kernel), by decide⟩
theorem oX9_rests : MO mX9_rests 9 := ⟨good_in (tb4 (List.mem_of_getElem? (i := 157) rfl)) rfl, good_in (tb4 (List.mem_of_getElem? (i := 158) rfl)) rfl, by decide, rfl⟩
theorem bX9_rent : MB mX9_rent 2 := ⟨good_in (tb4 (List.mem_of_getElem? (i := 175) rfl)) rfl, inX9, by decide +kernel, plainFor_of_name (by decide +kernel), by decide⟩
theorem oX9_rent : MO mX9_rent 9 := ⟨good_in (tb4 (List.mem_of_getElem? (i := 173) rfl)) rfl, good_in (tb4 (List.mem_of_getElem? (i := 174) rfl)) rfl, by decide, rfl⟩
theorem bX9_note : MB mX9_note 3 := ⟨good_in (tb4 (List.mem_of_getElem? (i := 187) rfl)) rfl, inX9, by decide +kernel, plainFor_of_name (by decide +kernel), by decide⟩
theorem oX9_note : MO mX9_note 9 := ⟨good_in (tb4 (List.mem_of_getElem? (i := 185) rfl)) rfl, good_in (tb4 (List.mem_of_getElem? (i := 186) rfl)) rfl, by decide, rfl⟩
theorem bX9_ruled : MB mX9_ruled 1 := ⟨good_in (tb4 (List.mem_of_getElem? (i := 195) rfl)) rfl, inX9, by decide +kernel, plainFor_of_name (by decide +kernel), by decide⟩
theorem oX9_ruled : MO mX9_ruled 9 := ⟨good_in (tb4 (List.mem_of_getElem? (i := 193) rfl)) rfl, good_in (tb4 (List.mem_of_getElem? (i := 194) rfl)) rfl, by decide, rfl⟩
theorem bX9_look : MB mX9_look 2 := ⟨good_in (tb4 (List.mem_of_getElem? (i := 225) rfl)) rfl, inX9, by decide +kernel, plainFor_of_name (by decide +kernel), by decide⟩
theorem oX9_look : MO mX9_look 9 := ⟨good_in (tb4 (List.mem_of_getElem? (i := 223) rfl)) rfl, good_in (tb4 (List.mem_of_getElem? (i := 224) rfl)) rfl, by decide, rfl⟩
theorem bX9_seed : MB mX9_seed 1 := ⟨good_in (tb5 (List.mem_of_getElem? (i := 1) rfl)) rfl, inX9, by decide +kernel, plainFor_of_name (by decide +kernel), by decide⟩
theorem oX9_seed : MO mX9_seed 9 := ⟨good_in (tb4 (List.mem_of_getElem? (i := 239) rfl)) rfl, good_in (tb5 (List.mem_of_getElem? (i := 0) rfl)) rfl, by decide, rfl⟩
theorem bX9_mays : MB mX9_mays 4 := ⟨good_in (tb5 (List.mem_of_getElem? (i := 5) rfl)) rfl, inX9, by decide +kernel, plainFor_of_name (by decide +kernel), by decide⟩
theorem oX9_mays : MO mX9_mays 9 := ⟨good_in (tb5 (List.mem_of_getElem? (i := 3) rfl)) rfl, good_in (tb5 (List.mem_of_getElem? (i := 4) rfl)) rfl, by decide, rfl⟩
theorem bX9_count : MB mX9_count 1 := ⟨good_in (tb5 (List.mem_of_getElem? (i := 29) rfl)) rfl, inX9, by decide +kernel, plainFor_of_name (by decide +kernel), by decide⟩
theorem oX9_count : MO mX9_count 9 := ⟨good_in (tb5 (List.mem_of_getElem? (i := 27) rfl)) rfl, good_in (tb5 (List.mem_of_getElem? (i := 28) rfl)) rfl, by decide, rfl⟩
theorem bX9_image : MB mX9_image 1 := ⟨good_in (tb5 (List.mem_of_getElem? (i := 35) rfl)) rfl, inX9, by decide +kernel, plainFor_of_name (by decide +kernel), by decide⟩
theorem oX9_image : MO mX9_image 9 := ⟨good_in (tb5 (List.mem_of_getElem? (i := 33) rfl)) rfl, good_in (tb5 (List.mem_of_getElem? (i := 34) rfl)) rfl, by decide, rfl⟩
theorem bX9_back : MB mX9_back 1 := ⟨good_in (tb5 (List.mem_of_getElem? (i := 47) rfl)) rfl, inX9, by decide +kernel, plainFor_of_name (by decide +kernel), by decide⟩
theorem oX9_back : MO mX9_back 9 := ⟨good_in (tb5 (List.mem_of_getElem? (i := 45) rfl)) rfl, good_in (tb5 (List.mem_of_getElem? (i := 46) rfl)) rfl, by decide, rfl⟩
theorem bX10_init : MB mX10_init 0 := ⟨good_in (tb5 (List.mem_of_getElem? (i := 52) rfl)) rfl, inX10, by decide +kernel, plainFor_of_name (by decide +kernel), by decide⟩
theorem qX10_init : Cond.instanceMethod yX10_init ∈ lw_good ∧ yX10_init.name = "<init>" ∧ mX10_init.2.2.2 = none := ⟨good_in (tb5 (List.mem_of_getElem? (i := 51) rfl)) rfl, rfl, rfl⟩
theorem bX10_in : MB mX10_in 3 := ⟨good_in (tb6 (List.mem_of_getElem? (i := 86) rfl)) rfl, inX10, by decide +kernel, plainFor_of_name (by decide +kernel), by decide⟩
theorem sX10_in : Cond.static yX10_in ∈ lw_good := good_in (tb6 (List.mem_of_getElem? (i := 85) rfl)) rfl
theorem bX10_bits : MB mX10_bits 1 := ⟨good_in (tb7 (List.mem_of_getElem? (i := 133) rfl)) rfl, inX10, by decide +kernel, plainFor_of_name (by decide +kernel), by decide⟩
theorem sX10_bits : Cond.static yX10_bits ∈ lw_good := good_in (tb7 (List.mem_of_getElem? (i := 132) rfl)) rfl
theorem bX10_has : MB mX10_has 2 := ⟨good_in (tb7 (List.mem_of_getElem? (i := 140) rfl)) rfl, inX10, by decide +kernel, plainFor_of_name (by decide +kernel), by decide⟩
theorem sX10_has : Cond.static yX10_has ∈ lw_good := good_in (tb7 (List.mem_of_getElem? (i := 139) rfl)) rfl
theorem bX10_isCity : MB mX10_isCity 0 := ⟨good_in (tb6 (List.mem_of_getElem? (i := 227) rfl)) rfl, inX10, by decide +kernel, plainFor_of_name (by decide +kernel), by decide⟩
theorem oX10_isCity : MO mX10_isCity 10 := ⟨good_in (tb6 (List.mem_of_getElem? (i := 226) rfl)) rfl, good_in (tp5 (List.mem_of_getElem? (i := 11) rfl)) rfl, by decide, rfl⟩
theorem bX10_isBed : MB mX10_isBed 1 := ⟨good_in (tb6 (List.mem_of_getElem? (i := 184) rfl)) rfl, inX10, by decide +kernel, plainFor_of_name (by decide +kernel), by decide⟩
theorem oX10_isBed : MO mX10_isBed 10 := ⟨good_in (tb6 (List.mem_of_getElem? (i := 183) rfl)) rfl, good_in (tp5 (List.mem_of_getElem? (i := 4) rfl)) rfl, by decide, rfl⟩
theorem bX10_isLodger : MB mX10_isLodger 1 := ⟨good_in (tb6 (List.mem_of_getElem? (i := 196) rfl)) rfl, inX10, by decide +kernel, plainFor_of_name (by decide +kernel), by decide⟩
theorem oX10_isLodger : MO mX10_isLodger 10 := ⟨good_in (tb6 (List.mem_of_getElem? (i := 195) rfl)) rfl, good_in (tp5 (List.mem_of_getElem? (i := 6) rfl)) rfl, by decide, rfl⟩
theorem bX10_feed : MB mX10_feed 5 := ⟨good_in (tb6 (List.mem_of_getElem? (i := 12) rfl)) rfl, inX10, by decide +kernel, plainFor_of_name (by decide +kernel), by decide⟩
theorem oX10_feed : MO mX10_feed 10 := ⟨good_in (tb6 (List.mem_of_getElem? (i := 10) rfl)) rfl, good_in (tb6 (List.mem_of_getElem? (i := 11) rfl)) rfl, by decide, rfl⟩
theorem bX10_put : MB mX10_put 1 := ⟨good_in (tb6 (List.mem_of_getElem? (i := 16) rfl)) rfl, inX10, by decide +kernel, plainFor_of_name (by decide +kernel), by decide⟩
theorem oX10_put : MO mX10_put 10 := ⟨good_in (tb6 (List.mem_of_getElem? (i := 15) rfl)) rfl, good_in (tp3 (List.mem_of_getElem? (i := 8) rfl)) rfl, by decide, rfl⟩
theorem bX10_end : MB mX10_end 1 := ⟨good_in (tb6 (List.mem_of_getElem? (i := 20) rfl)) rfl, inX10, by decide +kernel, plainFor_of_name (by decide +kernel), by decide⟩
theorem oX10_end : MO mX10_end 10 := ⟨good_in (tb6 (List.mem_of_getElem? (i := 18) rfl)) rfl, good_in (tb6 (List.mem_of_getElem? (i := 19) rfl)) rfl, by decide, rfl⟩
theorem bX10_wordOf : MB mX10_wordOf 1 := ⟨good_in (tb6 (List.mem_of_getElem? (i := 129) rfl)) rfl, inX10, by decide +kernel, plainFor_of_name (by decide +kernel), by decide⟩
theorem sX10_wordOf : Cond.static yX10_wordOf ∈ lw_good := good_in (tb6 (List.mem_of_getElem? (i := 128) rfl)) rfl
theorem bX10_fails : MB mX10_fails 2 := ⟨good_in (tb6 (List.mem_of_getElem? (i := 60) rfl)) rfl, inX10, by decide +kernel, plainFor_of_name (by decide +kernel), by decide⟩
theorem oX10_fails : MO mX10_fails 10 := ⟨good_in (tb6 (List.mem_of_getElem? (i := 59) rfl)) rfl, good_in (tp3 (List.mem_of_getElem? (i := 15) rfl)) rfl, by decide, rfl⟩
theorem bX10_sign : MB mX10_sign 0 := ⟨good_in (tb6 (List.mem_of_getElem? (i := 44) rfl)) rfl, inX10, by decide +kernel, plainFor_of_name (by decide +kernel), by decide⟩
theorem oX10_sign : MO mX10_sign 10 := ⟨good_in (tb6 (List.mem_of_getElem? (i := 43) rfl)) rfl, good_in (tp3 (List.mem_of_getElem? (i := 13) rfl)) rfl, by decide, rfl⟩
theorem bX10_blanks : MB mX10_blanks 0 := ⟨good_in (tb6 (List.mem_of_getElem? (i := 40) rfl)) rfl, inX10, by decide +kernel, plainFor_of_name (by decide +kernel), by decide⟩
theorem oX10_blanks : MO mX10_blanks 10 := ⟨good_in (tb6 (List.mem_of_getElem? (i := 39) rfl)) rfl, good_in (tp3 (List.mem_of_getElem? (i := 12) rfl)) rfl, by decide, rfl⟩
theorem bX10_isDigit : MB mX10_isDigit 0 := ⟨good_in (tb6 (List.mem_of_getElem? (i := 81) rfl)) rfl, inX10, by decide +kernel, plainFor_of_name (by decide +kernel), by decide⟩
theorem oX10_isDigit : MO mX10_isDigit 10 := ⟨good_in (tb6 (List.mem_of_getElem? (i := 80) rfl)) rfl, good_in (tp4 (List.mem_of_getElem? (i := 4) rfl)) rfl, by decide, rfl⟩
theorem bX10_stood : MB mX10_stood 1 := ⟨good_in (tb6 (List.mem_of_getElem? (i := 54) rfl)) rfl, inX10, by decide +kernel, plainFor_of_name (by decide +kernel), by decide⟩
theorem oX10_stood : MO mX10_stood 10 := ⟨good_in (tb6 (List.mem_of_getElem? (i := 53) rfl)) rfl, good_in (tp3 (List.mem_of_getElem? (i := 14) rfl)) rfl, by decide, rfl⟩
theorem bX10_takes : MB mX10_takes 1 := ⟨good_in (tb6 (List.mem_of_getElem? (i := 144) rfl)) rfl, inX10, by decide +kernel, plainFor_of_name (by decide +kernel), by decide⟩
theorem oX10_takes : MO mX10_takes 10 := ⟨good_in (tb6 (List.mem_of_getElem? (i := 143) rfl)) rfl, good_in (tp4 (List.mem_of_getElem? (i := 13) rfl)) rfl, by decide, rfl⟩
theorem bX10_entry : MB mX10_entry 2 := ⟨good_in (tb6 (List.mem_of_getElem? (i := 126) rfl)) rfl, inX10, by decide +kernel, plainFor_of_name (by decide +kernel), by decide⟩
theorem oX10_entry : MO mX10_entry 10 := ⟨good_in (tb6 (List.mem_of_getElem? (i := 125) rfl)) rfl, good_in (tp4 (List.mem_of_getElem? (i := 12) rfl)) rfl, by decide, rfl⟩
theorem bX10_isCounted : MB mX10_isCounted 1 := ⟨good_in (tb6 (List.mem_of_getElem? (i := 122) rfl)) rfl, inX10, by decide +kernel, plainFor_of_name (by decide +kernel), by decide⟩
theorem oX10_isCounted : MO mX10_isCounted 10 := ⟨good_in (tb6 (List.mem_of_getElem? (i := 121) rfl)) rfl, good_in (tp4 (List.mem_of_getElem? (i := 11) rfl)) rfl, by decide, rfl⟩
theorem bX10_digits : MB mX10_digits 1 := ⟨good_in (tb6 (List.mem_of_getElem? (i := 77) rfl)) rfl, inX10, by decide +kernel, plainFor_of_name (by decide +kernel), by decide⟩
theorem oX10_digits : MO mX10_digits 10 := ⟨good_in (tb6 (List.mem_of_getElem? (i := 76) rfl)) rfl, good_in (tp4 (List.mem_of_getElem? (i := 3) rfl)) rfl, by decide, rfl⟩
theorem bX10_value : MB mX10_value 0 := ⟨good_in (tb6 (List.mem_of_getElem? (i := 118) rfl)) rfl, inX10, by decide +kernel, plainFor_of_name (by decide +kernel), by decide⟩
theorem oX10_value : MO mX10_value 10 := ⟨good_in (tb6 (List.mem_of_getElem? (i := 117) rfl)) rfl, good_in (tp4 (List.mem_of_getElem? (i := 10) rfl)) rfl, by decide, rfl⟩
theorem bX10_term : MB mX10_term 0 := ⟨good_in (tb6 (List.mem_of_getElem? (i := 114) rfl)) rfl, inX10, by decide +kernel, plainFor_of_name (by decide +kernel), by decide⟩
theorem oX10_term : MO mX10_term 10 := ⟨good_in (tb6 (List.mem_of_getElem? (i := 113) rfl)) rfl, good_in (tp4 (List.mem_of_getElem? (i := 9) rfl)) rfl, by decide, rfl⟩
theorem bX10_sum : MB mX10_sum 0 := ⟨good_in (tb6 (List.mem_of_getElem? (i := 110) rfl)) rfl, inX10, by decide +kernel, plainFor_of_name (by decide +kernel), by decide⟩
theorem oX10_sum : MO mX10_sum 10 := ⟨good_in (tb6 (List.mem_of_getElem? (i := 109) rfl)) rfl, good_in (tp4 (List.mem_of_getElem? (i := 8) rfl)) rfl, by decide, rfl⟩
theorem bX10_compared : MB mX10_compared 0 := ⟨good_in (tb6 (List.mem_of_getElem? (i := 161) rfl)) rfl, inX10, by decide +kernel, plainFor_of_name (by decide +kernel), by decide⟩
theorem oX10_compared : MO mX10_compared 10 := ⟨good_in (tb6 (List.mem_of_getElem? (i := 160) rfl)) rfl, good_in (tp5 (List.mem_of_getElem? (i := 1) rfl)) rfl, by decide, rfl⟩
theorem bX10_top : MB mX10_top 0 := ⟨good_in (tb6 (List.mem_of_getElem? (i := 169) rfl)) rfl, inX10, by decide +kernel, plainFor_of_name (by decide +kernel), by decide⟩
theorem oX10_top : MO mX10_top 10 := ⟨good_in (tb6 (List.mem_of_getElem? (i := 168) rfl)) rfl, good_in (tp5 (List.mem_of_getElem? (i := 3) rfl)) rfl, by decide, rfl⟩
theorem bX10_opens : MB mX10_opens 1 := ⟨good_in (tb6 (List.mem_of_getElem? (i := 157) rfl)) rfl, inX10, by decide +kernel, plainFor_of_name (by decide +kernel), by decide⟩
theorem oX10_opens : MO mX10_opens 10 := ⟨good_in (tb6 (List.mem_of_getElem? (i := 156) rfl)) rfl, good_in (tp5 (List.mem_of_getElem? (i := 0) rfl)) rfl, by decide, rfl⟩
theorem bX10_answers : MB mX10_answers 1 := ⟨good_in (tb6 (List.mem_of_getElem? (i := 165) rfl)) rfl, inX10, by decide +kernel, plainFor_of_name (by decide +kernel), by decide⟩
theorem oX10_answers : MO mX10_answers 10 := ⟨good_in (tb6 (List.mem_of_getElem? (i := 164) rfl)) rfl, good_in (tp5 (List.mem_of_getElem? (i := 2) rfl)) rfl, by decide, rfl⟩
theorem bX10_fact : MB mX10_fact 0 := ⟨good_in (tb6 (List.mem_of_getElem? (i := 152) rfl)) rfl, inX10, by decide +kernel, plainFor_of_name (by decide +kernel), by decide⟩
theorem oX10_fact : MO mX10_fact 10 := ⟨good_in (tb6 (List.mem_of_getElem? (i := 151) rfl)) rfl, good_in (tp4 (List.mem_of_getElem? (i := 15) rfl)) rfl, by decide, rfl⟩
theorem bX10_test : MB mX10_test 0 := ⟨good_in (tb6 (List.mem_of_getElem? (i := 148) rfl)) rfl, inX10, by decide +kernel, plainFor_of_name (by decide +kernel), by decide⟩
theorem oX10_test : MO mX10_test 10 := ⟨good_in (tb6 (List.mem_of_getElem? (i := 147) rfl)) rfl, good_in (tp4 (List.mem_of_getElem? (i := 14) rfl)) rfl, by decide, rfl⟩
theorem bX10_amount : MB mX10_amount 2 := ⟨good_in (tb6 (List.mem_of_getElem? (i := 72) rfl)) rfl, inX10, by decide +kernel, plainFor_of_name (by decide +kernel), by decide⟩
theorem oX10_amount : MO mX10_amount 10 := ⟨good_in (tb6 (List.mem_of_getElem? (i := 71) rfl)) rfl, good_in (tp4 (List.mem_of_getElem? (i := 2) rfl)) rfl, by decide, rfl⟩
theorem bX10_cityWord : MB mX10_cityWord 1 := ⟨good_in (tb6 (List.mem_of_getElem? (i := 47) rfl)) rfl, inX10, by decide +kernel, plainFor_of_name (by decide +kernel), by decide⟩
theorem sX10_cityWord : Cond.static yX10_cityWord ∈ lw_good := good_in (tb6 (List.mem_of_getElem? (i := 46) rfl)) rfl
theorem bX10_cityPart : MB mX10_cityPart 1 := ⟨good_in (tb6 (List.mem_of_getElem? (i := 68) rfl)) rfl, inX10, by decide +kernel, plainFor_of_name (by decide +kernel), by decide⟩
theorem oX10_cityPart : MO mX10_cityPart 10 := ⟨good_in (tb6 (List.mem_of_getElem? (i := 67) rfl)) rfl, good_in (tp4 (List.mem_of_getElem? (i := 1) rfl)) rfl, by decide, rfl⟩
theorem bX10_isFull : MB mX10_isFull 2 := ⟨good_in (tb6 (List.mem_of_getElem? (i := 64) rfl)) rfl, inX10, by decide +kernel, plainFor_of_name (by decide +kernel), by decide⟩
theorem oX10_isFull : MO mX10_isFull 10 := ⟨good_in (tb6 (List.mem_of_getElem? (i := 63) rfl)) rfl, good_in (tp4 (List.mem_of_getElem? (i := 0) rfl)) rfl, by decide, rfl⟩
theorem bX10_cityClause : MB mX10_cityClause 1 := ⟨good_in (tb6 (List.mem_of_getElem? (i := 36) rfl)) rfl, inX10, by decide +kernel, plainFor_of_name (by decide +kernel), by decide⟩
theorem oX10_cityClause : MO mX10_cityClause 10 := ⟨good_in (tb6 (List.mem_of_getElem? (i := 35) rfl)) rfl, good_in (tp3 (List.mem_of_getElem? (i := 11) rfl)) rfl, by decide, rfl⟩
theorem bX10_copies : MB mX10_copies 2 := ⟨good_in (tb6 (List.mem_of_getElem? (i := 93) rfl)) rfl, inX10, by decide +kernel, plainFor_of_name (by decide +kernel), by decide⟩
theorem sX10_copies : Cond.static yX10_copies ∈ lw_good := good_in (tb6 (List.mem_of_getElem? (i := 92) rfl)) rfl
theorem bX10_goesOn : MB mX10_goesOn 0 := ⟨good_in (tb6 (List.mem_of_getElem? (i := 90) rfl)) rfl, inX10, by decide +kernel, plainFor_of_name (by decide +kernel), by decide⟩
theorem oX10_goesOn : MO mX10_goesOn 10 := ⟨good_in (tb6 (List.mem_of_getElem? (i := 89) rfl)) rfl, good_in (tp4 (List.mem_of_getElem? (i := 5) rfl)) rfl, by decide, rfl⟩
theorem bX10_starts : MB mX10_starts 0 := ⟨good_in (tb6 (List.mem_of_getElem? (i := 32) rfl)) rfl, inX10, by decide +kernel, plainFor_of_name (by decide +kernel), by decide⟩
theorem oX10_starts : MO mX10_starts 10 := ⟨good_in (tb6 (List.mem_of_getElem? (i := 31) rfl)) rfl, good_in (tp3 (List.mem_of_getElem? (i := 10) rfl)) rfl, by decide, rfl⟩
theorem bX10_readsAll : MB mX10_readsAll 0 := ⟨good_in (tb6 (List.mem_of_getElem? (i := 28) rfl)) rfl, inX10, by decide +kernel, plainFor_of_name (by decide +kernel), by decide⟩
theorem oX10_readsAll : MO mX10_readsAll 10 := ⟨good_in (tb6 (List.mem_of_getElem? (i := 27) rfl)) rfl, good_in (tp3 (List.mem_of_getElem? (i := 9) rfl)) rfl, by decide, rfl⟩
theorem bX10_begins : MB mX10_begins 0 := ⟨good_in (tb6 (List.mem_of_getElem? (i := 97) rfl)) rfl, inX10, by decide +kernel, plainFor_of_name (by decide +kernel), by decide⟩
theorem oX10_begins : MO mX10_begins 10 := ⟨good_in (tb6 (List.mem_of_getElem? (i := 96) rfl)) rfl, good_in (tp4 (List.mem_of_getElem? (i := 6) rfl)) rfl, by decide, rfl⟩
theorem bX10_city : MB mX10_city 0 := ⟨good_in (tb6 (List.mem_of_getElem? (i := 24) rfl)) rfl, inX10, by decide +kernel, plainFor_of_name (by decide +kernel), by decide⟩
theorem oX10_city : MO mX10_city 10 := ⟨good_in (tb6 (List.mem_of_getElem? (i := 22) rfl)) rfl, good_in (tb6 (List.mem_of_getElem? (i := 23) rfl)) rfl, by decide, rfl⟩
theorem bX10_ruleClause : MB mX10_ruleClause 1 := ⟨good_in (tb6 (List.mem_of_getElem? (i := 105) rfl)) rfl, inX10, by decide +kernel, plainFor_of_name (by decide +kernel), by decide⟩
theorem oX10_ruleClause : MO mX10_ruleClause 10 := ⟨good_in (tb6 (List.mem_of_getElem? (i := 104) rfl)) rfl, good_in (tp4 (List.mem_of_getElem? (i := 7) rfl)) rfl, by decide, rfl⟩
theorem bX10_rule : MB mX10_rule 0 := ⟨good_in (tb6 (List.mem_of_getElem? (i := 101) rfl)) rfl, inX10, by decide +kernel, plainFor_of_name (by decide +kernel), by decide⟩
theorem oX10_rule : MO mX10_rule 10 := ⟨good_in (tb6 (List.mem_of_getElem? (i := 99) rfl)) rfl, good_in (tb6 (List.mem_of_getElem? (i := 100) rfl)) rfl, by decide, rfl⟩
theorem bX10_force : MB mX10_force 1 := ⟨good_in (tb6 (List.mem_of_getElem? (i := 175) rfl)) rfl, inX10, by decide +kernel, plainFor_of_name (by decide +kernel), by decide⟩
theorem oX10_force : MO mX10_force 10 := ⟨good_in (tb6 (List.mem_of_getElem? (i := 173) rfl)) rfl, good_in (tb6 (List.mem_of_getElem? (i := 174) rfl)) rfl, by decide, rfl⟩
theorem bX10_wanted : MB mX10_wanted 0 := ⟨good_in (tb7 (List.mem_of_getElem? (i := 15) rfl)) rfl, inX10, by decide +kernel, plainFor_of_name (by decide +kernel), by decide⟩
theorem oX10_wanted : MO mX10_wanted 10 := ⟨good_in (tb7 (List.mem_of_getElem? (i := 14) rfl)) rfl, good_in (tp6 (List.mem_of_getElem? (i := 2) rfl)) rfl, by decide, rfl⟩
theorem bX10_truth : MB mX10_truth 1 := ⟨good_in (tb7 (List.mem_of_getElem? (i := 25) rfl)) rfl, inX10, by decide +kernel, plainFor_of_name (by decide +kernel), by decide⟩
theorem sX10_truth : Cond.static yX10_truth ∈ lw_good := good_in (tb7 (List.mem_of_getElem? (i := 24) rfl)) rfl
theorem bX10_both : MB mX10_both 3 := ⟨good_in (tb7 (List.mem_of_getElem? (i := 22) rfl)) rfl, inX10, by decide +kernel, plainFor_of_name (by decide +kernel), by decide⟩
theorem sX10_both : Cond.static yX10_both ∈ lw_good := good_in (tb7 (List.mem_of_getElem? (i := 21) rfl)) rfl
theorem bX10_answer : MB mX10_answer 3 := ⟨good_in (tb7 (List.mem_of_getElem? (i := 19) rfl)) rfl, inX10, by decide +kernel, plainFor_of_name (by decide +kernel), by decide⟩
theorem oX10_answer : MO mX10_answer 10 := ⟨good_in (tb7 (List.mem_of_getElem? (i := 18) rfl)) rfl, good_in (tp6 (List.mem_of_getElem? (i := 3) rfl)) rfl, by decide, rfl⟩
theorem bX10_differ : MB mX10_differ 2 := ⟨good_in (tb6 (List.mem_of_getElem? (i := 203) rfl)) rfl, inX10, by decide +kernel, plainFor_of_name (by decide +kernel), by decide⟩
theorem sX10_differ : Cond.static yX10_differ ∈ lw_good := good_in (tb6 (List.mem_of_getElem? (i := 202) rfl)) rfl
theorem bX10_farOf : MB mX10_farOf 1 := ⟨good_in (tb6 (List.mem_of_getElem? (i := 200) rfl)) rfl, inX10, by decide +kernel, plainFor_of_name (by decide +kernel), by decide⟩
theorem oX10_farOf : MO mX10_farOf 10 := ⟨good_in (tb6 (List.mem_of_getElem? (i := 199) rfl)) rfl, good_in (tp5 (List.mem_of_getElem? (i := 7) rfl)) rfl, by decide, rfl⟩
theorem bX10_allFar : MB mX10_allFar 0 := ⟨good_in (tb7 (List.mem_of_getElem? (i := 76) rfl)) rfl, inX10, by decide +kernel, plainFor_of_name (by decide +kernel), by decide⟩
theorem oX10_allFar : MO mX10_allFar 10 := ⟨good_in (tb7 (List.mem_of_getElem? (i := 75) rfl)) rfl, good_in (tp6 (List.mem_of_getElem? (i := 10) rfl)) rfl, by decide, rfl⟩
theorem bX10_layOn : MB mX10_layOn 1 := ⟨good_in (tb6 (List.mem_of_getElem? (i := 188) rfl)) rfl, inX10, by decide +kernel, plainFor_of_name (by decide +kernel), by decide⟩
theorem oX10_layOn : MO mX10_layOn 10 := ⟨good_in (tb6 (List.mem_of_getElem? (i := 187) rfl)) rfl, good_in (tp5 (List.mem_of_getElem? (i := 5) rfl)) rfl, by decide, rfl⟩
theorem bX10_bed : MB mX10_bed 2 := ⟨good_in (tb6 (List.mem_of_getElem? (i := 180) rfl)) rfl, inX10, by decide +kernel, plainFor_of_name (by decide +kernel), by decide⟩
theorem oX10_bed : MO mX10_bed 10 := ⟨good_in (tb6 (List.mem_of_getElem? (i := 178) rfl)) rfl, good_in (tb6 (List.mem_of_getElem? (i := 179) rfl)) rfl, by decide, rfl⟩
theorem bX10_lodger : MB mX10_lodger 2 := ⟨good_in (tb6 (List.mem_of_getElem? (i := 192) rfl)) rfl, inX10, by decide +kernel, plainFor_of_name (by decide +kernel), by decide⟩
theorem oX10_lodger : MO mX10_lodger 10 := ⟨good_in (tb6 (List.mem_of_getElem? (i := 190) rfl)) rfl, good_in (tb6 (List.mem_of_getElem? (i := 191) rfl)) rfl, by decide, rfl⟩
theorem bX10_isRoom : MB mX10_isRoom 1 := ⟨good_in (tb7 (List.mem_of_getElem? (i := 3) rfl)) rfl, inX10, by decide +kernel, plainFor_of_name (by decide +kernel), by decide⟩
theorem oX10_isRoom : MO mX10_isRoom 10 := ⟨good_in (tb7 (List.mem_of_getElem? (i := 2) rfl)) rfl, good_in (tp5 (List.mem_of_getElem? (i := 15) rfl)) rfl, by decide, rfl⟩
theorem bX10_sumOf : MB mX10_sumOf 2 := ⟨good_in (tb7 (List.mem_of_getElem? (i := 11) rfl)) rfl, inX10, by decide +kernel, plainFor_of_name (by decide +kernel), by decide⟩
theorem oX10_sumOf : MO mX10_sumOf 10 := ⟨good_in (tb7 (List.mem_of_getElem? (i := 10) rfl)) rfl, good_in (tp6 (List.mem_of_getElem? (i := 1) rfl)) rfl, by decide, rfl⟩
theorem bX10_likes : MB mX10_likes 2 := ⟨good_in (tb7 (List.mem_of_getElem? (i := 7) rfl)) rfl, inX10, by decide +kernel, plainFor_of_name (by decide +kernel), by decide⟩
theorem oX10_likes : MO mX10_likes 10 := ⟨good_in (tb7 (List.mem_of_getElem? (i := 6) rfl)) rfl, good_in (tp6 (List.mem_of_getElem? (i := 0) rfl)) rfl, by decide, rfl⟩
theorem bX10_choice : MB mX10_choice 1 := ⟨good_in (tb6 (List.mem_of_getElem? (i := 239) rfl)) rfl, inX10, by decide +kernel, plainFor_of_name (by decide +kernel), by decide⟩
theorem oX10_choice : MO mX10_choice 10 := ⟨good_in (tb6 (List.mem_of_getElem? (i := 238) rfl)) rfl, good_in (tp5 (List.mem_of_getElem? (i := 14) rfl)) rfl, by decide, rfl⟩
theorem bX10_shapesAll : MB mX10_shapesAll 0 := ⟨good_in (tb7 (List.mem_of_getElem? (i := 31) rfl)) rfl, inX10, by decide +kernel, plainFor_of_name (by decide +kernel), by decide⟩
theorem oX10_shapesAll : MO mX10_shapesAll 10 := ⟨good_in (tb7 (List.mem_of_getElem? (i := 30) rfl)) rfl, good_in (tp6 (List.mem_of_getElem? (i := 4) rfl)) rfl, by decide, rfl⟩
theorem bX10_goes : MB mX10_goes 0 := ⟨good_in (tb6 (List.mem_of_getElem? (i := 235) rfl)) rfl, inX10, by decide +kernel, plainFor_of_name (by decide +kernel), by decide⟩
theorem oX10_goes : MO mX10_goes 10 := ⟨good_in (tb6 (List.mem_of_getElem? (i := 234) rfl)) rfl, good_in (tp5 (List.mem_of_getElem? (i := 13) rfl)) rfl, by decide, rfl⟩
theorem bX10_goFor : MB mX10_goFor 1 := ⟨good_in (tb7 (List.mem_of_getElem? (i := 72) rfl)) rfl, inX10, by decide +kernel, plainFor_of_name (by decide +kernel), by decide⟩
theorem oX10_goFor : MO mX10_goFor 10 := ⟨good_in (tb7 (List.mem_of_getElem? (i := 71) rfl)) rfl, good_in (tp6 (List.mem_of_getElem? (i := 9) rfl)) rfl, by decide, rfl⟩
theorem bX10_freesAll : MB mX10_freesAll 0 := ⟨good_in (tb7 (List.mem_of_getElem? (i := 107) rfl)) rfl, inX10, by decide +kernel, plainFor_of_name (by decide +kernel), by decide⟩
theorem oX10_freesAll : MO mX10_freesAll 10 := ⟨good_in (tb7 (List.mem_of_getElem? (i := 106) rfl)) rfl, good_in (tp6 (List.mem_of_getElem? (i := 15) rfl)) rfl, by decide, rfl⟩
theorem bX10_moves : MB mX10_moves 1 := ⟨good_in (tb6 (List.mem_of_getElem? (i := 215) rfl)) rfl, inX10, by decide +kernel, plainFor_of_name (by decide +kernel), by decide⟩
theorem oX10_moves : MO mX10_moves 10 := ⟨good_in (tb6 (List.mem_of_getElem? (i := 214) rfl)) rfl, good_in (tp5 (List.mem_of_getElem? (i := 9) rfl)) rfl, by decide, rfl⟩
theorem bX10_movesRow : MB mX10_movesRow 1 := ⟨good_in (tb6 (List.mem_of_getElem? (i := 219) rfl)) rfl, inX10, by decide +kernel, plainFor_of_name (by decide +kernel), by decide⟩
theorem oX10_movesRow : MO mX10_movesRow 10 := ⟨good_in (tb6 (List.mem_of_getElem? (i := 218) rfl)) rfl, good_in (tp5 (List.mem_of_getElem? (i := 10) rfl)) rfl, by decide, rfl⟩
theorem bX10_movesAll : MB mX10_movesAll 2 := ⟨good_in (tb6 (List.mem_of_getElem? (i := 211) rfl)) rfl, inX10, by decide +kernel, plainFor_of_name (by decide +kernel), by decide⟩
theorem oX10_movesAll : MO mX10_movesAll 10 := ⟨good_in (tb6 (List.mem_of_getElem? (i := 210) rfl)) rfl, good_in (tp5 (List.mem_of_getElem? (i := 8) rfl)) rfl, by decide, rfl⟩
theorem bX10_keepsAct : MB mX10_keepsAct 0 := ⟨good_in (tb6 (List.mem_of_getElem? (i := 231) rfl)) rfl, inX10, by decide +kernel, plainFor_of_name (by decide +kernel), by decide⟩
theorem oX10_keepsAct : MO mX10_keepsAct 10 := ⟨good_in (tb6 (List.mem_of_getElem? (i := 230) rfl)) rfl, good_in (tp5 (List.mem_of_getElem? (i := 12) rfl)) rfl, by decide, rfl⟩
theorem bX10_undo : MB mX10_undo 0 := ⟨good_in (tb6 (List.mem_of_getElem? (i := 207) rfl)) rfl, inX10, by decide +kernel, plainFor_of_name (by decide +kernel), by decide⟩
theorem oX10_undo : MO mX10_undo 10 := ⟨good_in (tb6 (List.mem_of_getElem? (i := 205) rfl)) rfl, good_in (tb6 (List.mem_of_getElem? (i := 206) rfl)) rfl, by decide, rfl⟩
theorem bX10_night : MB mX10_night 0 := ⟨good_in (tb6 (List.mem_of_getElem? (i := 223) rfl)) rfl, inX10, by decide +kernel, plainFor_of_name (by decide +kernel), by decide⟩
theorem oX10_night : MO mX10_night 10 := ⟨good_in (tb6 (List.mem_of_getElem? (i := 221) rfl)) rfl, good_in (tb6 (List.mem_of_getElem? (i := 222) rfl)) rfl, by decide, rfl⟩
theorem bX10_turns : MB mX10_turns 1 := ⟨good_in (tb7 (List.mem_of_getElem? (i := 39) rfl)) rfl, inX10, by decide +kernel, plainFor_of_name (by decide +kernel), by decide⟩
theorem oX10_turns : MO mX10_turns 10 := ⟨good_in (tb7 (List.mem_of_getElem? (i := 38) rfl)) rfl, good_in (tp6 (List.mem_of_getElem? (i := 5) rfl)) rfl, by decide, rfl⟩
theorem bX10_turn : MB mX10_turn 1 := ⟨good_in (tb7 (List.mem_of_getElem? (i := 35) rfl)) rfl, inX10, by decide +kernel, plainFor_of_name (by decide +kernel), by decide⟩
theorem oX10_turn : MO mX10_turn 10 := ⟨good_in (tb7 (List.mem_of_getElem? (i := 33) rfl)) rfl, good_in (tb7 (List.mem_of_getElem? (i := 34) rfl)) rfl, by decide, rfl⟩
theorem bX10_stuff : MB mX10_stuff 2 := ⟨good_in (tb7 (List.mem_of_getElem? (i := 43) rfl)) rfl, inX10, by decide +kernel, plainFor_of_name (by decide +kernel), by decide⟩
theorem oX10_stuff : MO mX10_stuff 10 := ⟨good_in (tb7 (List.mem_of_getElem? (i := 41) rfl)) rfl, good_in (tb7 (List.mem_of_getElem? (i := 42) rfl)) rfl, by decide, rfl⟩
theorem bX10_burn : MB mX10_burn 1 := ⟨good_in (tb7 (List.mem_of_getElem? (i := 48) rfl)) rfl, inX10, by decide +kernel, plainFor_of_name (by decide +kernel), by decide⟩
theorem oX10_burn : MO mX10_burn 10 := ⟨good_in (tb7 (List.mem_of_getElem? (i := 46) rfl)) rfl, good_in (tb7 (List.mem_of_getElem? (i := 47) rfl)) rfl, by decide, rfl⟩
theorem bX10_lead : MB mX10_lead 2 := ⟨good_in (tb7 (List.mem_of_getElem? (i := 52) rfl)) rfl, inX10, by decide +kernel, plainFor_of_name (by decide +kernel), by decide⟩
theorem oX10_lead : MO mX10_lead 10 := ⟨good_in (tb7 (List.mem_of_getElem? (i := 50) rfl)) rfl, good_in (tb7 (List.mem_of_getElem? (i := 51) rfl)) rfl, by decide, rfl⟩
theorem bX10_keepsAll : MB mX10_keepsAll 0 := ⟨good_in (tb7 (List.mem_of_getElem? (i := 60) rfl)) rfl, inX10, by decide +kernel, plainFor_of_name (by decide +kernel), by decide⟩
theorem oX10_keepsAll : MO mX10_keepsAll 10 := ⟨good_in (tb7 (List.mem_of_getElem? (i := 59) rfl)) rfl, good_in (tp6 (List.mem_of_getElem? (i := 6) rfl)) rfl, by decide, rfl⟩
theorem bX10_laysBack : MB mX10_laysBack 0 := ⟨good_in (tb7 (List.mem_of_getElem? (i := 80) rfl)) rfl, inX10, by decide +kernel, plainFor_of_name (by decide +kernel), by decide⟩
theorem oX10_laysBack : MO mX10_laysBack 10 := ⟨good_in (tb7 (List.mem_of_getElem? (i := 79) rfl)) rfl, good_in (tp6 (List.mem_of_getElem? (i := 11) rfl)) rfl, by decide, rfl⟩
theorem bX10_farIn : MB mX10_farIn 1 := ⟨good_in (tb7 (List.mem_of_getElem? (i := 125) rfl)) rfl, inX10, by decide +kernel, plainFor_of_name (by decide +kernel), by decide⟩
theorem oX10_farIn : MO mX10_farIn 10 := ⟨good_in (tb7 (List.mem_of_getElem? (i := 124) rfl)) rfl, good_in (tp7 (List.mem_of_getElem? (i := 1) rfl)) rfl, by decide, rfl⟩
theorem bX10_ahead : MB mX10_ahead 3 := ⟨good_in (tb7 (List.mem_of_getElem? (i := 56) rfl)) rfl, inX10, by decide +kernel, plainFor_of_name (by decide +kernel), by decide⟩
theorem oX10_ahead : MO mX10_ahead 10 := ⟨good_in (tb7 (List.mem_of_getElem? (i := 54) rfl)) rfl, good_in (tb7 (List.mem_of_getElem? (i := 55) rfl)) rfl, by decide, rfl⟩
theorem bX10_comes : MB mX10_comes 2 := ⟨good_in (tb7 (List.mem_of_getElem? (i := 84) rfl)) rfl, inX10, by decide +kernel, plainFor_of_name (by decide +kernel), by decide⟩
theorem oX10_comes : MO mX10_comes 10 := ⟨good_in (tb7 (List.mem_of_getElem? (i := 82) rfl)) rfl, good_in (tb7 (List.mem_of_getElem? (i := 83) rfl)) rfl, by decide, rfl⟩
theorem bX10_codesOf : MB mX10_codesOf 1 := ⟨good_in (tb7 (List.mem_of_getElem? (i := 95) rfl)) rfl, inX10, by decide +kernel, plainFor_of_name (by decide +kernel), by decide⟩
theorem oX10_codesOf : MO mX10_codesOf 10 := ⟨good_in (tb7 (List.mem_of_getElem? (i := 94) rfl)) rfl, good_in (tp6 (List.mem_of_getElem? (i := 12) rfl)) rfl, by decide, rfl⟩
theorem bX10_placeOf : MB mX10_placeOf 2 := ⟨good_in (tb7 (List.mem_of_getElem? (i := 103) rfl)) rfl, inX10, by decide +kernel, plainFor_of_name (by decide +kernel), by decide⟩
theorem oX10_placeOf : MO mX10_placeOf 10 := ⟨good_in (tb7 (List.mem_of_getElem? (i := 102) rfl)) rfl, good_in (tp6 (List.mem_of_getElem? (i := 14) rfl)) rfl, by decide, rfl⟩
theorem bX10_farByRow : MB mX10_farByRow 3 := ⟨good_in (tb7 (List.mem_of_getElem? (i := 99) rfl)) rfl, inX10, by decide +kernel, plainFor_of_name (by decide +kernel), by decide⟩
theorem oX10_farByRow : MO mX10_farByRow 10 := ⟨good_in (tb7 (List.mem_of_getElem? (i := 98) rfl)) rfl, good_in (tp6 (List.mem_of_getElem? (i := 13) rfl)) rfl, by decide, rfl⟩
theorem bX10_row : MB mX10_row 3 := ⟨good_in (tb7 (List.mem_of_getElem? (i := 89) rfl)) rfl, inX10, by decide +kernel, plainFor_of_name (by decide +kernel), by decide⟩
theorem oX10_row : MO mX10_row 10 := ⟨good_in (tb7 (List.mem_of_getElem? (i := 87) rfl)) rfl, good_in (tb7 (List.mem_of_getElem? (i := 88) rfl)) rfl, by decide, rfl⟩
theorem bX10_farTonight : MB mX10_farTonight 1 := ⟨good_in (tb7 (List.mem_of_getElem? (i := 116) rfl)) rfl, inX10, by decide +kernel, plainFor_of_name (by decide +kernel), by decide⟩
theorem oX10_farTonight : MO mX10_farTonight 10 := ⟨good_in (tb7 (List.mem_of_getElem? (i := 115) rfl)) rfl, good_in (tp7 (List.mem_of_getElem? (i := 0) rfl)) rfl, by decide, rfl⟩
theorem bX10_tonight : MB mX10_tonight 1 := ⟨good_in (tb7 (List.mem_of_getElem? (i := 111) rfl)) rfl, inX10, by decide +kernel, plainFor_of_name (by decide +kernel), by decide⟩
theorem oX10_tonight : MO mX10_tonight 10 := ⟨good_in (tb7 (List.mem_of_getElem? (i := 109) rfl)) rfl, good_in (tb7 (List.mem_of_getElem? (i := 110) rfl)) rfl, by decide, rfl⟩
theorem bX10_turned : MB mX10_turned 2 := ⟨good_in (tb7 (List.mem_of_getElem? (i := 120) rfl)) rfl, inX10, by decide +kernel, plainFor_of_name (by decide +kernel), by decide⟩
theorem oX10_turned : MO mX10_turned 10 := ⟨good_in (tb7 (List.mem_of_getElem? (i := 118) rfl)) rfl, good_in (tb7 (List.mem_of_getElem? (i := 119) rfl)) rfl, by decide, rfl⟩
theorem bX10_hollowBy : MB mX10_hollowBy 2 := ⟨good_in (tb7 (List.mem_of_getElem? (i := 137) rfl)) rfl, inX10, by decide +kernel, plainFor_of_name (by decide +kernel), by decide⟩
theorem oX10_hollowBy : MO mX10_hollowBy 10 := ⟨good_in (tb7 (List.mem_of_getElem? (i := 136) rfl)) rfl, good_in (tp7 (List.mem_of_getElem? (i := 2) rfl)) rfl, by decide, rfl⟩
theorem bX10_lain : MB mX10_lain 3 := ⟨good_in (tb7 (List.mem_of_getElem? (i := 129) rfl)) rfl, inX10, by decide +kernel, plainFor_of_name (by decide +kernel), by decide⟩
theorem oX10_lain : MO mX10_lain 10 := ⟨good_in (tb7 (List.mem_of_getElem? (i := 127) rfl)) rfl, good_in (tb7 (List.mem_of_getElem? (i := 128) rfl)) rfl, by decide, rfl⟩
theorem bX10_twins : MB mX10_twins 2 := ⟨good_in (tb7 (List.mem_of_getElem? (i := 144) rfl)) rfl, inX10, by decide +kernel, plainFor_of_name (by decide +kernel), by decide⟩
theorem oX10_twins : MO mX10_twins 10 := ⟨good_in (tb7 (List.mem_of_getElem? (i := 142) rfl)) rfl, good_in (tb7 (List.mem_of_getElem? (i := 143) rfl)) rfl, by decide, rfl⟩
theorem bX10_laysCourse : MB mX10_laysCourse 0 := ⟨good_in (tb7 (List.mem_of_getElem? (i := 152) rfl)) rfl, inX10, by decide +kernel, plainFor_of_name (by decide +kernel), by decide⟩
theorem oX10_laysCourse : MO mX10_laysCourse 10 := ⟨good_in (tb7 (List.mem_of_getElem? (i := 151) rfl)) rfl, good_in (tp7 (List.mem_of_getElem? (i := 3) rfl)) rfl, by decide, rfl⟩
theorem bX10_areAlike : MB mX10_areAlike 2 := ⟨good_in (tb7 (List.mem_of_getElem? (i := 156) rfl)) rfl, inX10, by decide +kernel, plainFor_of_name (by decide +kernel), by decide⟩
theorem oX10_areAlike : MO mX10_areAlike 10 := ⟨good_in (tb7 (List.mem_of_getElem? (i := 155) rfl)) rfl, good_in (tp7 (List.mem_of_getElem? (i := 4) rfl)) rfl, by decide, rfl⟩
theorem bX10_settled : MB mX10_settled 1 := ⟨good_in (tb7 (List.mem_of_getElem? (i := 148) rfl)) rfl, inX10, by decide +kernel, plainFor_of_name (by decide +kernel), by decide⟩
theorem oX10_settled : MO mX10_settled 10 := ⟨good_in (tb7 (List.mem_of_getElem? (i := 146) rfl)) rfl, good_in (tb7 (List.mem_of_getElem? (i := 147) rfl)) rfl, by decide, rfl⟩
theorem bX10_best : MB mX10_best 2 := ⟨good_in (tb7 (List.mem_of_getElem? (i := 160) rfl)) rfl, inX10, by decide +kernel, plainFor_of_name (by decide +kernel), by decide⟩
theorem oX10_best : MO mX10_best 10 := ⟨good_in (tb7 (List.mem_of_getElem? (i := 158) rfl)) rfl, good_in (tb7 (List.mem_of_getElem? (i := 159) rfl)) rfl, by decide, rfl⟩
theorem bX10_laysBeds : MB mX10_laysBeds 3 := ⟨good_in (tb7 (List.mem_of_getElem? (i := 169) rfl)) rfl, inX10, by decide +kernel, plainFor_of_name (by decide +kernel), by decide⟩
theorem oX10_laysBeds : MO mX10_laysBeds 10 := ⟨good_in (tb7 (List.mem_of_getElem? (i := 168) rfl)) rfl, good_in (tp7 (List.mem_of_getElem? (i := 5) rfl)) rfl, by decide, rfl⟩
theorem bX10_isRest : MB mX10_isRest 2 := ⟨good_in (tb7 (List.mem_of_getElem? (i := 173) rfl)) rfl, inX10, by decide +kernel, plainFor_of_name (by decide +kernel), by decide⟩
theorem oX10_isRest : MO mX10_isRest 10 := ⟨good_in (tb7 (List.mem_of_getElem? (i := 172) rfl)) rfl, good_in (tp7 (List.mem_of_getElem? (i := 6) rfl)) rfl, by decide, rfl⟩
theorem bX10_rests : MB mX10_rests 4 := ⟨good_in (tb7 (List.mem_of_getElem? (i := 164) rfl)) rfl, inX10, by decide +kernel, plainFor_of_name (by decide +kernel), by decide⟩
theorem oX10_rests : MO mX10_rests 10 := ⟨good_in (tb7 (List.mem_of_getElem? (i := 162) rfl)) rfl, good_in (tb7 (List.mem_of_getElem? (i := 163) rfl)) rfl, by decide, rfl⟩
theorem bX10_allNights : MB mX10_allNights 0 := ⟨good_in (tb7 (List.mem_of_getElem? (i := 182) rfl)) rfl, inX10, by decide +kernel, plainFor_of_name (by decide +kernel), by decide⟩
theorem oX10_allNights : MO mX10_allNights 10 := ⟨good_in (tb7 (List.mem_of_getElem? (i := 181) rfl)) rfl, good_in (tp7 (List.mem_of_getElem? (i := 7) rfl)) rfl, by decide, rfl⟩
theorem bX10_rent : MB mX10_rent 2 := ⟨good_in (tb7 (List.mem_of_getElem? (i := 177) rfl)) rfl, inX10, by decide +kernel, plainFor_of_name (by decide +kernel), by decide⟩
theorem oX10_rent : MO mX10_rent 10 := ⟨good_in (tb7 (List.mem_of_getElem? (i := 175) rfl)) rfl, good_in (tb7 (List.mem_of_getElem? (i := 176) rfl)) rfl, by decide, rfl⟩
theorem bX10_note : MB mX10_note 3 := ⟨good_in (tb7 (List.mem_of_getElem? (i := 186) rfl)) rfl, inX10, by decide +kernel, plainFor_of_name (by decide +kernel), by decide⟩
theorem oX10_note : MO mX10_note 10 := ⟨good_in (tb7 (List.mem_of_getElem? (i := 184) rfl)) rfl, good_in (tb7 (List.mem_of_getElem? (i := 185) rfl)) rfl, by decide, rfl⟩
theorem bX10_couldRule : MB mX10_couldRule 1 := ⟨good_in (tb7 (List.mem_of_getElem? (i := 194) rfl)) rfl, inX10, by decide +kernel, plainFor_of_name (by decide +kernel), by decide⟩
theorem oX10_couldRule : MO mX10_couldRule 10 := ⟨good_in (tb7 (List.mem_of_getElem? (i := 193) rfl)) rfl, good_in (tp7 (List.mem_of_getElem? (i := 8) rfl)) rfl, by decide, rfl⟩
theorem bX10_ruled : MB mX10_ruled 1 := ⟨good_in (tb7 (List.mem_of_getElem? (i := 190) rfl)) rfl, inX10, by decide +kernel, plainFor_of_name (by decide +kernel), by decide⟩
theorem oX10_ruled : MO mX10_ruled 10 := ⟨good_in (tb7 (List.mem_of_getElem? (i := 188) rfl)) rfl, good_in (tb7 (List.mem_of_getElem? (i := 189) rfl)) rfl, by decide, rfl⟩
theorem bX10_mostAlike : MB mX10_mostAlike 2 := ⟨good_in (tb7 (List.mem_of_getElem? (i := 202) rfl)) rfl, inX10, by decide +kernel, plainFor_of_name (by decide +kernel), by decide⟩
theorem oX10_mostAlike : MO mX10_mostAlike 10 := ⟨good_in (tb7 (List.mem_of_getElem? (i := 201) rfl)) rfl, good_in (tp7 (List.mem_of_getElem? (i := 9) rfl)) rfl, by decide, rfl⟩
theorem bX10_look : MB mX10_look 2 := ⟨good_in (tb7 (List.mem_of_getElem? (i := 198) rfl)) rfl, inX10, by decide +kernel, plainFor_of_name (by decide +kernel), by decide⟩
theorem oX10_look : MO mX10_look 10 := ⟨good_in (tb7 (List.mem_of_getElem? (i := 196) rfl)) rfl, good_in (tb7 (List.mem_of_getElem? (i := 197) rfl)) rfl, by decide, rfl⟩
theorem bX10_seed : MB mX10_seed 1 := ⟨good_in (tb7 (List.mem_of_getElem? (i := 206) rfl)) rfl, inX10, by decide +kernel, plainFor_of_name (by decide +kernel), by decide⟩
theorem oX10_seed : MO mX10_seed 10 := ⟨good_in (tb7 (List.mem_of_getElem? (i := 204) rfl)) rfl, good_in (tb7 (List.mem_of_getElem? (i := 205) rfl)) rfl, by decide, rfl⟩
theorem bX10_draws : MB mX10_draws 1 := ⟨good_in (tb7 (List.mem_of_getElem? (i := 214) rfl)) rfl, inX10, by decide +kernel, plainFor_of_name (by decide +kernel), by decide⟩
theorem oX10_draws : MO mX10_draws 10 := ⟨good_in (tb7 (List.mem_of_getElem? (i := 213) rfl)) rfl, good_in (tp7 (List.mem_of_getElem? (i := 10) rfl)) rfl, by decide, rfl⟩
theorem bX10_allHollows : MB mX10_allHollows 0 := ⟨good_in (tb7 (List.mem_of_getElem? (i := 222) rfl)) rfl, inX10, by decide +kernel, plainFor_of_name (by decide +kernel), by decide⟩
theorem oX10_allHollows : MO mX10_allHollows 10 := ⟨good_in (tb7 (List.mem_of_getElem? (i := 221) rfl)) rfl, good_in (tp7 (List.mem_of_getElem? (i := 11) rfl)) rfl, by decide, rfl⟩
theorem bX10_mays : MB mX10_mays 4 := ⟨good_in (tb7 (List.mem_of_getElem? (i := 210) rfl)) rfl, inX10, by decide +kernel, plainFor_of_name (by decide +kernel), by decide⟩
theorem oX10_mays : MO mX10_mays 10 := ⟨good_in (tb7 (List.mem_of_getElem? (i := 208) rfl)) rfl, good_in (tb7 (List.mem_of_getElem? (i := 209) rfl)) rfl, by decide, rfl⟩
theorem bX10_count : MB mX10_count 1 := ⟨good_in (tb7 (List.mem_of_getElem? (i := 226) rfl)) rfl, inX10, by decide +kernel, plainFor_of_name (by decide +kernel), by decide⟩
theorem oX10_count : MO mX10_count 10 := ⟨good_in (tb7 (List.mem_of_getElem? (i := 224) rfl)) rfl, good_in (tb7 (List.mem_of_getElem? (i := 225) rfl)) rfl, by decide, rfl⟩
theorem bX10_carryRow : MB mX10_carryRow 1 := ⟨good_in (tb7 (List.mem_of_getElem? (i := 68) rfl)) rfl, inX10, by decide +kernel, plainFor_of_name (by decide +kernel), by decide⟩
theorem oX10_carryRow : MO mX10_carryRow 10 := ⟨good_in (tb7 (List.mem_of_getElem? (i := 67) rfl)) rfl, good_in (tp6 (List.mem_of_getElem? (i := 8) rfl)) rfl, by decide, rfl⟩
theorem bX10_carriesAll : MB mX10_carriesAll 2 := ⟨good_in (tb7 (List.mem_of_getElem? (i := 64) rfl)) rfl, inX10, by decide +kernel, plainFor_of_name (by decide +kernel), by decide⟩
theorem oX10_carriesAll : MO mX10_carriesAll 10 := ⟨good_in (tb7 (List.mem_of_getElem? (i := 63) rfl)) rfl, good_in (tp6 (List.mem_of_getElem? (i := 7) rfl)) rfl, by decide, rfl⟩
theorem bX10_image : MB mX10_image 1 := ⟨good_in (tb7 (List.mem_of_getElem? (i := 230) rfl)) rfl, inX10, by decide +kernel, plainFor_of_name (by decide +kernel), by decide⟩
theorem oX10_image : MO mX10_image 10 := ⟨good_in (tb7 (List.mem_of_getElem? (i := 228) rfl)) rfl, good_in (tb7 (List.mem_of_getElem? (i := 229) rfl)) rfl, by decide, rfl⟩
theorem bX10_back : MB mX10_back 1 := ⟨good_in (tb7 (List.mem_of_getElem? (i := 235) rfl)) rfl, inX10, by decide +kernel, plainFor_of_name (by decide +kernel), by decide⟩
theorem oX10_back : MO mX10_back 10 := ⟨good_in (tb7 (List.mem_of_getElem? (i := 233) rfl)) rfl, good_in (tb7 (List.mem_of_getElem? (i := 234) rfl)) rfl, by decide, rfl⟩
theorem bJ6_bitCount_0f7a4 : MB mJ6_bitCount_0f7a4 1 := ⟨good_in (tb4 (List.mem_of_getElem? (i := 118) rfl)) rfl, inJ6, by decide +kernel, plainFor_of_name (by decide +kernel), by decide⟩
theorem sJ6_bitCount_0f7a4 : Cond.static yJ6_bitCount_0f7a4 ∈ lw_good := good_in (tb4 (List.mem_of_getElem? (i := 117) rfl)) rfl
theorem bJ9_floorDiv_7cf53 : MB mJ9_floorDiv_7cf53 2 := ⟨good_in (tb3 (List.mem_of_getElem? (i := 212) rfl)) rfl, inJ9, by decide +kernel, mathPlain rfl (by decide +kernel), by decide⟩
theorem sJ9_floorDiv_7cf53 : Cond.static yJ9_floorDiv_7cf53 ∈ lw_good := good_in (tb3 (List.mem_of_getElem? (i := 211) rfl)) rfl
theorem bJ9_abs_0f7a4 : MB mJ9_abs_0f7a4 1 := ⟨good_in (tb3 (List.mem_of_getElem? (i := 141) rfl)) rfl, inJ9, by decide +kernel, mathPlain rfl (by decide +kernel), by decide⟩
theorem sJ9_abs_0f7a4 : Cond.static yJ9_abs_0f7a4 ∈ lw_good := good_in (tb3 (List.mem_of_getElem? (i := 140) rfl)) rfl
theorem bJ9_max_7cf53 : MB mJ9_max_7cf53 2 := ⟨good_in (tb2 (List.mem_of_getElem? (i := 176) rfl)) rfl, inJ9, by decide +kernel, mathPlain rfl (by decide +kernel), by decide⟩
theorem sJ9_max_7cf53 : Cond.static yJ9_max_7cf53 ∈ lw_good := good_in (tb2 (List.mem_of_getElem? (i := 175) rfl)) rfl
theorem bJ9_min_7cf53 : MB mJ9_min_7cf53 2 := ⟨good_in (tb2 (List.mem_of_getElem? (i := 173) rfl)) rfl, inJ9, by decide +kernel, mathPlain rfl (by decide +kernel), by decide⟩
theorem sJ9_min_7cf53 : Cond.static yJ9_min_7cf53 ∈ lw_good := good_in (tb2 (List.mem_of_getElem? (i := 172) rfl)) rfl
theorem bJ0_length_8abf5 : MB mJ0_length_8abf5 0 := ⟨good_in (tb2 (List.mem_of_getElem? (i := 197) rfl)) rfl, inJ0, by decide +kernel, plainFor_of_name (by decide +kernel), by decide⟩
theorem oJ0_length_8abf5 : MOs mJ0_length_8abf5 := ⟨good_in (tb2 (List.mem_of_getElem? (i := 195) rfl)) rfl, good_in (tb2 (List.mem_of_getElem? (i := 196) rfl)) rfl, rfl⟩
theorem bJ0_charAt_5068e : MB mJ0_charAt_5068e 1 := ⟨good_in (tb2 (List.mem_of_getElem? (i := 207) rfl)) rfl, inJ0, by decide +kernel, plainFor_of_name (by decide +kernel), by decide⟩
theorem oJ0_charAt_5068e : MOs mJ0_charAt_5068e := ⟨good_in (tb2 (List.mem_of_getElem? (i := 205) rfl)) rfl, good_in (tb2 (List.mem_of_getElem? (i := 206) rfl)) rfl, rfl⟩
theorem bJ0_coder_7d493 : MB mJ0_coder_7d493 0 := ⟨good_in (tb2 (List.mem_of_getElem? (i := 201) rfl)) rfl, inJ0, by decide +kernel, plainFor_of_name (by decide +kernel), by decide⟩
theorem oJ0_coder_7d493 : MOs mJ0_coder_7d493 := ⟨good_in (tb2 (List.mem_of_getElem? (i := 199) rfl)) rfl, good_in (tb2 (List.mem_of_getElem? (i := 200) rfl)) rfl, rfl⟩
theorem bJ0_isLatin1_aae02 : MB mJ0_isLatin1_aae02 0 := ⟨good_in (tb2 (List.mem_of_getElem? (i := 211) rfl)) rfl, inJ0, by decide +kernel, plainFor_of_name (by decide +kernel), by decide⟩
theorem oJ0_isLatin1_aae02 : MOs mJ0_isLatin1_aae02 := ⟨good_in (tb2 (List.mem_of_getElem? (i := 209) rfl)) rfl, good_in (tb2 (List.mem_of_getElem? (i := 210) rfl)) rfl, rfl⟩
theorem bJ0_checkIndex_df160 : MB mJ0_checkIndex_df160 2 := ⟨good_in (tb2 (List.mem_of_getElem? (i := 217) rfl)) rfl, inJ0, by decide +kernel, plainFor_of_name (by decide +kernel), by decide⟩
theorem sJ0_checkIndex_df160 : Cond.static yJ0_checkIndex_df160 ∈ lw_good := good_in (tb2 (List.mem_of_getElem? (i := 216) rfl)) rfl
theorem bJ1_charAt_3b067 : MB mJ1_charAt_3b067 2 := ⟨good_in (tb2 (List.mem_of_getElem? (i := 214) rfl)) rfl, inJ1, by decide +kernel, plainFor_of_name (by decide +kernel), by decide⟩
theorem sJ1_charAt_3b067 : Cond.static yJ1_charAt_3b067 ∈ lw_good := good_in (tb2 (List.mem_of_getElem? (i := 213) rfl)) rfl
theorem bJ2_getChar_3b067 : MB mJ2_getChar_3b067 2 := ⟨good_in (tb2 (List.mem_of_getElem? (i := 235) rfl)) rfl, inJ2, by decide +kernel, plainFor_of_name (by decide +kernel), by decide⟩
theorem sJ2_getChar_3b067 : Cond.static yJ2_getChar_3b067 ∈ lw_good := good_in (tb2 (List.mem_of_getElem? (i := 234) rfl)) rfl
theorem bJ2_length_9d52b : MB mJ2_length_9d52b 1 := ⟨good_in (tb2 (List.mem_of_getElem? (i := 231) rfl)) rfl, inJ2, by decide +kernel, plainFor_of_name (by decide +kernel), by decide⟩
theorem sJ2_length_9d52b : Cond.static yJ2_length_9d52b ∈ lw_good := good_in (tb2 (List.mem_of_getElem? (i := 230) rfl)) rfl
theorem bJ2_charAt_3b067 : MB mJ2_charAt_3b067 2 := ⟨good_in (tb2 (List.mem_of_getElem? (i := 225) rfl)) rfl, inJ2, by decide +kernel, plainFor_of_name (by decide +kernel), by decide⟩
theorem sJ2_charAt_3b067 : Cond.static yJ2_charAt_3b067 ∈ lw_good := good_in (tb2 (List.mem_of_getElem? (i := 224) rfl)) rfl
theorem bJ2_checkIndex_2214a : MB mJ2_checkIndex_2214a 2 := ⟨good_in (tb2 (List.mem_of_getElem? (i := 228) rfl)) rfl, inJ2, by decide +kernel, plainFor_of_name (by decide +kernel), by decide⟩
theorem sJ2_checkIndex_2214a : Cond.static yJ2_checkIndex_2214a ∈ lw_good := good_in (tb2 (List.mem_of_getElem? (i := 227) rfl)) rfl
theorem bJ3_checkIndex_8e157 : MB mJ3_checkIndex_8e157 3 := ⟨good_in (tb2 (List.mem_of_getElem? (i := 222) rfl)) rfl, inJ3, by decide +kernel, plainFor_of_name (by decide +kernel), by decide⟩
theorem sJ3_checkIndex_8e157 : Cond.static yJ3_checkIndex_8e157 ∈ lw_good := good_in (tb2 (List.mem_of_getElem? (i := 221) rfl)) rfl

set_option maxRecDepth 100000 in
theorem ck70_0 : tb70_0.all (chkE yX7_readWish cX7_readWish ((some .boolean)) 4 89 70) = true := by decide +kernel
set_option maxRecDepth 100000 in
theorem ck70_1 : tb70_1.all (chkE yX7_readWish cX7_readWish ((some .boolean)) 4 89 70) = true := by decide +kernel
theorem ck70 : tb70.all (chkE yX7_readWish cX7_readWish ((some .boolean)) 4 89 70) = true := by
  unfold tb70
  simp only [List.all_append, ck70_0, ck70_1, Bool.and_self]
set_option maxRecDepth 100000 in
theorem cm70 : mi 70 = some (yX7_readWish, cX7_readWish, 5, (some .boolean), 4, 89, 723, 97) := rfl
set_option maxRecDepth 100000 in
theorem ck71_0 : tb71_0.all (chkE yX7_readPlan cX7_readPlan ((some .boolean)) 6 136 71) = true := by decide +kernel
set_option maxRecDepth 100000 in
theorem ck71_1 : tb71_1.all (chkE yX7_readPlan cX7_readPlan ((some .boolean)) 6 136 71) = true := by decide +kernel
theorem ck71 : tb71.all (chkE yX7_readPlan cX7_readPlan ((some .boolean)) 6 136 71) = true := by
  unfold tb71
  simp only [List.all_append, ck71_0, ck71_1, Bool.and_self]
set_option maxRecDepth 100000 in
theorem cm71 : mi 71 = some (yX7_readPlan, cX7_readPlan, 5, (some .boolean), 6, 136, 1113, 97) := rfl
set_option maxRecDepth 100000 in
theorem ck72_0 : tb72_0.all (chkE yX7_readAct cX7_readAct ((some .boolean)) 5 111 72) = true := by decide +kernel
set_option maxRecDepth 100000 in
theorem ck72_1 : tb72_1.all (chkE yX7_readAct cX7_readAct ((some .boolean)) 5 111 72) = true := by decide +kernel
set_option maxRecDepth 100000 in
theorem ck72_2 : tb72_2.all (chkE yX7_readAct cX7_readAct ((some .boolean)) 5 111 72) = true := by decide +kernel
theorem ck72 : tb72.all (chkE yX7_readAct cX7_readAct ((some .boolean)) 5 111 72) = true := by
  unfold tb72
  simp only [List.all_append, ck72_0, ck72_1, ck72_2, Bool.and_self]
set_option maxRecDepth 100000 in
theorem cm72 : mi 72 = some (yX7_readAct, cX7_readAct, 6, (some .boolean), 5, 111, 1117, 97) := rfl
set_option maxRecDepth 100000 in
theorem ck73 : tb73.all (chkE yX7_readThing cX7_readThing ((some .int)) 4 89 73) = true := by decide +kernel
set_option maxRecDepth 100000 in
theorem cm73 : mi 73 = some (yX7_readThing, cX7_readThing, 3, (some .int), 4, 89, 1121, 97) := rfl
set_option maxRecDepth 100000 in
theorem ck74 : tb74.all (chkE yX8_init cX8_init (none) 1 24 74) = true := by decide +kernel
set_option maxRecDepth 100000 in
theorem cm74 : mi 74 = some (yX8_init, cX8_init, 3, none, 1, 24, 457, 107) := rfl
set_option maxRecDepth 100000 in
theorem ck75_0 : tb75_0.all (chkE yX8_search cX8_search ((some .int)) 5 118 75) = true := by decide +kernel
set_option maxRecDepth 100000 in
theorem ck75_1 : tb75_1.all (chkE yX8_search cX8_search ((some .int)) 5 118 75) = true := by decide +kernel
theorem ck75 : tb75.all (chkE yX8_search cX8_search ((some .int)) 5 118 75) = true := by
  unfold tb75
  simp only [List.all_append, ck75_0, ck75_1, Bool.and_self]
set_option maxRecDepth 100000 in
theorem cm75 : mi 75 = some (yX8_search, cX8_search, 6, (some .int), 5, 118, 847, 107) := rfl
set_option maxRecDepth 100000 in
theorem ck76_0 : tb76_0.all (chkE yX8_startAtEnds cX8_startAtEnds (none) 3 67 76) = true := by decide +kernel
set_option maxRecDepth 100000 in
theorem ck76_1 : tb76_1.all (chkE yX8_startAtEnds cX8_startAtEnds (none) 3 67 76) = true := by decide +kernel
theorem ck76 : tb76.all (chkE yX8_startAtEnds cX8_startAtEnds (none) 3 67 76) = true := by
  unfold tb76
  simp only [List.all_append, ck76_0, ck76_1, Bool.and_self]
set_option maxRecDepth 100000 in
theorem cm76 : mi 76 = some (yX8_startAtEnds, cX8_startAtEnds, 6, none, 3, 67, 853, 107) := rfl
set_option maxRecDepth 100000 in
theorem ck77 : tb77.all (chkE yX8_enqueue cX8_enqueue (none) 1 24 77) = true := by decide +kernel
set_option maxRecDepth 100000 in
theorem cm77 : mi 77 = some (yX8_enqueue, cX8_enqueue, 5, none, 1, 24, 868, 107) := rfl
set_option maxRecDepth 100000 in
theorem ck78_0 : tb78_0.all (chkE yX8_stepBack cX8_stepBack (none) 3 69 78) = true := by decide +kernel
set_option maxRecDepth 100000 in
theorem ck78_1 : tb78_1.all (chkE yX8_stepBack cX8_stepBack (none) 3 69 78) = true := by decide +kernel
theorem ck78 : tb78.all (chkE yX8_stepBack cX8_stepBack (none) 3 69 78) = true := by
  unfold tb78
  simp only [List.all_append, ck78_0, ck78_1, Bool.and_self]
set_option maxRecDepth 100000 in
theorem cm78 : mi 78 = some (yX8_stepBack, cX8_stepBack, 6, none, 3, 69, 872, 107) := rfl
set_option maxRecDepth 100000 in
theorem ck79_0 : tb79_0.all (chkE yX8_keepFirstRow cX8_keepFirstRow (none) 4 93 79) = true := by decide +kernel
set_option maxRecDepth 100000 in
theorem ck79_1 : tb79_1.all (chkE yX8_keepFirstRow cX8_keepFirstRow (none) 4 93 79) = true := by decide +kernel
theorem ck79 : tb79.all (chkE yX8_keepFirstRow cX8_keepFirstRow (none) 4 93 79) = true := by
  unfold tb79
  simp only [List.all_append, ck79_0, ck79_1, Bool.and_self]
set_option maxRecDepth 100000 in
theorem cm79 : mi 79 = some (yX8_keepFirstRow, cX8_keepFirstRow, 6, none, 4, 93, 885, 107) := rfl
set_option maxRecDepth 100000 in
theorem ck80 : tb80.all (chkE yX8_firstActTo cX8_firstActTo ((some .int)) 3 68 80) = true := by decide +kernel
set_option maxRecDepth 100000 in
theorem cm80 : mi 80 = some (yX8_firstActTo, cX8_firstActTo, 6, (some .int), 3, 68, 890, 107) := rfl
set_option maxRecDepth 100000 in
theorem ck81 : tb81.all (chkE yX9_init cX9_init (none) 1 24 81) = true := by decide +kernel
set_option maxRecDepth 100000 in
theorem cm81 : mi 81 = some (yX9_init, cX9_init, 2, none, 1, 24, 556, 110) := rfl
set_option maxRecDepth 100000 in
theorem ck82 : tb82.all (chkE yX9_open cX9_open (none) 2 45 82) = true := by decide +kernel
set_option maxRecDepth 100000 in
theorem cm82 : mi 82 = some (yX9_open, cX9_open, 3, none, 2, 45, 1050, 110) := rfl
set_option maxRecDepth 100000 in
theorem ck83_0 : tb83_0.all (chkE yX9_visit cX9_visit (none) 2 45 83) = true := by decide +kernel
set_option maxRecDepth 100000 in
theorem ck83_1 : tb83_1.all (chkE yX9_visit cX9_visit (none) 2 45 83) = true := by decide +kernel
theorem ck83 : tb83.all (chkE yX9_visit cX9_visit (none) 2 45 83) = true := by
  unfold tb83
  simp only [List.all_append, ck83_0, ck83_1, Bool.and_self]
set_option maxRecDepth 100000 in
theorem cm83 : mi 83 = some (yX9_visit, cX9_visit, 5, none, 2, 45, 1056, 110) := rfl
set_option maxRecDepth 100000 in
theorem ck84_0 : tb84_0.all (chkE yX9_fewestCarryings cX9_fewestCarryings ((some .int)) 4 95 84) = true := by decide +kernel
set_option maxRecDepth 100000 in
theorem ck84_1 : tb84_1.all (chkE yX9_fewestCarryings cX9_fewestCarryings ((some .int)) 4 95 84) = true := by decide +kernel
set_option maxRecDepth 100000 in
theorem ck84_2 : tb84_2.all (chkE yX9_fewestCarryings cX9_fewestCarryings ((some .int)) 4 95 84) = true := by decide +kernel
theorem ck84 : tb84.all (chkE yX9_fewestCarryings cX9_fewestCarryings ((some .int)) 4 95 84) = true := by
  unfold tb84
  simp only [List.all_append, ck84_0, ck84_1, ck84_2, Bool.and_self]
set_option maxRecDepth 100000 in
theorem cm84 : mi 84 = some (yX9_fewestCarryings, cX9_fewestCarryings, 7, (some .int), 4, 95, 1045, 110) := rfl
set_option maxRecDepth 100000 in
theorem ck85_0 : tb85_0.all (chkE yX9_makeAndWash cX9_makeAndWash (none) 3 69 85) = true := by decide +kernel
set_option maxRecDepth 100000 in
theorem ck85_1 : tb85_1.all (chkE yX9_makeAndWash cX9_makeAndWash (none) 3 69 85) = true := by decide +kernel
theorem ck85 : tb85.all (chkE yX9_makeAndWash cX9_makeAndWash (none) 3 69 85) = true := by
  unfold tb85
  simp only [List.all_append, ck85_0, ck85_1, Bool.and_self]
set_option maxRecDepth 100000 in
theorem cm85 : mi 85 = some (yX9_makeAndWash, cX9_makeAndWash, 7, none, 3, 69, 1061, 110) := rfl
set_option maxRecDepth 100000 in
theorem ck86_0 : tb86_0.all (chkE yX9_upAndDown cX9_upAndDown (none) 3 69 86) = true := by decide +kernel
set_option maxRecDepth 100000 in
theorem ck86_1 : tb86_1.all (chkE yX9_upAndDown cX9_upAndDown (none) 3 69 86) = true := by decide +kernel
theorem ck86 : tb86.all (chkE yX9_upAndDown cX9_upAndDown (none) 3 69 86) = true := by
  unfold tb86
  simp only [List.all_append, ck86_0, ck86_1, Bool.and_self]
set_option maxRecDepth 100000 in
theorem cm86 : mi 86 = some (yX9_upAndDown, cX9_upAndDown, 7, none, 3, 69, 1066, 110) := rfl
set_option maxRecDepth 100000 in
theorem ck87_0 : tb87_0.all (chkE yX9_fewestHours cX9_fewestHours ((some .int)) 4 95 87) = true := by decide +kernel
set_option maxRecDepth 100000 in
theorem ck87_1 : tb87_1.all (chkE yX9_fewestHours cX9_fewestHours ((some .int)) 4 95 87) = true := by decide +kernel
set_option maxRecDepth 100000 in
theorem ck87_2 : tb87_2.all (chkE yX9_fewestHours cX9_fewestHours ((some .int)) 4 95 87) = true := by decide +kernel
theorem ck87 : tb87.all (chkE yX9_fewestHours cX9_fewestHours ((some .int)) 4 95 87) = true := by
  unfold tb87
  simp only [List.all_append, ck87_0, ck87_1, ck87_2, Bool.and_self]
set_option maxRecDepth 100000 in
theorem cm87 : mi 87 = some (yX9_fewestHours, cX9_fewestHours, 8, (some .int), 4, 95, 1074, 110) := rfl
set_option maxRecDepth 100000 in
theorem ck88 : tb88.all (chkE yX9_washAny cX9_washAny (none) 3 69 88) = true := by decide +kernel
set_option maxRecDepth 100000 in
theorem cm88 : mi 88 = some (yX9_washAny, cX9_washAny, 3, none, 3, 69, 1079, 110) := rfl
set_option maxRecDepth 100000 in
theorem ck89_0 : tb89_0.all (chkE yX9_makeAtOnce cX9_makeAtOnce (none) 3 69 89) = true := by decide +kernel
set_option maxRecDepth 100000 in
theorem ck89_1 : tb89_1.all (chkE yX9_makeAtOnce cX9_makeAtOnce (none) 3 69 89) = true := by decide +kernel
theorem ck89 : tb89.all (chkE yX9_makeAtOnce cX9_makeAtOnce (none) 3 69 89) = true := by
  unfold tb89
  simp only [List.all_append, ck89_0, ck89_1, Bool.and_self]
set_option maxRecDepth 100000 in
theorem cm89 : mi 89 = some (yX9_makeAtOnce, cX9_makeAtOnce, 7, none, 3, 69, 1083, 110) := rfl
set_option maxRecDepth 100000 in
theorem ck90_0 : tb90_0.all (chkE yX9_leastWithPromises cX9_leastWithPromises ((some .int)) 4 98 90) = true := by decide +kernel
set_option maxRecDepth 100000 in
theorem ck90_1 : tb90_1.all (chkE yX9_leastWithPromises cX9_leastWithPromises ((some .int)) 4 98 90) = true := by decide +kernel
set_option maxRecDepth 100000 in
theorem ck90_2 : tb90_2.all (chkE yX9_leastWithPromises cX9_leastWithPromises ((some .int)) 4 98 90) = true := by decide +kernel
theorem ck90 : tb90.all (chkE yX9_leastWithPromises cX9_leastWithPromises ((some .int)) 4 98 90) = true := by
  unfold tb90
  simp only [List.all_append, ck90_0, ck90_1, ck90_2, Bool.and_self]
set_option maxRecDepth 100000 in
theorem cm90 : mi 90 = some (yX9_leastWithPromises, cX9_leastWithPromises, 6, (some .int), 4, 98, 1091, 110) := rfl
set_option maxRecDepth 100000 in
theorem ck91_0 : tb91_0.all (chkE yX9_keepPromises cX9_keepPromises (none) 3 69 91) = true := by decide +kernel
set_option maxRecDepth 100000 in
theorem ck91_1 : tb91_1.all (chkE yX9_keepPromises cX9_keepPromises (none) 3 69 91) = true := by decide +kernel
theorem ck91 : tb91.all (chkE yX9_keepPromises cX9_keepPromises (none) 3 69 91) = true := by
  unfold tb91
  simp only [List.all_append, ck91_0, ck91_1, Bool.and_self]
set_option maxRecDepth 100000 in
theorem cm91 : mi 91 = some (yX9_keepPromises, cX9_keepPromises, 10, none, 3, 69, 1095, 110) := rfl
set_option maxRecDepth 100000 in
theorem ck92_0 : tb92_0.all (chkE yX10_init cX10_init (none) 7 142 92) = true := by decide +kernel
set_option maxRecDepth 100000 in
theorem ck92_1 : tb92_1.all (chkE yX10_init cX10_init (none) 7 142 92) = true := by decide +kernel
theorem ck92 : tb92.all (chkE yX10_init cX10_init (none) 7 142 92) = true := by
  unfold tb92
  simp only [List.all_append, ck92_0, ck92_1, Bool.and_self]
set_option maxRecDepth 100000 in
theorem cm92 : mi 92 = some (yX10_init, cX10_init, 1, none, 7, 142, 220, 98) := rfl
set_option maxRecDepth 100000 in
theorem ck93 : tb93.all (chkE yX10_start cX10_start (none) 1 24 93) = true := by decide +kernel
set_option maxRecDepth 100000 in
theorem cm93 : mi 93 = some (yX10_start, cX10_start, 3, none, 1, 24, 639, 98) := rfl
set_option maxRecDepth 100000 in
theorem ck94 : tb94.all (chkE yX10_tooLong cX10_tooLong ((some .boolean)) 1 24 94) = true := by decide +kernel
set_option maxRecDepth 100000 in
theorem cm94 : mi 94 = some (yX10_tooLong, cX10_tooLong, 1, (some .boolean), 1, 24, 679, 98) := rfl

set_option maxRecDepth 100000 in
theorem ck0 : tb0.all (chkE yX0_init cX0_init (none) 1 24 0) = true := by decide +kernel
set_option maxRecDepth 100000 in
theorem cm0 : mi 0 = some (yX0_init, cX0_init, 1, none, 1, 24, 349, 104) := rfl
set_option maxRecDepth 100000 in
theorem ck1 : tb1.all (chkE yX0_numberOfMadeIn cX0_numberOfMadeIn ((some .int)) 1 24 1) = true := by decide +kernel
set_option maxRecDepth 100000 in
theorem cm1 : mi 1 = some (yX0_numberOfMadeIn, cX0_numberOfMadeIn, 2, (some .int), 1, 24, 798, 104) := rfl
set_option maxRecDepth 100000 in
theorem ck2_0 : tb2_0.all (chkE yX0_build cX0_build (none) 3 69 2) = true := by decide +kernel
set_option maxRecDepth 100000 in
theorem ck2_1 : tb2_1.all (chkE yX0_build cX0_build (none) 3 69 2) = true := by decide +kernel
set_option maxRecDepth 100000 in
theorem ck2_2 : tb2_2.all (chkE yX0_build cX0_build (none) 3 69 2) = true := by decide +kernel
theorem ck2 : tb2.all (chkE yX0_build cX0_build (none) 3 69 2) = true := by
  unfold tb2
  simp only [List.all_append, ck2_0, ck2_1, ck2_2, Bool.and_self]
set_option maxRecDepth 100000 in
theorem cm2 : mi 2 = some (yX0_build, cX0_build, 7, none, 3, 69, 780, 104) := rfl
set_option maxRecDepth 100000 in
theorem ck3 : tb3.all (chkE yX0_partsOf cX0_partsOf ((some .int)) 1 24 3) = true := by decide +kernel
set_option maxRecDepth 100000 in
theorem cm3 : mi 3 = some (yX0_partsOf, cX0_partsOf, 3, (some .int), 1, 24, 787, 104) := rfl
set_option maxRecDepth 100000 in
theorem ck4 : tb4.all (chkE yX0_toWash cX0_toWash ((some .int)) 2 46 4) = true := by decide +kernel
set_option maxRecDepth 100000 in
theorem cm4 : mi 4 = some (yX0_toWash, cX0_toWash, 4, (some .int), 2, 46, 794, 104) := rfl
set_option maxRecDepth 100000 in
theorem ck5_0 : tb5_0.all (chkE yX0_enter cX0_enter (none) 1 24 5) = true := by decide +kernel
set_option maxRecDepth 100000 in
theorem ck5_1 : tb5_1.all (chkE yX0_enter cX0_enter (none) 1 24 5) = true := by decide +kernel
theorem ck5 : tb5.all (chkE yX0_enter cX0_enter (none) 1 24 5) = true := by
  unfold tb5
  simp only [List.all_append, ck5_0, ck5_1, Bool.and_self]
set_option maxRecDepth 100000 in
theorem cm5 : mi 5 = some (yX0_enter, cX0_enter, 6, none, 1, 24, 791, 104) := rfl
set_option maxRecDepth 100000 in
theorem ck6 : tb6.all (chkE yX0_find cX0_find ((some .int)) 1 24 6) = true := by decide +kernel
set_option maxRecDepth 100000 in
theorem cm6 : mi 6 = some (yX0_find, cX0_find, 3, (some .int), 1, 24, 1144, 104) := rfl
set_option maxRecDepth 100000 in
theorem ck7_0 : tb7_0.all (chkE yX0_after cX0_after ((some .int)) 2 44 7) = true := by decide +kernel
set_option maxRecDepth 100000 in
theorem ck7_1 : tb7_1.all (chkE yX0_after cX0_after ((some .int)) 2 44 7) = true := by decide +kernel
theorem ck7 : tb7.all (chkE yX0_after cX0_after ((some .int)) 2 44 7) = true := by
  unfold tb7
  simp only [List.all_append, ck7_0, ck7_1, Bool.and_self]
set_option maxRecDepth 100000 in
theorem cm7 : mi 7 = some (yX0_after, cX0_after, 5, (some .int), 2, 44, 828, 104) := rfl
set_option maxRecDepth 100000 in
theorem ck8_0 : tb8_0.all (chkE yX0_before cX0_before ((some .int)) 2 45 8) = true := by decide +kernel
set_option maxRecDepth 100000 in
theorem ck8_1 : tb8_1.all (chkE yX0_before cX0_before ((some .int)) 2 45 8) = true := by decide +kernel
theorem ck8 : tb8.all (chkE yX0_before cX0_before ((some .int)) 2 45 8) = true := by
  unfold tb8
  simp only [List.all_append, ck8_0, ck8_1, Bool.and_self]
set_option maxRecDepth 100000 in
theorem cm8 : mi 8 = some (yX0_before, cX0_before, 5, (some .int), 2, 45, 876, 104) := rfl
set_option maxRecDepth 100000 in
theorem ck9 : tb9.all (chkE yX1_init cX1_init (none) 1 24 9) = true := by decide +kernel
set_option maxRecDepth 100000 in
theorem cm9 : mi 9 = some (yX1_init, cX1_init, 3, none, 1, 24, 494, 108) := rfl
set_option maxRecDepth 100000 in
theorem ck10_0 : tb10_0.all (chkE yX1_search cX1_search ((some .int)) 4 95 10) = true := by decide +kernel
set_option maxRecDepth 100000 in
theorem ck10_1 : tb10_1.all (chkE yX1_search cX1_search ((some .int)) 4 95 10) = true := by decide +kernel
theorem ck10 : tb10.all (chkE yX1_search cX1_search ((some .int)) 4 95 10) = true := by
  unfold tb10
  simp only [List.all_append, ck10_0, ck10_1, Bool.and_self]
set_option maxRecDepth 100000 in
theorem cm10 : mi 10 = some (yX1_search, cX1_search, 8, (some .int), 4, 95, 907, 108) := rfl
set_option maxRecDepth 100000 in
theorem ck11_0 : tb11_0.all (chkE yX1_open cX1_open (none) 2 45 11) = true := by decide +kernel
set_option maxRecDepth 100000 in
theorem ck11_1 : tb11_1.all (chkE yX1_open cX1_open (none) 2 45 11) = true := by decide +kernel
theorem ck11 : tb11.all (chkE yX1_open cX1_open (none) 2 45 11) = true := by
  unfold tb11
  simp only [List.all_append, ck11_0, ck11_1, Bool.and_self]
set_option maxRecDepth 100000 in
theorem cm11 : mi 11 = some (yX1_open, cX1_open, 3, none, 2, 45, 913, 108) := rfl
set_option maxRecDepth 100000 in
theorem ck12_0 : tb12_0.all (chkE yX1_spread cX1_spread (none) 3 68 12) = true := by decide +kernel
set_option maxRecDepth 100000 in
theorem ck12_1 : tb12_1.all (chkE yX1_spread cX1_spread (none) 3 68 12) = true := by decide +kernel
theorem ck12 : tb12.all (chkE yX1_spread cX1_spread (none) 3 68 12) = true := by
  unfold tb12
  simp only [List.all_append, ck12_0, ck12_1, Bool.and_self]
set_option maxRecDepth 100000 in
theorem cm12 : mi 12 = some (yX1_spread, cX1_spread, 8, none, 3, 68, 936, 108) := rfl
set_option maxRecDepth 100000 in
theorem ck13 : tb13.all (chkE yX1_priceOf cX1_priceOf ((some .int)) 1 24 13) = true := by decide +kernel
set_option maxRecDepth 100000 in
theorem cm13 : mi 13 = some (yX1_priceOf, cX1_priceOf, 3, (some .int), 1, 24, 940, 108) := rfl
set_option maxRecDepth 100000 in
theorem ck14 : tb14.all (chkE yX1_takeLeast cX1_takeLeast ((some .int)) 2 45 14) = true := by decide +kernel
set_option maxRecDepth 100000 in
theorem cm14 : mi 14 = some (yX1_takeLeast, cX1_takeLeast, 4, (some .int), 2, 45, 927, 108) := rfl
set_option maxRecDepth 100000 in
theorem ck15_0 : tb15_0.all (chkE yX1_hang cX1_hang (none) 1 24 15) = true := by decide +kernel
set_option maxRecDepth 100000 in
theorem ck15_1 : tb15_1.all (chkE yX1_hang cX1_hang (none) 1 24 15) = true := by decide +kernel
theorem ck15 : tb15.all (chkE yX1_hang cX1_hang (none) 1 24 15) = true := by
  unfold tb15
  simp only [List.all_append, ck15_0, ck15_1, Bool.and_self]
set_option maxRecDepth 100000 in
theorem cm15 : mi 15 = some (yX1_hang, cX1_hang, 4, none, 1, 24, 923, 108) := rfl
set_option maxRecDepth 100000 in
theorem ck16_0 : tb16_0.all (chkE yX1_takeOff cX1_takeOff (none) 1 24 16) = true := by decide +kernel
set_option maxRecDepth 100000 in
theorem ck16_1 : tb16_1.all (chkE yX1_takeOff cX1_takeOff (none) 1 24 16) = true := by decide +kernel
theorem ck16 : tb16.all (chkE yX1_takeOff cX1_takeOff (none) 1 24 16) = true := by
  unfold tb16
  simp only [List.all_append, ck16_0, ck16_1, Bool.and_self]
set_option maxRecDepth 100000 in
theorem cm16 : mi 16 = some (yX1_takeOff, cX1_takeOff, 2, none, 1, 24, 931, 108) := rfl
set_option maxRecDepth 100000 in
theorem ck17 : tb17.all (chkE yX2_init cX2_init (none) 1 24 17) = true := by decide +kernel
set_option maxRecDepth 100000 in
theorem cm17 : mi 17 = some (yX2_init, cX2_init, 1, none, 1, 24, 329, 103) := rfl
set_option maxRecDepth 100000 in
theorem ck18 : tb18.all (chkE yX2_firstRow cX2_firstRow ((some (.array .int))) 1 24 18) = true := by decide +kernel
set_option maxRecDepth 100000 in
theorem cm18 : mi 18 = some (yX2_firstRow, cX2_firstRow, 2, (some (.array .int)), 1, 24, 820, 103) := rfl
set_option maxRecDepth 100000 in
theorem ck19 : tb19.all (chkE yX2_secondRow cX2_secondRow ((some (.array .int))) 1 24 19) = true := by decide +kernel
set_option maxRecDepth 100000 in
theorem cm19 : mi 19 = some (yX2_secondRow, cX2_secondRow, 2, (some (.array .int)), 1, 24, 858, 103) := rfl
set_option maxRecDepth 100000 in
theorem ck20 : tb20.all (chkE yX2_thirdRow cX2_thirdRow ((some (.array .int))) 1 24 20) = true := by decide +kernel
set_option maxRecDepth 100000 in
theorem cm20 : mi 20 = some (yX2_thirdRow, cX2_thirdRow, 2, (some (.array .int)), 1, 24, 919, 103) := rfl
set_option maxRecDepth 100000 in
theorem ck21 : tb21.all (chkE yX2_wideRow cX2_wideRow ((some (.array .long))) 1 24 21) = true := by decide +kernel
set_option maxRecDepth 100000 in
theorem cm21 : mi 21 = some (yX2_wideRow, cX2_wideRow, 2, (some (.array .long)), 1, 24, 862, 103) := rfl
set_option maxRecDepth 100000 in
theorem ck22_0 : tb22_0.all (chkE yX3_init cX3_init (none) 1 24 22) = true := by decide +kernel
set_option maxRecDepth 100000 in
theorem ck22_1 : tb22_1.all (chkE yX3_init cX3_init (none) 1 24 22) = true := by decide +kernel
theorem ck22 : tb22.all (chkE yX3_init cX3_init (none) 1 24 22) = true := by
  unfold tb22
  simp only [List.all_append, ck22_0, ck22_1, Bool.and_self]
set_option maxRecDepth 100000 in
theorem cm22 : mi 22 = some (yX3_init, cX3_init, 1, none, 1, 24, 130, 96) := rfl
set_option maxRecDepth 100000 in
theorem ck23 : tb23.all (chkE yX3_clear cX3_clear (none) 1 24 23) = true := by decide +kernel
set_option maxRecDepth 100000 in
theorem cm23 : mi 23 = some (yX3_clear, cX3_clear, 1, none, 1, 24, 646, 96) := rfl
set_option maxRecDepth 100000 in
theorem ck24 : tb24.all (chkE yX3_has cX3_has ((some .boolean)) 1 24 24) = true := by decide +kernel
set_option maxRecDepth 100000 in
theorem cm24 : mi 24 = some (yX3_has, cX3_has, 2, (some .boolean), 1, 24, 760, 96) := rfl
set_option maxRecDepth 100000 in
theorem ck25 : tb25.all (chkE yX3_sets cX3_sets ((some .int)) 1 24 25) = true := by decide +kernel
set_option maxRecDepth 100000 in
theorem cm25 : mi 25 = some (yX3_sets, cX3_sets, 1, (some .int), 1, 24, 784, 96) := rfl
set_option maxRecDepth 100000 in
theorem ck26 : tb26.all (chkE yX3_find cX3_find ((some .int)) 1 24 26) = true := by decide +kernel
set_option maxRecDepth 100000 in
theorem cm26 : mi 26 = some (yX3_find, cX3_find, 3, (some .int), 1, 24, 727, 96) := rfl
set_option maxRecDepth 100000 in
theorem ck27_0 : tb27_0.all (chkE yX3_add cX3_add (none) 1 24 27) = true := by decide +kernel
set_option maxRecDepth 100000 in
theorem ck27_1 : tb27_1.all (chkE yX3_add cX3_add (none) 1 24 27) = true := by decide +kernel
theorem ck27 : tb27.all (chkE yX3_add cX3_add (none) 1 24 27) = true := by
  unfold tb27
  simp only [List.all_append, ck27_0, ck27_1, Bool.and_self]
set_option maxRecDepth 100000 in
theorem cm27 : mi 27 = some (yX3_add, cX3_add, 4, none, 1, 24, 744, 96) := rfl
set_option maxRecDepth 100000 in
theorem ck28_0 : tb28_0.all (chkE yX3_finish cX3_finish ((some .boolean)) 3 73 28) = true := by decide +kernel
set_option maxRecDepth 100000 in
theorem ck28_1 : tb28_1.all (chkE yX3_finish cX3_finish ((some .boolean)) 3 73 28) = true := by decide +kernel
theorem ck28 : tb28.all (chkE yX3_finish cX3_finish ((some .boolean)) 3 73 28) = true := by
  unfold tb28
  simp only [List.all_append, ck28_0, ck28_1, Bool.and_self]
set_option maxRecDepth 100000 in
theorem cm28 : mi 28 = some (yX3_finish, cX3_finish, 2, (some .boolean), 3, 73, 687, 96) := rfl
set_option maxRecDepth 100000 in
theorem ck29_0 : tb29_0.all (chkE yX3_growTree cX3_growTree (none) 2 45 29) = true := by decide +kernel
set_option maxRecDepth 100000 in
theorem ck29_1 : tb29_1.all (chkE yX3_growTree cX3_growTree (none) 2 45 29) = true := by decide +kernel
theorem ck29 : tb29.all (chkE yX3_growTree cX3_growTree (none) 2 45 29) = true := by
  unfold tb29
  simp only [List.all_append, ck29_0, ck29_1, Bool.and_self]
set_option maxRecDepth 100000 in
theorem cm29 : mi 29 = some (yX3_growTree, cX3_growTree, 3, none, 2, 45, 691, 96) := rfl
set_option maxRecDepth 100000 in
theorem ck30_0 : tb30_0.all (chkE yX3_branchOf cX3_branchOf ((some .int)) 2 47 30) = true := by decide +kernel
set_option maxRecDepth 100000 in
theorem ck30_1 : tb30_1.all (chkE yX3_branchOf cX3_branchOf ((some .int)) 2 47 30) = true := by decide +kernel
theorem ck30 : tb30.all (chkE yX3_branchOf cX3_branchOf ((some .int)) 2 47 30) = true := by
  unfold tb30
  simp only [List.all_append, ck30_0, ck30_1, Bool.and_self]
set_option maxRecDepth 100000 in
theorem cm30 : mi 30 = some (yX3_branchOf, cX3_branchOf, 7, (some .int), 2, 47, 707, 96) := rfl
set_option maxRecDepth 100000 in
theorem ck31 : tb31.all (chkE yX3_insertFalling cX3_insertFalling (none) 1 24 31) = true := by decide +kernel
set_option maxRecDepth 100000 in
theorem cm31 : mi 31 = some (yX3_insertFalling, cX3_insertFalling, 4, none, 1, 24, 711, 96) := rfl
set_option maxRecDepth 100000 in
theorem ck32_0 : tb32_0.all (chkE yX3_findUsers cX3_findUsers (none) 2 45 32) = true := by decide +kernel
set_option maxRecDepth 100000 in
theorem ck32_1 : tb32_1.all (chkE yX3_findUsers cX3_findUsers (none) 2 45 32) = true := by decide +kernel
theorem ck32 : tb32.all (chkE yX3_findUsers cX3_findUsers (none) 2 45 32) = true := by
  unfold tb32
  simp only [List.all_append, ck32_0, ck32_1, Bool.and_self]
set_option maxRecDepth 100000 in
theorem cm32 : mi 32 = some (yX3_findUsers, cX3_findUsers, 3, none, 2, 45, 715, 96) := rfl
set_option maxRecDepth 100000 in
theorem ck33 : tb33.all (chkE yX4_init cX4_init (none) 1 24 33) = true := by decide +kernel
set_option maxRecDepth 100000 in
theorem cm33 : mi 33 = some (yX4_init, cX4_init, 2, none, 1, 24, 522, 109) := rfl
set_option maxRecDepth 100000 in
theorem ck34_0 : tb34_0.all (chkE yX4_search cX4_search ((some .int)) 5 120 34) = true := by decide +kernel
set_option maxRecDepth 100000 in
theorem ck34_1 : tb34_1.all (chkE yX4_search cX4_search ((some .int)) 5 120 34) = true := by decide +kernel
theorem ck34 : tb34.all (chkE yX4_search cX4_search ((some .int)) 5 120 34) = true := by
  unfold tb34
  simp only [List.all_append, ck34_0, ck34_1, Bool.and_self]
set_option maxRecDepth 100000 in
theorem cm34 : mi 34 = some (yX4_search, cX4_search, 5, (some .int), 5, 120, 978, 109) := rfl
set_option maxRecDepth 100000 in
theorem ck35 : tb35.all (chkE yX4_isDownSet cX4_isDownSet ((some .boolean)) 2 45 35) = true := by decide +kernel
set_option maxRecDepth 100000 in
theorem cm35 : mi 35 = some (yX4_isDownSet, cX4_isDownSet, 3, (some .boolean), 2, 45, 984, 109) := rfl
set_option maxRecDepth 100000 in
theorem ck36_0 : tb36_0.all (chkE yX4_leastFrom cX4_leastFrom ((some .int)) 3 69 36) = true := by decide +kernel
set_option maxRecDepth 100000 in
theorem ck36_1 : tb36_1.all (chkE yX4_leastFrom cX4_leastFrom ((some .int)) 3 69 36) = true := by decide +kernel
theorem ck36 : tb36.all (chkE yX4_leastFrom cX4_leastFrom ((some .int)) 3 69 36) = true := by
  unfold tb36
  simp only [List.all_append, ck36_0, ck36_1, Bool.and_self]
set_option maxRecDepth 100000 in
theorem cm36 : mi 36 = some (yX4_leastFrom, cX4_leastFrom, 6, (some .int), 3, 69, 990, 109) := rfl

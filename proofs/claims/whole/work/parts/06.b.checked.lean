set_option maxRecDepth 100000 in
theorem ck37_0 : tb37_0.all (chkE yX4_pathsFrom cX4_pathsFrom ((some .long)) 3 69 37) = true := by decide +kernel
set_option maxRecDepth 100000 in
theorem ck37_1 : tb37_1.all (chkE yX4_pathsFrom cX4_pathsFrom ((some .long)) 3 69 37) = true := by decide +kernel
theorem ck37 : tb37.all (chkE yX4_pathsFrom cX4_pathsFrom ((some .long)) 3 69 37) = true := by
  unfold tb37
  simp only [List.all_append, ck37_0, ck37_1, Bool.and_self]
set_option maxRecDepth 100000 in
theorem cm37 : mi 37 = some (yX4_pathsFrom, cX4_pathsFrom, 8, (some .long), 3, 69, 1008, 109) := rfl
set_option maxRecDepth 100000 in
theorem ck38 : tb38.all (chkE yX4_keepFirst cX4_keepFirst (none) 4 94 38) = true := by decide +kernel
set_option maxRecDepth 100000 in
theorem cm38 : mi 38 = some (yX4_keepFirst, cX4_keepFirst, 7, none, 4, 94, 1012, 109) := rfl
set_option maxRecDepth 100000 in
theorem ck39 : tb39.all (chkE yX4_firstFrom cX4_firstFrom ((some .int)) 3 69 39) = true := by decide +kernel
set_option maxRecDepth 100000 in
theorem cm39 : mi 39 = some (yX4_firstFrom, cX4_firstFrom, 6, (some .int), 3, 69, 1016, 109) := rfl
set_option maxRecDepth 100000 in
theorem ck40_0 : tb40_0.all (chkE yX4_bowlsOf cX4_bowlsOf ((some .int)) 3 69 40) = true := by decide +kernel
set_option maxRecDepth 100000 in
theorem ck40_1 : tb40_1.all (chkE yX4_bowlsOf cX4_bowlsOf ((some .int)) 3 69 40) = true := by decide +kernel
theorem ck40 : tb40.all (chkE yX4_bowlsOf cX4_bowlsOf ((some .int)) 3 69 40) = true := by
  unfold tb40
  simp only [List.all_append, ck40_0, ck40_1, Bool.and_self]
set_option maxRecDepth 100000 in
theorem cm40 : mi 40 = some (yX4_bowlsOf, cX4_bowlsOf, 9, (some .int), 3, 69, 1032, 109) := rfl
set_option maxRecDepth 100000 in
theorem ck41 : tb41.all (chkE yX4_mayCome cX4_mayCome ((some .boolean)) 2 45 41) = true := by decide +kernel
set_option maxRecDepth 100000 in
theorem cm41 : mi 41 = some (yX4_mayCome, cX4_mayCome, 3, (some .boolean), 2, 45, 998, 109) := rfl
set_option maxRecDepth 100000 in
theorem ck42_0 : tb42_0.all (chkE yX4_lookAt cX4_lookAt (none) 2 45 42) = true := by decide +kernel
set_option maxRecDepth 100000 in
theorem ck42_1 : tb42_1.all (chkE yX4_lookAt cX4_lookAt (none) 2 45 42) = true := by decide +kernel
theorem ck42 : tb42.all (chkE yX4_lookAt cX4_lookAt (none) 2 45 42) = true := by
  unfold tb42
  simp only [List.all_append, ck42_0, ck42_1, Bool.and_self]
set_option maxRecDepth 100000 in
theorem cm42 : mi 42 = some (yX4_lookAt, cX4_lookAt, 5, none, 2, 45, 994, 109) := rfl
set_option maxRecDepth 100000 in
theorem ck43 : tb43.all (chkE yX4_peak cX4_peak ((some .int)) 1 24 43) = true := by decide +kernel
set_option maxRecDepth 100000 in
theorem cm43 : mi 43 = some (yX4_peak, cX4_peak, 4, (some .int), 1, 24, 1002, 109) := rfl
set_option maxRecDepth 100000 in
theorem ck44 : tb44.all (chkE yX5_init cX5_init (none) 1 24 44) = true := by decide +kernel
set_option maxRecDepth 100000 in
theorem cm44 : mi 44 = some (yX5_init, cX5_init, 3, none, 1, 24, 383, 105) := rfl
set_option maxRecDepth 100000 in
theorem ck45 : tb45.all (chkE yX5_keep cX5_keep (none) 1 24 45) = true := by decide +kernel
set_option maxRecDepth 100000 in
theorem cm45 : mi 45 = some (yX5_keep, cX5_keep, 4, none, 1, 24, 1126, 105) := rfl
set_option maxRecDepth 100000 in
theorem ck46_0 : tb46_0.all (chkE yX5_weigh cX5_weigh ((some .int)) 4 95 46) = true := by decide +kernel
set_option maxRecDepth 100000 in
theorem ck46_1 : tb46_1.all (chkE yX5_weigh cX5_weigh ((some .int)) 4 95 46) = true := by decide +kernel
set_option maxRecDepth 100000 in
theorem ck46_2 : tb46_2.all (chkE yX5_weigh cX5_weigh ((some .int)) 4 95 46) = true := by decide +kernel
theorem ck46 : tb46.all (chkE yX5_weigh cX5_weigh ((some .int)) 4 95 46) = true := by
  unfold tb46
  simp only [List.all_append, ck46_0, ck46_1, ck46_2, Bool.and_self]
set_option maxRecDepth 100000 in
theorem cm46 : mi 46 = some (yX5_weigh, cX5_weigh, 8, (some .int), 4, 95, 1139, 105) := rfl
set_option maxRecDepth 100000 in
theorem ck47_0 : tb47_0.all (chkE yX5_thinOut cX5_thinOut ((some .int)) 4 95 47) = true := by decide +kernel
set_option maxRecDepth 100000 in
theorem ck47_1 : tb47_1.all (chkE yX5_thinOut cX5_thinOut ((some .int)) 4 95 47) = true := by decide +kernel
set_option maxRecDepth 100000 in
theorem ck47_2 : tb47_2.all (chkE yX5_thinOut cX5_thinOut ((some .int)) 4 95 47) = true := by decide +kernel
theorem ck47 : tb47.all (chkE yX5_thinOut cX5_thinOut ((some .int)) 4 95 47) = true := by
  unfold tb47
  simp only [List.all_append, ck47_0, ck47_1, ck47_2, Bool.and_self]
set_option maxRecDepth 100000 in
theorem cm47 : mi 47 = some (yX5_thinOut, cX5_thinOut, 7, (some .int), 4, 95, 1161, 105) := rfl
set_option maxRecDepth 100000 in
theorem ck48_0 : tb48_0.all (chkE yX5_weighKeeping cX5_weighKeeping (none) 3 68 48) = true := by decide +kernel
set_option maxRecDepth 100000 in
theorem ck48_1 : tb48_1.all (chkE yX5_weighKeeping cX5_weighKeeping (none) 3 68 48) = true := by decide +kernel
theorem ck48 : tb48.all (chkE yX5_weighKeeping cX5_weighKeeping (none) 3 68 48) = true := by
  unfold tb48
  simp only [List.all_append, ck48_0, ck48_1, Bool.and_self]
set_option maxRecDepth 100000 in
theorem cm48 : mi 48 = some (yX5_weighKeeping, cX5_weighKeeping, 7, none, 3, 68, 1168, 105) := rfl
set_option maxRecDepth 100000 in
theorem ck49_0 : tb49_0.all (chkE yX5_follow cX5_follow (none) 3 68 49) = true := by decide +kernel
set_option maxRecDepth 100000 in
theorem ck49_1 : tb49_1.all (chkE yX5_follow cX5_follow (none) 3 68 49) = true := by decide +kernel
theorem ck49 : tb49.all (chkE yX5_follow cX5_follow (none) 3 68 49) = true := by
  unfold tb49
  simp only [List.all_append, ck49_0, ck49_1, Bool.and_self]
set_option maxRecDepth 100000 in
theorem cm49 : mi 49 = some (yX5_follow, cX5_follow, 6, none, 3, 68, 1172, 105) := rfl
set_option maxRecDepth 100000 in
theorem ck50 : tb50.all (chkE yX6_init cX6_init (none) 1 24 50) = true := by decide +kernel
set_option maxRecDepth 100000 in
theorem cm50 : mi 50 = some (yX6_init, cX6_init, 3, none, 1, 24, 426, 106) := rfl
set_option maxRecDepth 100000 in
theorem ck51 : tb51.all (chkE yX6_forget cX6_forget (none) 1 24 51) = true := by decide +kernel
set_option maxRecDepth 100000 in
theorem cm51 : mi 51 = some (yX6_forget, cX6_forget, 1, none, 1, 24, 748, 106) := rfl
set_option maxRecDepth 100000 in
theorem ck52 : tb52.all (chkE yX6_leastBowls cX6_leastBowls ((some .int)) 7 161 52) = true := by decide +kernel
set_option maxRecDepth 100000 in
theorem cm52 : mi 52 = some (yX6_leastBowls, cX6_leastBowls, 4, (some .int), 7, 161, 772, 106) := rfl
set_option maxRecDepth 100000 in
theorem ck53 : tb53.all (chkE yX6_setsWith cX6_setsWith ((some .int)) 6 136 53) = true := by decide +kernel
set_option maxRecDepth 100000 in
theorem cm53 : mi 53 = some (yX6_setsWith, cX6_setsWith, 6, (some .int), 6, 136, 956, 106) := rfl
set_option maxRecDepth 100000 in
theorem ck54 : tb54.all (chkE yX6_canFill cX6_canFill ((some .boolean)) 6 136 54) = true := by decide +kernel
set_option maxRecDepth 100000 in
theorem cm54 : mi 54 = some (yX6_canFill, cX6_canFill, 5, (some .boolean), 6, 136, 966, 106) := rfl
set_option maxRecDepth 100000 in
theorem ck55_0 : tb55_0.all (chkE yX6_bestBought cX6_bestBought ((some .int)) 7 161 55) = true := by decide +kernel
set_option maxRecDepth 100000 in
theorem ck55_1 : tb55_1.all (chkE yX6_bestBought cX6_bestBought ((some .int)) 7 161 55) = true := by decide +kernel
theorem ck55 : tb55.all (chkE yX6_bestBought cX6_bestBought ((some .int)) 7 161 55) = true := by
  unfold tb55
  simp only [List.all_append, ck55_0, ck55_1, Bool.and_self]
set_option maxRecDepth 100000 in
theorem cm55 : mi 55 = some (yX6_bestBought, cX6_bestBought, 7, (some .int), 7, 161, 1103, 106) := rfl
set_option maxRecDepth 100000 in
theorem ck56 : tb56.all (chkE yX6_turnTo cX6_turnTo (none) 4 95 56) = true := by decide +kernel
set_option maxRecDepth 100000 in
theorem cm56 : mi 56 = some (yX6_turnTo, cX6_turnTo, 4, none, 4, 95, 776, 106) := rfl
set_option maxRecDepth 100000 in
theorem ck57 : tb57.all (chkE yX6_open cX6_open (none) 2 44 57) = true := by decide +kernel
set_option maxRecDepth 100000 in
theorem cm57 : mi 57 = some (yX6_open, cX6_open, 3, none, 2, 44, 802, 106) := rfl
set_option maxRecDepth 100000 in
theorem ck58 : tb58.all (chkE yX6_firstEnd cX6_firstEnd ((some .int)) 6 136 58) = true := by decide +kernel
set_option maxRecDepth 100000 in
theorem cm58 : mi 58 = some (yX6_firstEnd, cX6_firstEnd, 6, (some .int), 6, 136, 807, 106) := rfl
set_option maxRecDepth 100000 in
theorem ck59 : tb59.all (chkE yX6_widenTo cX6_widenTo (none) 5 114 59) = true := by decide +kernel
set_option maxRecDepth 100000 in
theorem cm59 : mi 59 = some (yX6_widenTo, cX6_widenTo, 3, none, 5, 114, 812, 106) := rfl
set_option maxRecDepth 100000 in
theorem ck60_0 : tb60_0.all (chkE yX6_widen cX6_widen (none) 4 92 60) = true := by decide +kernel
set_option maxRecDepth 100000 in
theorem ck60_1 : tb60_1.all (chkE yX6_widen cX6_widen (none) 4 92 60) = true := by decide +kernel
theorem ck60 : tb60.all (chkE yX6_widen cX6_widen (none) 4 92 60) = true := by
  unfold tb60
  simp only [List.all_append, ck60_0, ck60_1, Bool.and_self]
set_option maxRecDepth 100000 in
theorem cm60 : mi 60 = some (yX6_widen, cX6_widen, 3, none, 4, 92, 816, 106) := rfl
set_option maxRecDepth 100000 in
theorem ck61_0 : tb61_0.all (chkE yX6_spread cX6_spread (none) 3 68 61) = true := by decide +kernel
set_option maxRecDepth 100000 in
theorem ck61_1 : tb61_1.all (chkE yX6_spread cX6_spread (none) 3 68 61) = true := by decide +kernel
theorem ck61 : tb61.all (chkE yX6_spread cX6_spread (none) 3 68 61) = true := by
  unfold tb61
  simp only [List.all_append, ck61_0, ck61_1, Bool.and_self]
set_option maxRecDepth 100000 in
theorem cm61 : mi 61 = some (yX6_spread, cX6_spread, 5, none, 3, 68, 824, 106) := rfl
set_option maxRecDepth 100000 in
theorem ck62 : tb62.all (chkE yX7_init cX7_init (none) 8 162 62) = true := by decide +kernel
set_option maxRecDepth 100000 in
theorem cm62 : mi 62 = some (yX7_init, cX7_init, 1, none, 8, 162, 214, 97) := rfl
set_option maxRecDepth 100000 in
theorem ck63 : tb63.all (chkE yX7_fail cX7_fail ((some .boolean)) 1 24 63) = true := by decide +kernel
set_option maxRecDepth 100000 in
theorem cm63 : mi 63 = some (yX7_fail, cX7_fail, 2, (some .boolean), 1, 24, 683, 97) := rfl
set_option maxRecDepth 100000 in
theorem ck64 : tb64.all (chkE yX7_refuse cX7_refuse ((some .int)) 2 45 64) = true := by decide +kernel
set_option maxRecDepth 100000 in
theorem cm64 : mi 64 = some (yX7_refuse, cX7_refuse, 2, (some .int), 2, 45, 736, 97) := rfl
set_option maxRecDepth 100000 in
theorem ck65 : tb65.all (chkE yX7_begin cX7_begin (none) 2 46 65) = true := by decide +kernel
set_option maxRecDepth 100000 in
theorem cm65 : mi 65 = some (yX7_begin, cX7_begin, 3, none, 2, 46, 635, 97) := rfl
set_option maxRecDepth 100000 in
theorem ck66_0 : tb66_0.all (chkE yX7_readNet cX7_readNet ((some .boolean)) 6 138 66) = true := by decide +kernel
set_option maxRecDepth 100000 in
theorem ck66_1 : tb66_1.all (chkE yX7_readNet cX7_readNet ((some .boolean)) 6 138 66) = true := by decide +kernel
theorem ck66 : tb66.all (chkE yX7_readNet cX7_readNet ((some .boolean)) 6 138 66) = true := by
  unfold tb66
  simp only [List.all_append, ck66_0, ck66_1, Bool.and_self]
set_option maxRecDepth 100000 in
theorem cm66 : mi 66 = some (yX7_readNet, cX7_readNet, 5, (some .boolean), 6, 138, 631, 97) := rfl
set_option maxRecDepth 100000 in
theorem ck67_0 : tb67_0.all (chkE yX7_readLine cX7_readLine ((some .boolean)) 5 113 67) = true := by decide +kernel
set_option maxRecDepth 100000 in
theorem ck67_1 : tb67_1.all (chkE yX7_readLine cX7_readLine ((some .boolean)) 5 113 67) = true := by decide +kernel
set_option maxRecDepth 100000 in
theorem ck67_2 : tb67_2.all (chkE yX7_readLine cX7_readLine ((some .boolean)) 5 113 67) = true := by decide +kernel
theorem ck67 : tb67.all (chkE yX7_readLine cX7_readLine ((some .boolean)) 5 113 67) = true := by
  unfold tb67
  simp only [List.all_append, ck67_0, ck67_1, ck67_2, Bool.and_self]
set_option maxRecDepth 100000 in
theorem cm67 : mi 67 = some (yX7_readLine, cX7_readLine, 6, (some .boolean), 5, 113, 719, 97) := rfl
set_option maxRecDepth 100000 in
theorem ck68_0 : tb68_0.all (chkE yX7_readParts cX7_readParts ((some .int)) 4 89 68) = true := by decide +kernel
set_option maxRecDepth 100000 in
theorem ck68_1 : tb68_1.all (chkE yX7_readParts cX7_readParts ((some .int)) 4 89 68) = true := by decide +kernel
theorem ck68 : tb68.all (chkE yX7_readParts cX7_readParts ((some .int)) 4 89 68) = true := by
  unfold tb68
  simp only [List.all_append, ck68_0, ck68_1, Bool.and_self]
set_option maxRecDepth 100000 in
theorem cm68 : mi 68 = some (yX7_readParts, cX7_readParts, 5, (some .int), 4, 89, 732, 97) := rfl
set_option maxRecDepth 100000 in
theorem ck69 : tb69.all (chkE yX7_readPrice cX7_readPrice ((some .int)) 4 89 69) = true := by decide +kernel
set_option maxRecDepth 100000 in
theorem cm69 : mi 69 = some (yX7_readPrice, cX7_readPrice, 2, (some .int), 4, 89, 740, 97) := rfl

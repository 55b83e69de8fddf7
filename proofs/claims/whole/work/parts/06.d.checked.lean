set_option maxRecDepth 100000 in
theorem ck95_0 : tb95_0.all (chkE yX10_advance cX10_advance (none) 3 68 95) = true := by decide +kernel
set_option maxRecDepth 100000 in
theorem ck95_1 : tb95_1.all (chkE yX10_advance cX10_advance (none) 3 68 95) = true := by decide +kernel
theorem ck95 : tb95.all (chkE yX10_advance cX10_advance (none) 3 68 95) = true := by
  unfold tb95
  simp only [List.all_append, ck95_0, ck95_1, Bool.and_self]
set_option maxRecDepth 100000 in
theorem cm95 : mi 95 = some (yX10_advance, cX10_advance, 2, none, 3, 68, 650, 98) := rfl
set_option maxRecDepth 100000 in
theorem ck96_0 : tb96_0.all (chkE yX10_readRun cX10_readRun (none) 2 46 96) = true := by decide +kernel
set_option maxRecDepth 100000 in
theorem ck96_1 : tb96_1.all (chkE yX10_readRun cX10_readRun (none) 2 46 96) = true := by decide +kernel
theorem ck96 : tb96.all (chkE yX10_readRun cX10_readRun (none) 2 46 96) = true := by
  unfold tb96
  simp only [List.all_append, ck96_0, ck96_1, Bool.and_self]
set_option maxRecDepth 100000 in
theorem cm96 : mi 96 = some (yX10_readRun, cX10_readRun, 3, none, 2, 46, 663, 98) := rfl
set_option maxRecDepth 100000 in
theorem ck97 : tb97.all (chkE yX10_wordValue cX10_wordValue ((some .int)) 1 24 97) = true := by decide +kernel
set_option maxRecDepth 100000 in
theorem cm97 : mi 97 = some (yX10_wordValue, cX10_wordValue, 3, (some .int), 1, 24, 667, 98) := rfl
set_option maxRecDepth 100000 in
theorem ck98 : tb98.all (chkE yX10_numberValue cX10_numberValue ((some .int)) 1 24 98) = true := by decide +kernel
set_option maxRecDepth 100000 in
theorem cm98 : mi 98 = some (yX10_numberValue, cX10_numberValue, 3, (some .int), 1, 24, 675, 98) := rfl
set_option maxRecDepth 100000 in
theorem ck99 : tb99.all (chkE yX10_kindOf cX10_kindOf ((some .int)) 1 24 99) = true := by decide +kernel
set_option maxRecDepth 100000 in
theorem cm99 : mi 99 = some (yX10_kindOf, cX10_kindOf, 3, (some .int), 1, 24, 671, 98) := rfl
set_option maxRecDepth 100000 in
theorem ck101 : tb101.all (chkE yX10_isBlank cX10_isBlank ((some .boolean)) 1 24 101) = true := by decide +kernel
set_option maxRecDepth 100000 in
theorem cm101 : mi 101 = some (yX10_isBlank, cX10_isBlank, 1, (some .boolean), 1, 24, 653, 98) := rfl
set_option maxRecDepth 100000 in
theorem ck102 : tb102.all (chkE yX10_isLetter cX10_isLetter ((some .boolean)) 1 24 102) = true := by decide +kernel
set_option maxRecDepth 100000 in
theorem cm102 : mi 102 = some (yX10_isLetter, cX10_isLetter, 1, (some .boolean), 1, 24, 656, 98) := rfl
set_option maxRecDepth 100000 in
theorem ck103 : tb103.all (chkE yX10_isDigit cX10_isDigit ((some .boolean)) 1 24 103) = true := by decide +kernel
set_option maxRecDepth 100000 in
theorem cm103 : mi 103 = some (yX10_isDigit, cX10_isDigit, 1, (some .boolean), 1, 24, 659, 98) := rfl
set_option maxRecDepth 100000 in
theorem ck104_0 : tb104_0.all (chkE yX11_init cX11_init (none) 9 182 104) = true := by decide +kernel
set_option maxRecDepth 100000 in
theorem ck104_1 : tb104_1.all (chkE yX11_init cX11_init (none) 9 182 104) = true := by decide +kernel
theorem ck104 : tb104.all (chkE yX11_init cX11_init (none) 9 182 104) = true := by
  unfold tb104
  simp only [List.all_append, ck104_0, ck104_1, Bool.and_self]
set_option maxRecDepth 100000 in
theorem cm104 : mi 104 = some (yX11_init, cX11_init, 3, none, 9, 182, 122, 95) := rfl
set_option maxRecDepth 100000 in
theorem ck105 : tb105.all (chkE yX11_feed cX11_feed ((some .int)) 2 46 105) = true := by decide +kernel
set_option maxRecDepth 100000 in
theorem cm105 : mi 105 = some (yX11_feed, cX11_feed, 6, (some .int), 2, 46, 611, 95) := rfl
set_option maxRecDepth 100000 in
theorem ck106 : tb106.all (chkE yX11_put cX11_put (none) 1 24 106) = true := by decide +kernel
set_option maxRecDepth 100000 in
theorem cm106 : mi 106 = some (yX11_put, cX11_put, 3, none, 1, 24, 615, 95) := rfl
set_option maxRecDepth 100000 in
theorem ck107 : tb107.all (chkE yX11_end cX11_end ((some .boolean)) 1 24 107) = true := by decide +kernel
set_option maxRecDepth 100000 in
theorem cm107 : mi 107 = some (yX11_end, cX11_end, 2, (some .boolean), 1, 24, 619, 95) := rfl
set_option maxRecDepth 100000 in
theorem ck108 : tb108.all (chkE yX11_net cX11_net ((some .int)) 7 162 108) = true := by decide +kernel
set_option maxRecDepth 100000 in
theorem cm108 : mi 108 = some (yX11_net, cX11_net, 3, (some .int), 7, 162, 623, 95) := rfl
set_option maxRecDepth 100000 in
theorem ck109 : tb109.all (chkE yX11_takeTape cX11_takeTape ((some .int)) 1 24 109) = true := by decide +kernel
set_option maxRecDepth 100000 in
theorem cm109 : mi 109 = some (yX11_takeTape, cX11_takeTape, 2, (some .int), 1, 24, 627, 95) := rfl
set_option maxRecDepth 100000 in
theorem ck110 : tb110.all (chkE yX11_fault cX11_fault ((some .int)) 1 24 110) = true := by decide +kernel
set_option maxRecDepth 100000 in
theorem cm110 : mi 110 = some (yX11_fault, cX11_fault, 1, (some .int), 1, 24, 752, 95) := rfl
set_option maxRecDepth 100000 in
theorem ck111 : tb111.all (chkE yX11_branch cX11_branch ((some .int)) 2 45 111) = true := by decide +kernel
set_option maxRecDepth 100000 in
theorem cm111 : mi 111 = some (yX11_branch, cX11_branch, 3, (some .int), 2, 45, 756, 95) := rfl
set_option maxRecDepth 100000 in
theorem ck112 : tb112.all (chkE yX11_fewest cX11_fewest ((some .int)) 8 184 112) = true := by decide +kernel
set_option maxRecDepth 100000 in
theorem cm112 : mi 112 = some (yX11_fewest, cX11_fewest, 2, (some .int), 8, 184, 764, 95) := rfl
set_option maxRecDepth 100000 in
theorem ck113 : tb113.all (chkE yX11_acts cX11_acts ((some .int)) 6 143 113) = true := by decide +kernel
set_option maxRecDepth 100000 in
theorem cm113 : mi 113 = some (yX11_acts, cX11_acts, 3, (some .int), 6, 143, 839, 95) := rfl
set_option maxRecDepth 100000 in
theorem ck114 : tb114.all (chkE yX11_actAt cX11_actAt ((some .int)) 1 24 114) = true := by decide +kernel
set_option maxRecDepth 100000 in
theorem cm114 : mi 114 = some (yX11_actAt, cX11_actAt, 2, (some .int), 1, 24, 895, 95) := rfl
set_option maxRecDepth 100000 in
theorem ck115 : tb115.all (chkE yX11_rows cX11_rows ((some .long)) 1 24 115) = true := by decide +kernel
set_option maxRecDepth 100000 in
theorem cm115 : mi 115 = some (yX11_rows, cX11_rows, 1, (some .long), 1, 24, 899, 95) := rfl
set_option maxRecDepth 100000 in
theorem ck116 : tb116.all (chkE yX11_times cX11_times ((some .int)) 5 122 116) = true := by decide +kernel
set_option maxRecDepth 100000 in
theorem cm116 : mi 116 = some (yX11_times, cX11_times, 4, (some .int), 5, 122, 903, 95) := rfl
set_option maxRecDepth 100000 in
theorem ck117 : tb117.all (chkE yX11_alone cX11_alone ((some .int)) 8 184 117) = true := by decide +kernel
set_option maxRecDepth 100000 in
theorem cm117 : mi 117 = some (yX11_alone, cX11_alone, 3, (some .int), 8, 184, 944, 95) := rfl
set_option maxRecDepth 100000 in
theorem ck118 : tb118.all (chkE yX11_cost cX11_cost ((some .int)) 5 122 118) = true := by decide +kernel
set_option maxRecDepth 100000 in
theorem cm118 : mi 118 = some (yX11_cost, cX11_cost, 3, (some .int), 5, 122, 948, 95) := rfl
set_option maxRecDepth 100000 in
theorem ck119 : tb119.all (chkE yX11_reached cX11_reached ((some .int)) 7 161 119) = true := by decide +kernel
set_option maxRecDepth 100000 in
theorem cm119 : mi 119 = some (yX11_reached, cX11_reached, 3, (some .int), 7, 161, 952, 95) := rfl
set_option maxRecDepth 100000 in
theorem ck120 : tb120.all (chkE yX11_canBe cX11_canBe ((some .int)) 7 160 120) = true := by decide +kernel
set_option maxRecDepth 100000 in
theorem cm120 : mi 120 = some (yX11_canBe, cX11_canBe, 4, (some .int), 7, 160, 961, 95) := rfl
set_option maxRecDepth 100000 in
theorem ck121 : tb121.all (chkE yX11_once cX11_once ((some .int)) 6 144 121) = true := by decide +kernel
set_option maxRecDepth 100000 in
theorem cm121 : mi 121 = some (yX11_once, cX11_once, 2, (some .int), 6, 144, 970, 95) := rfl
set_option maxRecDepth 100000 in
theorem ck122 : tb122.all (chkE yX11_onceMany cX11_onceMany ((some .long)) 1 24 122) = true := by decide +kernel
set_option maxRecDepth 100000 in
theorem cm122 : mi 122 = some (yX11_onceMany, cX11_onceMany, 1, (some .long), 1, 24, 1020, 95) := rfl
set_option maxRecDepth 100000 in
theorem ck123 : tb123.all (chkE yX11_onceAt cX11_onceAt ((some .int)) 1 24 123) = true := by decide +kernel
set_option maxRecDepth 100000 in
theorem cm123 : mi 123 = some (yX11_onceAt, cX11_onceAt, 2, (some .int), 1, 24, 1024, 95) := rfl
set_option maxRecDepth 100000 in
theorem ck124 : tb124.all (chkE yX11_order cX11_order ((some .int)) 4 97 124) = true := by decide +kernel
set_option maxRecDepth 100000 in
theorem cm124 : mi 124 = some (yX11_order, cX11_order, 3, (some .int), 4, 97, 1028, 95) := rfl
set_option maxRecDepth 100000 in
theorem ck125 : tb125.all (chkE yX11_carry cX11_carry ((some .int)) 5 121 125) = true := by decide +kernel
set_option maxRecDepth 100000 in
theorem cm125 : mi 125 = some (yX11_carry, cX11_carry, 2, (some .int), 5, 121, 1037, 95) := rfl
set_option maxRecDepth 100000 in
theorem ck126 : tb126.all (chkE yX11_cooks cX11_cooks ((some .int)) 5 122 126) = true := by decide +kernel
set_option maxRecDepth 100000 in
theorem cm126 : mi 126 = some (yX11_cooks, cX11_cooks, 3, (some .int), 5, 122, 1070, 95) := rfl
set_option maxRecDepth 100000 in
theorem ck127 : tb127.all (chkE yX11_promised cX11_promised ((some .int)) 5 123 127) = true := by decide +kernel
set_option maxRecDepth 100000 in
theorem cm127 : mi 127 = some (yX11_promised, cX11_promised, 1, (some .int), 5, 123, 1087, 95) := rfl
set_option maxRecDepth 100000 in
theorem ck128 : tb128.all (chkE yX11_ready cX11_ready ((some .int)) 8 187 128) = true := by decide +kernel
set_option maxRecDepth 100000 in
theorem cm128 : mi 128 = some (yX11_ready, cX11_ready, 2, (some .int), 8, 187, 1099, 95) := rfl
set_option maxRecDepth 100000 in
theorem ck129 : tb129.all (chkE yX11_plan cX11_plan ((some .int)) 7 160 129) = true := by decide +kernel
set_option maxRecDepth 100000 in
theorem cm129 : mi 129 = some (yX11_plan, cX11_plan, 2, (some .int), 7, 160, 1109, 95) := rfl
set_option maxRecDepth 100000 in
theorem ck130 : tb130.all (chkE yX11_planAt cX11_planAt ((some .int)) 1 24 130) = true := by decide +kernel
set_option maxRecDepth 100000 in
theorem cm130 : mi 130 = some (yX11_planAt, cX11_planAt, 2, (some .int), 1, 24, 1131, 95) := rfl
set_option maxRecDepth 100000 in
theorem ck131 : tb131.all (chkE yX11_judge cX11_judge ((some .int)) 5 122 131) = true := by decide +kernel
set_option maxRecDepth 100000 in
theorem cm131 : mi 131 = some (yX11_judge, cX11_judge, 3, (some .int), 5, 122, 1135, 95) := rfl
set_option maxRecDepth 100000 in
theorem ck132 : tb132.all (chkE yX11_judged cX11_judged ((some .int)) 1 24 132) = true := by decide +kernel
set_option maxRecDepth 100000 in
theorem cm132 : mi 132 = some (yX11_judged, cX11_judged, 2, (some .int), 1, 24, 1153, 95) := rfl
set_option maxRecDepth 100000 in
theorem ck133 : tb133.all (chkE yX11_spare cX11_spare ((some .int)) 5 121 133) = true := by decide +kernel
set_option maxRecDepth 100000 in
theorem cm133 : mi 133 = some (yX11_spare, cX11_spare, 3, (some .int), 5, 121, 1157, 95) := rfl
set_option maxRecDepth 100000 in
theorem ck134 : tb134.all (chkE yX11_spareAt cX11_spareAt ((some .int)) 1 24 134) = true := by decide +kernel
set_option maxRecDepth 100000 in
theorem cm134 : mi 134 = some (yX11_spareAt, cX11_spareAt, 2, (some .int), 1, 24, 1176, 95) := rfl
set_option maxRecDepth 100000 in
theorem ck135 : tb135.all (chkE yX11_count cX11_count ((some .int)) 1 24 135) = true := by decide +kernel
set_option maxRecDepth 100000 in
theorem cm135 : mi 135 = some (yX11_count, cX11_count, 2, (some .int), 1, 24, 1180, 95) := rfl
set_option maxRecDepth 100000 in
theorem ck136 : tb136.all (chkE yX11_told cX11_told ((some .boolean)) 1 24 136) = true := by decide +kernel
set_option maxRecDepth 100000 in
theorem cm136 : mi 136 = some (yX11_told, cX11_told, 2, (some .boolean), 1, 24, 768, 95) := rfl
set_option maxRecDepth 100000 in
theorem ck137 : tb137.all (chkE yX11_told_ cX11_told_ ((some .boolean)) 2 45 137) = true := by decide +kernel
set_option maxRecDepth 100000 in
theorem cm137 : mi 137 = some (yX11_told_, cX11_told_, 3, (some .boolean), 2, 45, 843, 95) := rfl
set_option maxRecDepth 100000 in
theorem ck138 : tb138.all (chkE yX11_toldForOnce cX11_toldForOnce ((some .boolean)) 1 24 138) = true := by decide +kernel
set_option maxRecDepth 100000 in
theorem cm138 : mi 138 = some (yX11_toldForOnce, cX11_toldForOnce, 2, (some .boolean), 1, 24, 974, 95) := rfl
set_option maxRecDepth 100000 in
theorem ck139 : tb139.all (chkE yX11_toldForSmall cX11_toldForSmall ((some .boolean)) 1 24 139) = true := by decide +kernel
set_option maxRecDepth 100000 in
theorem cm139 : mi 139 = some (yX11_toldForSmall, cX11_toldForSmall, 2, (some .boolean), 1, 24, 1041, 95) := rfl
set_option maxRecDepth 100000 in
theorem ck140 : tb140.all (chkE yX11_bit cX11_bit ((some .int)) 1 24 140) = true := by decide +kernel
set_option maxRecDepth 100000 in
theorem cm140 : mi 140 = some (yX11_bit, cX11_bit, 2, (some .int), 1, 24, 694, 95) := rfl
set_option maxRecDepth 100000 in
theorem ck141 : tb141.all (chkE yX11_holds cX11_holds ((some .boolean)) 1 24 141) = true := by decide +kernel
set_option maxRecDepth 100000 in
theorem cm141 : mi 141 = some (yX11_holds, cX11_holds, 2, (some .boolean), 1, 24, 835, 95) := rfl
set_option maxRecDepth 100000 in
theorem ck142 : tb142.all (chkE yX11_isEnd cX11_isEnd ((some .boolean)) 2 45 142) = true := by decide +kernel
set_option maxRecDepth 100000 in
theorem cm142 : mi 142 = some (yX11_isEnd, cX11_isEnd, 3, (some .boolean), 2, 45, 832, 95) := rfl
set_option maxRecDepth 100000 in
theorem ck143_0 : tb143_0.all (chkE yX12_init cX12_init (none) 1 24 143) = true := by decide +kernel
set_option maxRecDepth 100000 in
theorem ck143_1 : tb143_1.all (chkE yX12_init cX12_init (none) 1 24 143) = true := by decide +kernel
set_option maxRecDepth 100000 in
theorem ck143_2 : tb143_2.all (chkE yX12_init cX12_init (none) 1 24 143) = true := by decide +kernel
set_option maxRecDepth 100000 in
theorem ck143_3 : tb143_3.all (chkE yX12_init cX12_init (none) 1 24 143) = true := by decide +kernel
theorem ck143 : tb143.all (chkE yX12_init cX12_init (none) 1 24 143) = true := by
  unfold tb143
  simp only [List.all_append, ck143_0, ck143_1, ck143_2, ck143_3, Bool.and_self]
set_option maxRecDepth 100000 in
theorem cm143 : mi 143 = some (yX12_init, cX12_init, 1, none, 1, 24, 1268, 111) := rfl
set_option maxRecDepth 100000 in
theorem ck144 : tb144.all (chkE yX12_thrown cX12_thrown ((some .int)) 1 24 144) = true := by decide +kernel
set_option maxRecDepth 100000 in
theorem cm144 : mi 144 = some (yX12_thrown, cX12_thrown, 1, (some .int), 1, 24, 1449, 111) := rfl
set_option maxRecDepth 100000 in
theorem ck145 : tb145.all (chkE yX12_throwsIf cX12_throwsIf ((some .boolean)) 1 24 145) = true := by decide +kernel
set_option maxRecDepth 100000 in
theorem cm145 : mi 145 = some (yX12_throwsIf, cX12_throwsIf, 2, (some .boolean), 1, 24, 1549, 111) := rfl
set_option maxRecDepth 100000 in
theorem ck146 : tb146.all (chkE yX12_feed cX12_feed ((some .int)) 2 46 146) = true := by decide +kernel
set_option maxRecDepth 100000 in
theorem cm146 : mi 146 = some (yX12_feed, cX12_feed, 6, (some .int), 2, 46, 1453, 111) := rfl
set_option maxRecDepth 100000 in
theorem ck147 : tb147.all (chkE yX12_four cX12_four (none) 1 24 147) = true := by decide +kernel
set_option maxRecDepth 100000 in
theorem cm147 : mi 147 = some (yX12_four, cX12_four, 3, none, 1, 24, 1457, 111) := rfl
set_option maxRecDepth 100000 in
theorem ck148 : tb148.all (chkE yX12_end cX12_end ((some .boolean)) 1 24 148) = true := by decide +kernel
set_option maxRecDepth 100000 in
theorem cm148 : mi 148 = some (yX12_end, cX12_end, 2, (some .boolean), 1, 24, 1461, 111) := rfl
set_option maxRecDepth 100000 in
theorem ck149 : tb149.all (chkE yX12_taken cX12_taken (none) 1 24 149) = true := by decide +kernel
set_option maxRecDepth 100000 in
theorem cm149 : mi 149 = some (yX12_taken, cX12_taken, 1, none, 1, 24, 1469, 111) := rfl
set_option maxRecDepth 100000 in
theorem ck150 : tb150.all (chkE yX12_isIn cX12_isIn ((some .boolean)) 1 24 150) = true := by decide +kernel
set_option maxRecDepth 100000 in
theorem cm150 : mi 150 = some (yX12_isIn, cX12_isIn, 3, (some .boolean), 1, 24, 1545, 111) := rfl
set_option maxRecDepth 100000 in
theorem ck151 : tb151.all (chkE yX12_octet cX12_octet ((some .int)) 1 24 151) = true := by decide +kernel
set_option maxRecDepth 100000 in
theorem cm151 : mi 151 = some (yX12_octet, cX12_octet, 2, (some .int), 1, 24, 1674, 111) := rfl
set_option maxRecDepth 100000 in
theorem ck152 : tb152.all (chkE yX12_bits cX12_bits ((some .int)) 1 24 152) = true := by decide +kernel
set_option maxRecDepth 100000 in
theorem cm152 : mi 152 = some (yX12_bits, cX12_bits, 3, (some .int), 1, 24, 1605, 111) := rfl
set_option maxRecDepth 100000 in
theorem ck153 : tb153.all (chkE yX12_peek cX12_peek ((some .int)) 1 24 153) = true := by decide +kernel
set_option maxRecDepth 100000 in
theorem cm153 : mi 153 = some (yX12_peek, cX12_peek, 1, (some .int), 1, 24, 1477, 111) := rfl
set_option maxRecDepth 100000 in
theorem ck154 : tb154.all (chkE yX12_isSmall cX12_isSmall ((some .boolean)) 1 24 154) = true := by decide +kernel
set_option maxRecDepth 100000 in
theorem cm154 : mi 154 = some (yX12_isSmall, cX12_isSmall, 1, (some .boolean), 1, 24, 1480, 111) := rfl
set_option maxRecDepth 100000 in
theorem ck155 : tb155.all (chkE yX12_isDigit cX12_isDigit ((some .boolean)) 1 24 155) = true := by decide +kernel
set_option maxRecDepth 100000 in
theorem cm155 : mi 155 = some (yX12_isDigit, cX12_isDigit, 1, (some .boolean), 1, 24, 1483, 111) := rfl

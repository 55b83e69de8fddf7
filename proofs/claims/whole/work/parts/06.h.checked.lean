set_option maxRecDepth 100000 in
theorem ck215_0 : tb215_0.all (chkE yX12_spare cX12_spare ((some .int)) 3 72 215) = true := by decide +kernel
set_option maxRecDepth 100000 in
theorem ck215_1 : tb215_1.all (chkE yX12_spare cX12_spare ((some .int)) 3 72 215) = true := by decide +kernel
set_option maxRecDepth 100000 in
theorem ck215_2 : tb215_2.all (chkE yX12_spare cX12_spare ((some .int)) 3 72 215) = true := by decide +kernel
set_option maxRecDepth 100000 in
theorem ck215_3 : tb215_3.all (chkE yX12_spare cX12_spare ((some .int)) 3 72 215) = true := by decide +kernel
set_option maxRecDepth 100000 in
theorem ck215_4 : tb215_4.all (chkE yX12_spare cX12_spare ((some .int)) 3 72 215) = true := by decide +kernel
theorem ck215 : tb215.all (chkE yX12_spare cX12_spare ((some .int)) 3 72 215) = true := by
  unfold tb215
  simp only [List.all_append, ck215_0, ck215_1, ck215_2, ck215_3, ck215_4, Bool.and_self]
set_option maxRecDepth 100000 in
theorem cm215 : mi 215 = some (yX12_spare, cX12_spare, 8, (some .int), 3, 72, 1738, 111) := rfl
set_option maxRecDepth 100000 in
theorem ck216 : tb216.all (chkE yX12_spareAt cX12_spareAt ((some .int)) 2 46 216) = true := by decide +kernel
set_option maxRecDepth 100000 in
theorem cm216 : mi 216 = some (yX12_spareAt, cX12_spareAt, 2, (some .int), 2, 46, 1742, 111) := rfl
set_option maxRecDepth 100000 in
theorem ck217 : tb217.all (chkE yX12_count cX12_count ((some .int)) 1 24 217) = true := by decide +kernel
set_option maxRecDepth 100000 in
theorem cm217 : mi 217 = some (yX12_count, cX12_count, 2, (some .int), 1, 24, 1746, 111) := rfl
set_option maxRecDepth 100000 in
theorem ck218_0 : tb218_0.all (chkE yJ6_bitCount_0f7a4 cJ6_bitCount_0f7a4 ((some .int)) 1 24 218) = true := by decide +kernel
set_option maxRecDepth 100000 in
theorem ck218_1 : tb218_1.all (chkE yJ6_bitCount_0f7a4 cJ6_bitCount_0f7a4 ((some .int)) 1 24 218) = true := by decide +kernel
theorem ck218 : tb218.all (chkE yJ6_bitCount_0f7a4 cJ6_bitCount_0f7a4 ((some .int)) 1 24 218) = true := by
  unfold tb218
  simp only [List.all_append, ck218_0, ck218_1, Bool.and_self]
set_option maxRecDepth 100000 in
theorem cm218 : mi 218 = some (yJ6_bitCount_0f7a4, cJ6_bitCount_0f7a4, 1, (some .int), 1, 24, 700, 113) := rfl
set_option maxRecDepth 100000 in
theorem ck219_0 : tb219_0.all (chkE yL_law cL_law (some .boolean) 10 226 219) = true := by decide +kernel
set_option maxRecDepth 100000 in
theorem ck219_1 : tb219_1.all (chkE yL_law cL_law (some .boolean) 10 226 219) = true := by decide +kernel
set_option maxRecDepth 100000 in
theorem ck219_2 : tb219_2.all (chkE yL_law cL_law (some .boolean) 10 226 219) = true := by decide +kernel
set_option maxRecDepth 100000 in
theorem ck219_3 : tb219_3.all (chkE yL_law cL_law (some .boolean) 10 226 219) = true := by decide +kernel
set_option maxRecDepth 100000 in
theorem ck219_4 : tb219_4.all (chkE yL_law cL_law (some .boolean) 10 226 219) = true := by decide +kernel
set_option maxRecDepth 100000 in
theorem ck219_5 : tb219_5.all (chkE yL_law cL_law (some .boolean) 10 226 219) = true := by decide +kernel
set_option maxRecDepth 100000 in
theorem ck219_6 : tb219_6.all (chkE yL_law cL_law (some .boolean) 10 226 219) = true := by decide +kernel
set_option maxRecDepth 100000 in
theorem ck219_7 : tb219_7.all (chkE yL_law cL_law (some .boolean) 10 226 219) = true := by decide +kernel
set_option maxRecDepth 100000 in
theorem ck219_8 : tb219_8.all (chkE yL_law cL_law (some .boolean) 10 226 219) = true := by decide +kernel
set_option maxRecDepth 100000 in
theorem ck219_9 : tb219_9.all (chkE yL_law cL_law (some .boolean) 10 226 219) = true := by decide +kernel
set_option maxRecDepth 100000 in
theorem ck219_10 : tb219_10.all (chkE yL_law cL_law (some .boolean) 10 226 219) = true := by decide +kernel
set_option maxRecDepth 100000 in
theorem ck219_11 : tb219_11.all (chkE yL_law cL_law (some .boolean) 10 226 219) = true := by decide +kernel
set_option maxRecDepth 100000 in
theorem ck219_12 : tb219_12.all (chkE yL_law cL_law (some .boolean) 10 226 219) = true := by decide +kernel
set_option maxRecDepth 100000 in
theorem ck219_13 : tb219_13.all (chkE yL_law cL_law (some .boolean) 10 226 219) = true := by decide +kernel
set_option maxRecDepth 100000 in
theorem ck219_14 : tb219_14.all (chkE yL_law cL_law (some .boolean) 10 226 219) = true := by decide +kernel
set_option maxRecDepth 100000 in
theorem ck219_15 : tb219_15.all (chkE yL_law cL_law (some .boolean) 10 226 219) = true := by decide +kernel
set_option maxRecDepth 100000 in
theorem ck219_16 : tb219_16.all (chkE yL_law cL_law (some .boolean) 10 226 219) = true := by decide +kernel
set_option maxRecDepth 100000 in
theorem ck219_17 : tb219_17.all (chkE yL_law cL_law (some .boolean) 10 226 219) = true := by decide +kernel
set_option maxRecDepth 100000 in
theorem ck219_18 : tb219_18.all (chkE yL_law cL_law (some .boolean) 10 226 219) = true := by decide +kernel
theorem ck219 : tb219.all (chkE yL_law cL_law (some .boolean) 10 226 219) = true := by
  unfold tb219
  simp only [List.all_append, ck219_0, ck219_1, ck219_2, ck219_3, ck219_4, ck219_5, ck219_6, ck219_7, ck219_8, ck219_9, ck219_10, ck219_11, ck219_12, ck219_13, ck219_14, ck219_15, ck219_16, ck219_17, ck219_18, Bool.and_self]
set_option maxRecDepth 100000 in
theorem cm219 : mi 219 = some (yL_law, cL_law, 7, some .boolean, 10, 226, 0, 94) := rfl

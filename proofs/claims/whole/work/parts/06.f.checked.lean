set_option maxRecDepth 100000 in
theorem ck180_0 : tb180_0.all (chkE yX12_spread cX12_spread ((some .int)) 3 72 180) = true := by decide +kernel
set_option maxRecDepth 100000 in
theorem ck180_1 : tb180_1.all (chkE yX12_spread cX12_spread ((some .int)) 3 72 180) = true := by decide +kernel
set_option maxRecDepth 100000 in
theorem ck180_2 : tb180_2.all (chkE yX12_spread cX12_spread ((some .int)) 3 72 180) = true := by decide +kernel
theorem ck180 : tb180.all (chkE yX12_spread cX12_spread ((some .int)) 3 72 180) = true := by
  unfold tb180
  simp only [List.all_append, ck180_0, ck180_1, ck180_2, Bool.and_self]
set_option maxRecDepth 100000 in
theorem cm180 : mi 180 = some (yX12_spread, cX12_spread, 6, (some .int), 3, 72, 1593, 111) := rfl
set_option maxRecDepth 100000 in
theorem ck181 : tb181.all (chkE yX12_fewestBy cX12_fewestBy ((some .int)) 4 97 181) = true := by decide +kernel
set_option maxRecDepth 100000 in
theorem cm181 : mi 181 = some (yX12_fewestBy, cX12_fewestBy, 3, (some .int), 4, 97, 1581, 111) := rfl
set_option maxRecDepth 100000 in
theorem ck182 : tb182.all (chkE yX12_isAsked cX12_isAsked ((some .boolean)) 2 46 182) = true := by decide +kernel
set_option maxRecDepth 100000 in
theorem cm182 : mi 182 = some (yX12_isAsked, cX12_isAsked, 3, (some .boolean), 2, 46, 1577, 111) := rfl
set_option maxRecDepth 100000 in
theorem ck183 : tb183.all (chkE yX12_fewest cX12_fewest ((some .int)) 5 119 183) = true := by decide +kernel
set_option maxRecDepth 100000 in
theorem cm183 : mi 183 = some (yX12_fewest, cX12_fewest, 2, (some .int), 5, 119, 1573, 111) := rfl
set_option maxRecDepth 100000 in
theorem ck184_0 : tb184_0.all (chkE yX12_acts cX12_acts ((some .int)) 4 97 184) = true := by decide +kernel
set_option maxRecDepth 100000 in
theorem ck184_1 : tb184_1.all (chkE yX12_acts cX12_acts ((some .int)) 4 97 184) = true := by decide +kernel
set_option maxRecDepth 100000 in
theorem ck184_2 : tb184_2.all (chkE yX12_acts cX12_acts ((some .int)) 4 97 184) = true := by decide +kernel
set_option maxRecDepth 100000 in
theorem ck184_3 : tb184_3.all (chkE yX12_acts cX12_acts ((some .int)) 4 97 184) = true := by decide +kernel
set_option maxRecDepth 100000 in
theorem ck184_4 : tb184_4.all (chkE yX12_acts cX12_acts ((some .int)) 4 97 184) = true := by decide +kernel
theorem ck184 : tb184.all (chkE yX12_acts cX12_acts ((some .int)) 4 97 184) = true := by
  unfold tb184
  simp only [List.all_append, ck184_0, ck184_1, ck184_2, ck184_3, ck184_4, Bool.and_self]
set_option maxRecDepth 100000 in
theorem cm184 : mi 184 = some (yX12_acts, cX12_acts, 8, (some .int), 4, 97, 1609, 111) := rfl
set_option maxRecDepth 100000 in
theorem ck185 : tb185.all (chkE yX12_actAt cX12_actAt ((some .int)) 2 46 185) = true := by decide +kernel
set_option maxRecDepth 100000 in
theorem cm185 : mi 185 = some (yX12_actAt, cX12_actAt, 2, (some .int), 2, 46, 1614, 111) := rfl
set_option maxRecDepth 100000 in
theorem ck186 : tb186.all (chkE yX12_rows cX12_rows ((some .long)) 1 24 186) = true := by decide +kernel
set_option maxRecDepth 100000 in
theorem cm186 : mi 186 = some (yX12_rows, cX12_rows, 1, (some .long), 1, 24, 1618, 111) := rfl
set_option maxRecDepth 100000 in
theorem ck187_0 : tb187_0.all (chkE yX12_lightest cX12_lightest ((some .int)) 3 72 187) = true := by decide +kernel
set_option maxRecDepth 100000 in
theorem ck187_1 : tb187_1.all (chkE yX12_lightest cX12_lightest ((some .int)) 3 72 187) = true := by decide +kernel
set_option maxRecDepth 100000 in
theorem ck187_2 : tb187_2.all (chkE yX12_lightest cX12_lightest ((some .int)) 3 72 187) = true := by decide +kernel
set_option maxRecDepth 100000 in
theorem ck187_3 : tb187_3.all (chkE yX12_lightest cX12_lightest ((some .int)) 3 72 187) = true := by decide +kernel
set_option maxRecDepth 100000 in
theorem ck187_4 : tb187_4.all (chkE yX12_lightest cX12_lightest ((some .int)) 3 72 187) = true := by decide +kernel
theorem ck187 : tb187.all (chkE yX12_lightest cX12_lightest ((some .int)) 3 72 187) = true := by
  unfold tb187
  simp only [List.all_append, ck187_0, ck187_1, ck187_2, ck187_3, ck187_4, Bool.and_self]
set_option maxRecDepth 100000 in
theorem cm187 : mi 187 = some (yX12_lightest, cX12_lightest, 8, (some .int), 3, 72, 1626, 111) := rfl
set_option maxRecDepth 100000 in
theorem ck188 : tb188.all (chkE yX12_times cX12_times ((some .int)) 4 99 188) = true := by decide +kernel
set_option maxRecDepth 100000 in
theorem cm188 : mi 188 = some (yX12_times, cX12_times, 5, (some .int), 4, 99, 1622, 111) := rfl
set_option maxRecDepth 100000 in
theorem ck189 : tb189.all (chkE yX12_cost cX12_cost ((some .int)) 4 99 189) = true := by decide +kernel
set_option maxRecDepth 100000 in
theorem cm189 : mi 189 = some (yX12_cost, cX12_cost, 4, (some .int), 4, 99, 1630, 111) := rfl
set_option maxRecDepth 100000 in
theorem ck190 : tb190.all (chkE yX12_alone cX12_alone ((some .int)) 5 119 190) = true := by decide +kernel
set_option maxRecDepth 100000 in
theorem cm190 : mi 190 = some (yX12_alone, cX12_alone, 5, (some .int), 5, 119, 1634, 111) := rfl
set_option maxRecDepth 100000 in
theorem ck191 : tb191.all (chkE yX12_reached cX12_reached ((some .int)) 4 97 191) = true := by decide +kernel
set_option maxRecDepth 100000 in
theorem cm191 : mi 191 = some (yX12_reached, cX12_reached, 3, (some .int), 4, 97, 1638, 111) := rfl
set_option maxRecDepth 100000 in
theorem ck192 : tb192.all (chkE yX12_canBe cX12_canBe ((some .int)) 4 97 192) = true := by decide +kernel
set_option maxRecDepth 100000 in
theorem cm192 : mi 192 = some (yX12_canBe, cX12_canBe, 4, (some .int), 4, 97, 1642, 111) := rfl
set_option maxRecDepth 100000 in
theorem ck193_0 : tb193_0.all (chkE yX12_stillFull cX12_stillFull ((some .int)) 1 24 193) = true := by decide +kernel
set_option maxRecDepth 100000 in
theorem ck193_1 : tb193_1.all (chkE yX12_stillFull cX12_stillFull ((some .int)) 1 24 193) = true := by decide +kernel
theorem ck193 : tb193.all (chkE yX12_stillFull cX12_stillFull ((some .int)) 1 24 193) = true := by
  unfold tb193
  simp only [List.all_append, ck193_0, ck193_1, Bool.and_self]
set_option maxRecDepth 100000 in
theorem cm193 : mi 193 = some (yX12_stillFull, cX12_stillFull, 4, (some .int), 1, 24, 1658, 111) := rfl
set_option maxRecDepth 100000 in
theorem ck194 : tb194.all (chkE yX12_needs cX12_needs ((some .int)) 2 47 194) = true := by decide +kernel
set_option maxRecDepth 100000 in
theorem cm194 : mi 194 = some (yX12_needs, cX12_needs, 6, (some .int), 2, 47, 1654, 111) := rfl
set_option maxRecDepth 100000 in
theorem ck195 : tb195.all (chkE yX12_canNext cX12_canNext ((some .boolean)) 1 24 195) = true := by decide +kernel
set_option maxRecDepth 100000 in
theorem cm195 : mi 195 = some (yX12_canNext, cX12_canNext, 3, (some .boolean), 1, 24, 1650, 111) := rfl
set_option maxRecDepth 100000 in
theorem ck196_0 : tb196_0.all (chkE yX12_once cX12_once ((some .int)) 3 72 196) = true := by decide +kernel
set_option maxRecDepth 100000 in
theorem ck196_1 : tb196_1.all (chkE yX12_once cX12_once ((some .int)) 3 72 196) = true := by decide +kernel
set_option maxRecDepth 100000 in
theorem ck196_2 : tb196_2.all (chkE yX12_once cX12_once ((some .int)) 3 72 196) = true := by decide +kernel
set_option maxRecDepth 100000 in
theorem ck196_3 : tb196_3.all (chkE yX12_once cX12_once ((some .int)) 3 72 196) = true := by decide +kernel
set_option maxRecDepth 100000 in
theorem ck196_4 : tb196_4.all (chkE yX12_once cX12_once ((some .int)) 3 72 196) = true := by decide +kernel
set_option maxRecDepth 100000 in
theorem ck196_5 : tb196_5.all (chkE yX12_once cX12_once ((some .int)) 3 72 196) = true := by decide +kernel
theorem ck196 : tb196.all (chkE yX12_once cX12_once ((some .int)) 3 72 196) = true := by
  unfold tb196
  simp only [List.all_append, ck196_0, ck196_1, ck196_2, ck196_3, ck196_4, ck196_5, Bool.and_self]
set_option maxRecDepth 100000 in
theorem cm196 : mi 196 = some (yX12_once, cX12_once, 7, (some .int), 3, 72, 1646, 111) := rfl
set_option maxRecDepth 100000 in
theorem ck197 : tb197.all (chkE yX12_onceMany cX12_onceMany ((some .long)) 1 24 197) = true := by decide +kernel
set_option maxRecDepth 100000 in
theorem cm197 : mi 197 = some (yX12_onceMany, cX12_onceMany, 1, (some .long), 1, 24, 1662, 111) := rfl
set_option maxRecDepth 100000 in
theorem ck198 : tb198.all (chkE yX12_onceAt cX12_onceAt ((some .int)) 2 46 198) = true := by decide +kernel
set_option maxRecDepth 100000 in
theorem cm198 : mi 198 = some (yX12_onceAt, cX12_onceAt, 2, (some .int), 2, 46, 1666, 111) := rfl
set_option maxRecDepth 100000 in
theorem ck199_0 : tb199_0.all (chkE yX12_order cX12_order ((some .int)) 3 72 199) = true := by decide +kernel
set_option maxRecDepth 100000 in
theorem ck199_1 : tb199_1.all (chkE yX12_order cX12_order ((some .int)) 3 72 199) = true := by decide +kernel
theorem ck199 : tb199.all (chkE yX12_order cX12_order ((some .int)) 3 72 199) = true := by
  unfold tb199
  simp only [List.all_append, ck199_0, ck199_1, Bool.and_self]
set_option maxRecDepth 100000 in
theorem cm199 : mi 199 = some (yX12_order, cX12_order, 7, (some .int), 3, 72, 1670, 111) := rfl

set_option maxRecDepth 100000 in
theorem ck200_0 : tb200_0.all (chkE yX12_carry cX12_carry ((some .int)) 3 77 200) = true := by decide +kernel
set_option maxRecDepth 100000 in
theorem ck200_1 : tb200_1.all (chkE yX12_carry cX12_carry ((some .int)) 3 77 200) = true := by decide +kernel
set_option maxRecDepth 100000 in
theorem ck200_2 : tb200_2.all (chkE yX12_carry cX12_carry ((some .int)) 3 77 200) = true := by decide +kernel
set_option maxRecDepth 100000 in
theorem ck200_3 : tb200_3.all (chkE yX12_carry cX12_carry ((some .int)) 3 77 200) = true := by decide +kernel
set_option maxRecDepth 100000 in
theorem ck200_4 : tb200_4.all (chkE yX12_carry cX12_carry ((some .int)) 3 77 200) = true := by decide +kernel
theorem ck200 : tb200.all (chkE yX12_carry cX12_carry ((some .int)) 3 77 200) = true := by
  unfold tb200
  simp only [List.all_append, ck200_0, ck200_1, ck200_2, ck200_3, ck200_4, Bool.and_self]
set_option maxRecDepth 100000 in
theorem cm200 : mi 200 = some (yX12_carry, cX12_carry, 9, (some .int), 3, 77, 1678, 111) := rfl
set_option maxRecDepth 100000 in
theorem ck201_0 : tb201_0.all (chkE yX12_plain cX12_plain ((some .int)) 2 46 201) = true := by decide +kernel
set_option maxRecDepth 100000 in
theorem ck201_1 : tb201_1.all (chkE yX12_plain cX12_plain ((some .int)) 2 46 201) = true := by decide +kernel
set_option maxRecDepth 100000 in
theorem ck201_2 : tb201_2.all (chkE yX12_plain cX12_plain ((some .int)) 2 46 201) = true := by decide +kernel
theorem ck201 : tb201.all (chkE yX12_plain cX12_plain ((some .int)) 2 46 201) = true := by
  unfold tb201
  simp only [List.all_append, ck201_0, ck201_1, ck201_2, Bool.and_self]
set_option maxRecDepth 100000 in
theorem cm201 : mi 201 = some (yX12_plain, cX12_plain, 12, (some .int), 2, 46, 1682, 111) := rfl
set_option maxRecDepth 100000 in
theorem ck202_0 : tb202_0.all (chkE yX12_carries cX12_carries ((some .boolean)) 2 46 202) = true := by decide +kernel
set_option maxRecDepth 100000 in
theorem ck202_1 : tb202_1.all (chkE yX12_carries cX12_carries ((some .boolean)) 2 46 202) = true := by decide +kernel
set_option maxRecDepth 100000 in
theorem ck202_2 : tb202_2.all (chkE yX12_carries cX12_carries ((some .boolean)) 2 46 202) = true := by decide +kernel
theorem ck202 : tb202.all (chkE yX12_carries cX12_carries ((some .boolean)) 2 46 202) = true := by
  unfold tb202
  simp only [List.all_append, ck202_0, ck202_1, ck202_2, Bool.and_self]
set_option maxRecDepth 100000 in
theorem cm202 : mi 202 = some (yX12_carries, cX12_carries, 11, (some .boolean), 2, 46, 1686, 111) := rfl
set_option maxRecDepth 100000 in
theorem ck203_0 : tb203_0.all (chkE yX12_cooks cX12_cooks ((some .int)) 3 72 203) = true := by decide +kernel
set_option maxRecDepth 100000 in
theorem ck203_1 : tb203_1.all (chkE yX12_cooks cX12_cooks ((some .int)) 3 72 203) = true := by decide +kernel
set_option maxRecDepth 100000 in
theorem ck203_2 : tb203_2.all (chkE yX12_cooks cX12_cooks ((some .int)) 3 72 203) = true := by decide +kernel
set_option maxRecDepth 100000 in
theorem ck203_3 : tb203_3.all (chkE yX12_cooks cX12_cooks ((some .int)) 3 72 203) = true := by decide +kernel
set_option maxRecDepth 100000 in
theorem ck203_4 : tb203_4.all (chkE yX12_cooks cX12_cooks ((some .int)) 3 72 203) = true := by decide +kernel
theorem ck203 : tb203.all (chkE yX12_cooks cX12_cooks ((some .int)) 3 72 203) = true := by
  unfold tb203
  simp only [List.all_append, ck203_0, ck203_1, ck203_2, ck203_3, ck203_4, Bool.and_self]
set_option maxRecDepth 100000 in
theorem cm203 : mi 203 = some (yX12_cooks, cX12_cooks, 7, (some .int), 3, 72, 1690, 111) := rfl
set_option maxRecDepth 100000 in
theorem ck204_0 : tb204_0.all (chkE yX12_cook cX12_cook (none) 2 46 204) = true := by decide +kernel
set_option maxRecDepth 100000 in
theorem ck204_1 : tb204_1.all (chkE yX12_cook cX12_cook (none) 2 46 204) = true := by decide +kernel
theorem ck204 : tb204.all (chkE yX12_cook cX12_cook (none) 2 46 204) = true := by
  unfold tb204
  simp only [List.all_append, ck204_0, ck204_1, Bool.and_self]
set_option maxRecDepth 100000 in
theorem cm204 : mi 204 = some (yX12_cook, cX12_cook, 7, none, 2, 46, 1694, 111) := rfl
set_option maxRecDepth 100000 in
theorem ck205 : tb205.all (chkE yX12_promised cX12_promised ((some .int)) 3 75 205) = true := by decide +kernel
set_option maxRecDepth 100000 in
theorem cm205 : mi 205 = some (yX12_promised, cX12_promised, 2, (some .int), 3, 75, 1698, 111) := rfl
set_option maxRecDepth 100000 in
theorem ck206_0 : tb206_0.all (chkE yX12_isPromised cX12_isPromised ((some .boolean)) 2 46 206) = true := by decide +kernel
set_option maxRecDepth 100000 in
theorem ck206_1 : tb206_1.all (chkE yX12_isPromised cX12_isPromised ((some .boolean)) 2 46 206) = true := by decide +kernel
set_option maxRecDepth 100000 in
theorem ck206_2 : tb206_2.all (chkE yX12_isPromised cX12_isPromised ((some .boolean)) 2 46 206) = true := by decide +kernel
set_option maxRecDepth 100000 in
theorem ck206_3 : tb206_3.all (chkE yX12_isPromised cX12_isPromised ((some .boolean)) 2 46 206) = true := by decide +kernel
set_option maxRecDepth 100000 in
theorem ck206_4 : tb206_4.all (chkE yX12_isPromised cX12_isPromised ((some .boolean)) 2 46 206) = true := by decide +kernel
theorem ck206 : tb206.all (chkE yX12_isPromised cX12_isPromised ((some .boolean)) 2 46 206) = true := by
  unfold tb206
  simp only [List.all_append, ck206_0, ck206_1, ck206_2, ck206_3, ck206_4, Bool.and_self]
set_option maxRecDepth 100000 in
theorem cm206 : mi 206 = some (yX12_isPromised, cX12_isPromised, 10, (some .boolean), 2, 46, 1702, 111) := rfl
set_option maxRecDepth 100000 in
theorem ck207 : tb207.all (chkE yX12_come cX12_come ((some .int)) 1 24 207) = true := by decide +kernel
set_option maxRecDepth 100000 in
theorem cm207 : mi 207 = some (yX12_come, cX12_come, 3, (some .int), 1, 24, 1706, 111) := rfl
set_option maxRecDepth 100000 in
theorem ck208_0 : tb208_0.all (chkE yX12_ready cX12_ready ((some .int)) 5 119 208) = true := by decide +kernel
set_option maxRecDepth 100000 in
theorem ck208_1 : tb208_1.all (chkE yX12_ready cX12_ready ((some .int)) 5 119 208) = true := by decide +kernel
theorem ck208 : tb208.all (chkE yX12_ready cX12_ready ((some .int)) 5 119 208) = true := by
  unfold tb208
  simp only [List.all_append, ck208_0, ck208_1, Bool.and_self]
set_option maxRecDepth 100000 in
theorem cm208 : mi 208 = some (yX12_ready, cX12_ready, 7, (some .int), 5, 119, 1710, 111) := rfl
set_option maxRecDepth 100000 in
theorem ck209_0 : tb209_0.all (chkE yX12_readPlan cX12_readPlan ((some .boolean)) 4 88 209) = true := by decide +kernel
set_option maxRecDepth 100000 in
theorem ck209_1 : tb209_1.all (chkE yX12_readPlan cX12_readPlan ((some .boolean)) 4 88 209) = true := by decide +kernel
set_option maxRecDepth 100000 in
theorem ck209_2 : tb209_2.all (chkE yX12_readPlan cX12_readPlan ((some .boolean)) 4 88 209) = true := by decide +kernel
theorem ck209 : tb209.all (chkE yX12_readPlan cX12_readPlan ((some .boolean)) 4 88 209) = true := by
  unfold tb209
  simp only [List.all_append, ck209_0, ck209_1, ck209_2, Bool.and_self]
set_option maxRecDepth 100000 in
theorem cm209 : mi 209 = some (yX12_readPlan, cX12_readPlan, 5, (some .boolean), 4, 88, 1718, 111) := rfl
set_option maxRecDepth 100000 in
theorem ck210 : tb210.all (chkE yX12_known cX12_known ((some .int)) 3 67 210) = true := by decide +kernel
set_option maxRecDepth 100000 in
theorem cm210 : mi 210 = some (yX12_known, cX12_known, 2, (some .int), 3, 67, 1722, 111) := rfl
set_option maxRecDepth 100000 in
theorem ck211_0 : tb211_0.all (chkE yX12_plan cX12_plan ((some .int)) 5 112 211) = true := by decide +kernel
set_option maxRecDepth 100000 in
theorem ck211_1 : tb211_1.all (chkE yX12_plan cX12_plan ((some .int)) 5 112 211) = true := by decide +kernel
theorem ck211 : tb211.all (chkE yX12_plan cX12_plan ((some .int)) 5 112 211) = true := by
  unfold tb211
  simp only [List.all_append, ck211_0, ck211_1, Bool.and_self]
set_option maxRecDepth 100000 in
theorem cm211 : mi 211 = some (yX12_plan, cX12_plan, 2, (some .int), 5, 112, 1714, 111) := rfl
set_option maxRecDepth 100000 in
theorem ck212 : tb212.all (chkE yX12_planAt cX12_planAt ((some .int)) 2 46 212) = true := by decide +kernel
set_option maxRecDepth 100000 in
theorem cm212 : mi 212 = some (yX12_planAt, cX12_planAt, 2, (some .int), 2, 46, 1726, 111) := rfl
set_option maxRecDepth 100000 in
theorem ck213_0 : tb213_0.all (chkE yX12_judge cX12_judge ((some .int)) 3 72 213) = true := by decide +kernel
set_option maxRecDepth 100000 in
theorem ck213_1 : tb213_1.all (chkE yX12_judge cX12_judge ((some .int)) 3 72 213) = true := by decide +kernel
set_option maxRecDepth 100000 in
theorem ck213_2 : tb213_2.all (chkE yX12_judge cX12_judge ((some .int)) 3 72 213) = true := by decide +kernel
theorem ck213 : tb213.all (chkE yX12_judge cX12_judge ((some .int)) 3 72 213) = true := by
  unfold tb213
  simp only [List.all_append, ck213_0, ck213_1, ck213_2, Bool.and_self]
set_option maxRecDepth 100000 in
theorem cm213 : mi 213 = some (yX12_judge, cX12_judge, 6, (some .int), 3, 72, 1730, 111) := rfl
set_option maxRecDepth 100000 in
theorem ck214 : tb214.all (chkE yX12_judged cX12_judged ((some .int)) 2 46 214) = true := by decide +kernel
set_option maxRecDepth 100000 in
theorem cm214 : mi 214 = some (yX12_judged, cX12_judged, 2, (some .int), 2, 46, 1734, 111) := rfl

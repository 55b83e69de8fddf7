set_option maxRecDepth 100000 in
theorem ck156_0 : tb156_0.all (chkE yX12_next cX12_next (none) 2 44 156) = true := by decide +kernel
set_option maxRecDepth 100000 in
theorem ck156_1 : tb156_1.all (chkE yX12_next cX12_next (none) 2 44 156) = true := by decide +kernel
set_option maxRecDepth 100000 in
theorem ck156_2 : tb156_2.all (chkE yX12_next cX12_next (none) 2 44 156) = true := by decide +kernel
set_option maxRecDepth 100000 in
theorem ck156_3 : tb156_3.all (chkE yX12_next cX12_next (none) 2 44 156) = true := by decide +kernel
set_option maxRecDepth 100000 in
theorem ck156_4 : tb156_4.all (chkE yX12_next cX12_next (none) 2 44 156) = true := by decide +kernel
theorem ck156 : tb156.all (chkE yX12_next cX12_next (none) 2 44 156) = true := by
  unfold tb156
  simp only [List.all_append, ck156_0, ck156_1, ck156_2, ck156_3, ck156_4, Bool.and_self]
set_option maxRecDepth 100000 in
theorem cm156 : mi 156 = some (yX12_next, cX12_next, 4, none, 2, 44, 1473, 111) := rfl
set_option maxRecDepth 100000 in
theorem ck157 : tb157.all (chkE yX12_bad cX12_bad ((some .boolean)) 1 24 157) = true := by decide +kernel
set_option maxRecDepth 100000 in
theorem cm157 : mi 157 = some (yX12_bad, cX12_bad, 2, (some .boolean), 1, 24, 1498, 111) := rfl
set_option maxRecDepth 100000 in
theorem ck158 : tb158.all (chkE yX12_isWord cX12_isWord ((some .boolean)) 1 24 158) = true := by decide +kernel
set_option maxRecDepth 100000 in
theorem cm158 : mi 158 = some (yX12_isWord, cX12_isWord, 3, (some .boolean), 1, 24, 1492, 111) := rfl
set_option maxRecDepth 100000 in
theorem ck159 : tb159.all (chkE yX12_isSign cX12_isSign ((some .boolean)) 1 24 159) = true := by decide +kernel
set_option maxRecDepth 100000 in
theorem cm159 : mi 159 = some (yX12_isSign, cX12_isSign, 2, (some .boolean), 1, 24, 1530, 111) := rfl
set_option maxRecDepth 100000 in
theorem ck160 : tb160.all (chkE yX12_sign cX12_sign ((some .boolean)) 3 67 160) = true := by decide +kernel
set_option maxRecDepth 100000 in
theorem cm160 : mi 160 = some (yX12_sign, cX12_sign, 2, (some .boolean), 3, 67, 1526, 111) := rfl
set_option maxRecDepth 100000 in
theorem ck161_0 : tb161_0.all (chkE yX12_isName cX12_isName ((some .boolean)) 1 24 161) = true := by decide +kernel
set_option maxRecDepth 100000 in
theorem ck161_1 : tb161_1.all (chkE yX12_isName cX12_isName ((some .boolean)) 1 24 161) = true := by decide +kernel
theorem ck161 : tb161.all (chkE yX12_isName cX12_isName ((some .boolean)) 1 24 161) = true := by
  unfold tb161
  simp only [List.all_append, ck161_0, ck161_1, Bool.and_self]
set_option maxRecDepth 100000 in
theorem cm161 : mi 161 = some (yX12_isName, cX12_isName, 1, (some .boolean), 1, 24, 1506, 111) := rfl
set_option maxRecDepth 100000 in
theorem ck162 : tb162.all (chkE yX12_find cX12_find ((some .int)) 1 24 162) = true := by decide +kernel
set_option maxRecDepth 100000 in
theorem cm162 : mi 162 = some (yX12_find, cX12_find, 3, (some .int), 1, 24, 1514, 111) := rfl
set_option maxRecDepth 100000 in
theorem ck163_0 : tb163_0.all (chkE yX12_read cX12_read ((some .boolean)) 5 114 163) = true := by decide +kernel
set_option maxRecDepth 100000 in
theorem ck163_1 : tb163_1.all (chkE yX12_read cX12_read ((some .boolean)) 5 114 163) = true := by decide +kernel
theorem ck163 : tb163.all (chkE yX12_read cX12_read ((some .boolean)) 5 114 163) = true := by
  unfold tb163
  simp only [List.all_append, ck163_0, ck163_1, Bool.and_self]
set_option maxRecDepth 100000 in
theorem cm163 : mi 163 = some (yX12_read, cX12_read, 3, (some .boolean), 5, 114, 1487, 111) := rfl
set_option maxRecDepth 100000 in
theorem ck164_0 : tb164_0.all (chkE yX12_thing cX12_thing ((some .boolean)) 4 90 164) = true := by decide +kernel
set_option maxRecDepth 100000 in
theorem ck164_1 : tb164_1.all (chkE yX12_thing cX12_thing ((some .boolean)) 4 90 164) = true := by decide +kernel
set_option maxRecDepth 100000 in
theorem ck164_2 : tb164_2.all (chkE yX12_thing cX12_thing ((some .boolean)) 4 90 164) = true := by decide +kernel
theorem ck164 : tb164.all (chkE yX12_thing cX12_thing ((some .boolean)) 4 90 164) = true := by
  unfold tb164
  simp only [List.all_append, ck164_0, ck164_1, ck164_2, Bool.and_self]
set_option maxRecDepth 100000 in
theorem cm164 : mi 164 = some (yX12_thing, cX12_thing, 5, (some .boolean), 4, 90, 1502, 111) := rfl
set_option maxRecDepth 100000 in
theorem ck165_0 : tb165_0.all (chkE yX12_of cX12_of ((some .boolean)) 3 67 165) = true := by decide +kernel
set_option maxRecDepth 100000 in
theorem ck165_1 : tb165_1.all (chkE yX12_of cX12_of ((some .boolean)) 3 67 165) = true := by decide +kernel
theorem ck165 : tb165.all (chkE yX12_of cX12_of ((some .boolean)) 3 67 165) = true := by
  unfold tb165
  simp only [List.all_append, ck165_0, ck165_1, Bool.and_self]
set_option maxRecDepth 100000 in
theorem cm165 : mi 165 = some (yX12_of, cX12_of, 4, (some .boolean), 3, 67, 1518, 111) := rfl
set_option maxRecDepth 100000 in
theorem ck166_0 : tb166_0.all (chkE yX12_wish cX12_wish ((some .boolean)) 3 67 166) = true := by decide +kernel
set_option maxRecDepth 100000 in
theorem ck166_1 : tb166_1.all (chkE yX12_wish cX12_wish ((some .boolean)) 3 67 166) = true := by decide +kernel
theorem ck166 : tb166.all (chkE yX12_wish cX12_wish ((some .boolean)) 3 67 166) = true := by
  unfold tb166
  simp only [List.all_append, ck166_0, ck166_1, Bool.and_self]
set_option maxRecDepth 100000 in
theorem cm166 : mi 166 = some (yX12_wish, cX12_wish, 2, (some .boolean), 3, 67, 1522, 111) := rfl
set_option maxRecDepth 100000 in
theorem ck167_0 : tb167_0.all (chkE yX12_net cX12_net ((some .int)) 6 136 167) = true := by decide +kernel
set_option maxRecDepth 100000 in
theorem ck167_1 : tb167_1.all (chkE yX12_net cX12_net ((some .int)) 6 136 167) = true := by decide +kernel
set_option maxRecDepth 100000 in
theorem ck167_2 : tb167_2.all (chkE yX12_net cX12_net ((some .int)) 6 136 167) = true := by decide +kernel
theorem ck167 : tb167.all (chkE yX12_net cX12_net ((some .int)) 6 136 167) = true := by
  unfold tb167
  simp only [List.all_append, ck167_0, ck167_1, ck167_2, Bool.and_self]
set_option maxRecDepth 100000 in
theorem cm167 : mi 167 = some (yX12_net, cX12_net, 2, (some .int), 6, 136, 1465, 111) := rfl
set_option maxRecDepth 100000 in
theorem ck168 : tb168.all (chkE yX12_fault cX12_fault ((some .int)) 1 24 168) = true := by decide +kernel
set_option maxRecDepth 100000 in
theorem cm168 : mi 168 = some (yX12_fault, cX12_fault, 1, (some .int), 1, 24, 1534, 111) := rfl
set_option maxRecDepth 100000 in
theorem ck169 : tb169.all (chkE yX12_isThing cX12_isThing ((some .boolean)) 2 46 169) = true := by decide +kernel
set_option maxRecDepth 100000 in
theorem cm169 : mi 169 = some (yX12_isThing, cX12_isThing, 2, (some .boolean), 2, 46, 1542, 111) := rfl
set_option maxRecDepth 100000 in
theorem ck170 : tb170.all (chkE yX12_below cX12_below ((some .int)) 1 24 170) = true := by decide +kernel
set_option maxRecDepth 100000 in
theorem cm170 : mi 170 = some (yX12_below, cX12_below, 4, (some .int), 1, 24, 1557, 111) := rfl
set_option maxRecDepth 100000 in
theorem ck171 : tb171.all (chkE yX12_needed cX12_needed ((some .int)) 1 24 171) = true := by decide +kernel
set_option maxRecDepth 100000 in
theorem cm171 : mi 171 = some (yX12_needed, cX12_needed, 3, (some .int), 1, 24, 1553, 111) := rfl
set_option maxRecDepth 100000 in
theorem ck172_0 : tb172_0.all (chkE yX12_thing_ cX12_thing_ ((some .int)) 3 67 172) = true := by decide +kernel
set_option maxRecDepth 100000 in
theorem ck172_1 : tb172_1.all (chkE yX12_thing_ cX12_thing_ ((some .int)) 3 67 172) = true := by decide +kernel
theorem ck172 : tb172.all (chkE yX12_thing_ cX12_thing_ ((some .int)) 3 67 172) = true := by
  unfold tb172
  simp only [List.all_append, ck172_0, ck172_1, Bool.and_self]
set_option maxRecDepth 100000 in
theorem cm172 : mi 172 = some (yX12_thing_, cX12_thing_, 3, (some .int), 3, 67, 1538, 111) := rfl
set_option maxRecDepth 100000 in
theorem ck173_0 : tb173_0.all (chkE yX12_branches cX12_branches (none) 1 24 173) = true := by decide +kernel
set_option maxRecDepth 100000 in
theorem ck173_1 : tb173_1.all (chkE yX12_branches cX12_branches (none) 1 24 173) = true := by decide +kernel
set_option maxRecDepth 100000 in
theorem ck173_2 : tb173_2.all (chkE yX12_branches cX12_branches (none) 1 24 173) = true := by decide +kernel
theorem ck173 : tb173.all (chkE yX12_branches cX12_branches (none) 1 24 173) = true := by
  unfold tb173
  simp only [List.all_append, ck173_0, ck173_1, ck173_2, Bool.and_self]
set_option maxRecDepth 100000 in
theorem cm173 : mi 173 = some (yX12_branches, cX12_branches, 6, none, 1, 24, 1565, 111) := rfl
set_option maxRecDepth 100000 in
theorem ck174 : tb174.all (chkE yX12_branch cX12_branch ((some .int)) 3 67 174) = true := by decide +kernel
set_option maxRecDepth 100000 in
theorem cm174 : mi 174 = some (yX12_branch, cX12_branch, 3, (some .int), 3, 67, 1561, 111) := rfl
set_option maxRecDepth 100000 in
theorem ck175_0 : tb175_0.all (chkE yX12_tree cX12_tree ((some .int)) 3 67 175) = true := by decide +kernel
set_option maxRecDepth 100000 in
theorem ck175_1 : tb175_1.all (chkE yX12_tree cX12_tree ((some .int)) 3 67 175) = true := by decide +kernel
set_option maxRecDepth 100000 in
theorem ck175_2 : tb175_2.all (chkE yX12_tree cX12_tree ((some .int)) 3 67 175) = true := by decide +kernel
theorem ck175 : tb175.all (chkE yX12_tree cX12_tree ((some .int)) 3 67 175) = true := by
  unfold tb175
  simp only [List.all_append, ck175_0, ck175_1, ck175_2, Bool.and_self]
set_option maxRecDepth 100000 in
theorem cm175 : mi 175 = some (yX12_tree, cX12_tree, 5, (some .int), 3, 67, 1569, 111) := rfl
set_option maxRecDepth 100000 in
theorem ck176_0 : tb176_0.all (chkE yX12_lay cX12_lay (none) 2 45 176) = true := by decide +kernel
set_option maxRecDepth 100000 in
theorem ck176_1 : tb176_1.all (chkE yX12_lay cX12_lay (none) 2 45 176) = true := by decide +kernel
set_option maxRecDepth 100000 in
theorem ck176_2 : tb176_2.all (chkE yX12_lay cX12_lay (none) 2 45 176) = true := by decide +kernel
theorem ck176 : tb176.all (chkE yX12_lay cX12_lay (none) 2 45 176) = true := by
  unfold tb176
  simp only [List.all_append, ck176_0, ck176_1, ck176_2, Bool.and_self]
set_option maxRecDepth 100000 in
theorem cm176 : mi 176 = some (yX12_lay, cX12_lay, 5, none, 2, 45, 1585, 111) := rfl
set_option maxRecDepth 100000 in
theorem ck177 : tb177.all (chkE yX12_put cX12_put (none) 1 24 177) = true := by decide +kernel
set_option maxRecDepth 100000 in
theorem cm177 : mi 177 = some (yX12_put, cX12_put, 2, none, 1, 24, 1589, 111) := rfl
set_option maxRecDepth 100000 in
theorem ck178_0 : tb178_0.all (chkE yX12_after cX12_after ((some .int)) 2 46 178) = true := by decide +kernel
set_option maxRecDepth 100000 in
theorem ck178_1 : tb178_1.all (chkE yX12_after cX12_after ((some .int)) 2 46 178) = true := by decide +kernel
set_option maxRecDepth 100000 in
theorem ck178_2 : tb178_2.all (chkE yX12_after cX12_after ((some .int)) 2 46 178) = true := by decide +kernel
set_option maxRecDepth 100000 in
theorem ck178_3 : tb178_3.all (chkE yX12_after cX12_after ((some .int)) 2 46 178) = true := by decide +kernel
theorem ck178 : tb178.all (chkE yX12_after cX12_after ((some .int)) 2 46 178) = true := by
  unfold tb178
  simp only [List.all_append, ck178_0, ck178_1, ck178_2, ck178_3, Bool.and_self]
set_option maxRecDepth 100000 in
theorem cm178 : mi 178 = some (yX12_after, cX12_after, 7, (some .int), 2, 46, 1602, 111) := rfl
set_option maxRecDepth 100000 in
theorem ck179 : tb179.all (chkE yX12_isEnd cX12_isEnd ((some .boolean)) 1 24 179) = true := by decide +kernel
set_option maxRecDepth 100000 in
theorem cm179 : mi 179 = some (yX12_isEnd, cX12_isEnd, 2, (some .boolean), 1, 24, 1598, 111) := rfl

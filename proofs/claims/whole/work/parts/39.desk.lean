/-! ===== Desk: rows that grow ===== -/
section DeskS
variable {h : AH} {n : Nat} {Q : Option Value → AH → Prop}
theorem s18 (ht : hT h 31 = 3) (hf : hT h (hR h 31 0) = 100) (hl : hL h (hR h 31 0) < 2 ^ 31) (hn : n ≤ 1048576) (h100 : 100 ≤ hN h) : WPM 18 [.ref 31, .int (nI n)] h Q ↔ if hL h (hR h 31 0) < n then Q (some (.ref (hN h))) (sR (nw h 100 n n) 31 0 (hN h)) else Q (some (.ref (hR h 31 0))) h := by
  have hcl : (nI n).toNatClampNeg = n := nI_clamp (by omega)
  have h0 : (0 : Int32) ≤ nI n := nI_pos' (by omega)
  have hne : ¬ (31 = hN h) := by omega
  by_cases hc : hL h (hR h 31 0) < n
  · have hcc : ¬ nI n ≤ nI (hL h (hR h 31 0)) := nI_ge hc (by omega)
    simp only [we18, w18, ht, hf, hcc, h0, hcl, hn, hT_nw, hne, if_false, hs_sR, hR_sR, true_or, false_implies, true_and, not_false_eq_true, true_implies, and_self, if_true, hc]
  · have hcc : nI n ≤ nI (hL h (hR h 31 0)) := nI_le (by omega) (by omega)
    simp only [we18, w18, ht, hf, hcc, true_or, true_implies, not_true_eq_false, false_implies, and_true, hc, if_false]
theorem s19 (ht : hT h 31 = 3) (hf : hT h (hR h 31 1) = 100) (hl : hL h (hR h 31 1) < 2 ^ 31) (hn : n ≤ 1048576) (h100 : 100 ≤ hN h) : WPM 19 [.ref 31, .int (nI n)] h Q ↔ if hL h (hR h 31 1) < n then Q (some (.ref (hN h))) (sR (nw h 100 n n) 31 1 (hN h)) else Q (some (.ref (hR h 31 1))) h := by
  have hcl : (nI n).toNatClampNeg = n := nI_clamp (by omega)
  have h0 : (0 : Int32) ≤ nI n := nI_pos' (by omega)
  have hne : ¬ (31 = hN h) := by omega
  by_cases hc : hL h (hR h 31 1) < n
  · have hcc : ¬ nI n ≤ nI (hL h (hR h 31 1)) := nI_ge hc (by omega)
    simp only [we19, w19, ht, hf, hcc, h0, hcl, hn, hT_nw, hne, if_false, hs_sR, hR_sR, true_or, false_implies, true_and, not_false_eq_true, true_implies, and_self, if_true, hc]
  · have hcc : nI n ≤ nI (hL h (hR h 31 1)) := nI_le (by omega) (by omega)
    simp only [we19, w19, ht, hf, hcc, true_or, true_implies, not_true_eq_false, false_implies, and_true, hc, if_false]
theorem s20 (ht : hT h 31 = 3) (hf : hT h (hR h 31 2) = 100) (hl : hL h (hR h 31 2) < 2 ^ 31) (hn : n ≤ 1048576) (h100 : 100 ≤ hN h) : WPM 20 [.ref 31, .int (nI n)] h Q ↔ if hL h (hR h 31 2) < n then Q (some (.ref (hN h))) (sR (nw h 100 n n) 31 2 (hN h)) else Q (some (.ref (hR h 31 2))) h := by
  have hcl : (nI n).toNatClampNeg = n := nI_clamp (by omega)
  have h0 : (0 : Int32) ≤ nI n := nI_pos' (by omega)
  have hne : ¬ (31 = hN h) := by omega
  by_cases hc : hL h (hR h 31 2) < n
  · have hcc : ¬ nI n ≤ nI (hL h (hR h 31 2)) := nI_ge hc (by omega)
    simp only [we20, w20, ht, hf, hcc, h0, hcl, hn, hT_nw, hne, if_false, hs_sR, hR_sR, true_or, false_implies, true_and, not_false_eq_true, true_implies, and_self, if_true, hc]
  · have hcc : nI n ≤ nI (hL h (hR h 31 2)) := nI_le (by omega) (by omega)
    simp only [we20, w20, ht, hf, hcc, true_or, true_implies, not_true_eq_false, false_implies, and_true, hc, if_false]
theorem s21 (ht : hT h 31 = 3) (hf : hT h (hR h 31 3) = 103) (hl : hL h (hR h 31 3) < 2 ^ 31) (hn : n ≤ 1048576) (h100 : 100 ≤ hN h) : WPM 21 [.ref 31, .int (nI n)] h Q ↔ if hL h (hR h 31 3) < n then Q (some (.ref (hN h))) (sR (nw h 103 n n) 31 3 (hN h)) else Q (some (.ref (hR h 31 3))) h := by
  have hcl : (nI n).toNatClampNeg = n := nI_clamp (by omega)
  have h0 : (0 : Int32) ≤ nI n := nI_pos' (by omega)
  have hne : ¬ (31 = hN h) := by omega
  by_cases hc : hL h (hR h 31 3) < n
  · have hcc : ¬ nI n ≤ nI (hL h (hR h 31 3)) := nI_ge hc (by omega)
    simp only [we21, w21, ht, hf, hcc, h0, hcl, hn, hT_nw, hne, if_false, hs_sR, hR_sR, true_or, or_true, false_implies, true_and, not_false_eq_true, true_implies, and_self, if_true, hc]
  · have hcc : nI n ≤ nI (hL h (hR h 31 3)) := nI_le (by omega) (by omega)
    simp only [we21, w21, ht, hf, hcc, true_or, or_true, true_implies, not_true_eq_false, false_implies, and_true, hc, if_false]
end DeskS

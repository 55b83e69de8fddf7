/-! ===== FewBowls: bit, holds, isEnd; Net: has, sets, find; Acts ===== -/
theorem s140 (x k : Int32) (h : AH) (Q : Option Value → AH → Prop) : WPM 140 [.int x, .int k] h Q ↔ Q (some (.int ((x >>> (k &&& 31)) &&& 1))) h := by
  simp only [we140, w140]
theorem s141 (x a : Int32) (h : AH) (Q : Option Value → AH → Prop) : WPM 141 [.int x, .int a] h Q ↔ Q (some (.int (if x &&& a = a then 1 else 0))) h := by
  simp only [we141, w141]
  by_cases q : x &&& a = a
  · simp [q]
  · simp [q]
/-- of a NET: its cell and its rows, one behind the other -/
abbrev F_net (n : Nat) (h : AH) : Prop := hT h n = 4 ∧ hR h n 4 = n + 1 ∧ hR h n 5 = n + 2 ∧ hR h n 6 = n + 3 ∧ hR h n 7 = n + 4 ∧ hR h n 8 = n + 5 ∧ hR h n 9 = n + 6 ∧ hR h n 10 = n + 7 ∧ hR h n 11 = n + 8 ∧ hR h n 12 = n + 9 ∧ hR h n 13 = n + 10 ∧
  hT h (n + 1) = 100 ∧ hT h (n + 2) = 100 ∧ hT h (n + 3) = 100 ∧ hT h (n + 4) = 100 ∧ hT h (n + 5) = 100 ∧ hT h (n + 6) = 100 ∧ hT h (n + 7) = 100 ∧ hT h (n + 8) = 100 ∧ hT h (n + 9) = 100 ∧ hT h (n + 10) = 100 ∧
  hL h (n + 1) = 14 ∧ hL h (n + 2) = 14 ∧ hL h (n + 3) = 14 ∧ hL h (n + 4) = 14 ∧ hL h (n + 5) = 14 ∧ hL h (n + 6) = 14 ∧ hL h (n + 7) = 14 ∧ hL h (n + 8) = 14 ∧ hL h (n + 9) = 14 ∧ hL h (n + 10) = 6
abbrev F_acts (h : AH) : Prop := hT h 36 = 1 ∧ hR h 36 2 = 37 ∧ hR h 36 3 = 38 ∧ hR h 36 4 = 39 ∧ hR h 36 5 = 40 ∧ hR h 36 6 = 41 ∧ hT h 37 = 100 ∧ hT h 38 = 100 ∧ hT h 39 = 100 ∧ hT h 40 = 100 ∧ hT h 41 = 100 ∧ hL h 37 = 112 ∧ hL h 38 = 112 ∧ hL h 39 = 112 ∧ hL h 40 = 112 ∧ hL h 41 = 112
theorem s24 {n : Nat} {h : AH} (hn : F_net n h) (k : Int32) (Q : Option Value → AH → Prop) : WPM 24 [.ref n, .int k] h Q ↔ Q (some (.int (if 0 ≤ k ∧ k < hI h n 0 then 1 else 0))) h := by
  simp only [we24, w24, hn]
  by_cases q0 : k < 0
  · have q1 : ¬ 0 ≤ k := fun z => by
      rw [Int32.lt_iff_toInt_lt] at q0
      rw [Int32.le_iff_toInt_le] at z
      omega
    simp [q0, q1]
  · have q1 : 0 ≤ k := by
      rw [Int32.lt_iff_toInt_lt] at q0
      rw [Int32.le_iff_toInt_le]
      omega
    by_cases q2 : hI h n 0 ≤ k
    · have q3 : ¬ k < hI h n 0 := fun z => by
        rw [Int32.lt_iff_toInt_lt] at z
        rw [Int32.le_iff_toInt_le] at q2
        omega
      simp [q0, q1, q2, q3]
    · have q3 : k < hI h n 0 := by
        rw [Int32.lt_iff_toInt_lt]
        rw [Int32.le_iff_toInt_le] at q2
        omega
      simp [q0, q1, q2, q3]
theorem s25 {n : Nat} {h : AH} (hn : F_net n h) (Q : Option Value → AH → Prop) : WPM 25 [.ref n] h Q ↔ Q (some (.int (1 <<< (hI h n 0 &&& 31)))) h := by
  simp only [we25, w25, hn]

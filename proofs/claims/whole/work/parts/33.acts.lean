/-! ===== FewBowls: bit, holds, isEnd; Net: has, sets, find; Acts ===== -/
theorem s140 (x k : Int32) (h : AH) (Q : Option Value → AH → Prop) : WPM 140 [.int x, .int k] h Q ↔ Q (some (.int ((x >>> (k &&& 31)) &&& 1))) h := by
  simp only [we140, w140]
theorem s141 (x a : Int32) (h : AH) (Q : Option Value → AH → Prop) : WPM 141 [.int x, .int a] h Q ↔ Q (some (.int (if x &&& a = a then 1 else 0))) h := by
  simp only [we141, w141, true_or, or_true]
  by_cases q : x &&& a = a
  · simp [q]
  · simp [q]
/-- of a NET: its cell and its rows, one behind the other -/
abbrev F_net (n : Nat) (h : AH) : Prop := hT h n = 4 ∧ hR h n 4 = n + 1 ∧ hR h n 5 = n + 2 ∧ hR h n 6 = n + 3 ∧ hR h n 7 = n + 4 ∧ hR h n 8 = n + 5 ∧ hR h n 9 = n + 6 ∧ hR h n 10 = n + 7 ∧ hR h n 11 = n + 8 ∧ hR h n 12 = n + 9 ∧ hR h n 13 = n + 10 ∧
  hT h (n + 1) = 100 ∧ hT h (n + 2) = 100 ∧ hT h (n + 3) = 100 ∧ hT h (n + 4) = 100 ∧ hT h (n + 5) = 100 ∧ hT h (n + 6) = 100 ∧ hT h (n + 7) = 100 ∧ hT h (n + 8) = 100 ∧ hT h (n + 9) = 100 ∧ hT h (n + 10) = 100 ∧
  hL h (n + 1) = 14 ∧ hL h (n + 2) = 14 ∧ hL h (n + 3) = 14 ∧ hL h (n + 4) = 14 ∧ hL h (n + 5) = 14 ∧ hL h (n + 6) = 14 ∧ hL h (n + 7) = 14 ∧ hL h (n + 8) = 14 ∧ hL h (n + 9) = 14 ∧ hL h (n + 10) = 6
abbrev F_acts (h : AH) : Prop := hT h 36 = 1 ∧ hR h 36 2 = 37 ∧ hR h 36 3 = 38 ∧ hR h 36 4 = 39 ∧ hR h 36 5 = 40 ∧ hR h 36 6 = 41 ∧ hT h 37 = 100 ∧ hT h 38 = 100 ∧ hT h 39 = 100 ∧ hT h 40 = 100 ∧ hT h 41 = 100 ∧ hL h 37 = 112 ∧ hL h 38 = 112 ∧ hL h 39 = 112 ∧ hL h 40 = 112 ∧ hL h 41 = 112
theorem s24 {n : Nat} {h : AH} (hn : F_net n h) (k : Int32) (Q : Option Value → AH → Prop) : WPM 24 [.ref n, .int k] h Q ↔ Q (some (.int (if 0 ≤ k ∧ k < hI h n 0 then 1 else 0))) h := by
  simp only [we24, w24, hn, true_or, or_true]
  by_cases q0 : k < 0
  · have q1 : ¬ 0 ≤ k := fun z => by
      rw [Int32.lt_iff_toInt_lt] at q0
      rw [Int32.le_iff_toInt_le] at z
      omega
    simp [q0, q1]
  · have q1 : 0 ≤ k := by
      rw [Int32.lt_iff_toInt_lt] at q0
      rw [Int32.le_iff_toInt_le]
      omega
    by_cases q2 : hI h n 0 ≤ k
    · have q3 : ¬ k < hI h n 0 := fun z => by
        rw [Int32.lt_iff_toInt_lt] at z
        rw [Int32.le_iff_toInt_le] at q2
        omega
      simp [q0, q1, q2, q3]
    · have q3 : k < hI h n 0 := by
        rw [Int32.lt_iff_toInt_lt]
        rw [Int32.le_iff_toInt_le] at q2
        omega
      simp [q0, q1, q2, q3]
theorem s25 {n : Nat} {h : AH} (hn : F_net n h) (Q : Option Value → AH → Prop) : WPM 25 [.ref n] h Q ↔ Q (some (.int (1 <<< (hI h n 0 &&& 31)))) h := by
  simp only [we25, w25, hn]
theorem s1 (x y : Int32) (h : AH) (Q : Option Value → AH → Prop) : WPM 1 [.int x, .int y] h Q ↔ Q (some (.int (100 + 20 * x + y))) h := by
  simp only [we1, w1]
theorem s3 {n k : Nat} {h : AH} (hn : F_net n h) (hk : k < 14) (b : Int32) (Q : Option Value → AH → Prop) : WPM 3 [.ref n, .int (nI k), .int b] h Q ↔ Q (some (.int (if nI k = b then 0 else hI h (n + 3) k))) h := by
  have h1 : (nI k).toNatClampNeg = k := nI_clamp (by omega)
  have h2 : inb (nI k) 14 = true := inb_nI hk (by decide)
  simp only [we3, w3, hn, h1, h2, true_or]
  by_cases q : nI k = b
  · simp [q]
  · simp [q]
theorem s4 {n k : Nat} {h : AH} (hn : F_net n h) (hk : k < 14) (w b : Int32) (Q : Option Value → AH → Prop) : WPM 4 [.ref n, .int w, .int (nI k), .int b] h Q ↔ Q (some (.int (if w &&& 2 = 0 then 0 else if nI k = b then 0 else hI h (n + 3) k))) h := by
  simp only [we4, w4, s3 hn hk, Option.toList_some, List.cons_append, List.nil_append]
  by_cases q : w &&& 2 = 0
  · simp [q]
  · simp [q]
def ent (h : AH) (k : Nat) (a b c d e : Int32) : AH := sI (sI (sI (sI (sI (sI h 37 k a) 38 k b) 39 k c) 40 k d) 41 k e) 36 0 (nI (k + 1))
theorem s5 {k : Nat} {h : AH} (hf : F_acts h) (hs : hI h 36 0 = nI k) (hk : k < 112) (a b c d e : Int32) (Q : Option Value → AH → Prop) : WPM 5 [.ref 36, .int a, .int b, .int c, .int d, .int e] h Q ↔ Q none (ent h k a b c d e) := by
  have h1 : (nI k).toNatClampNeg = k := nI_clamp (by omega)
  have h2 : inb (nI k) 112 = true := inb_nI hk (by decide)
  have h3 : nI k < (112 : Int32) := nI_lt (b := 112) hk (by decide)
  have h4 : nI k + 1 = nI (k + 1) := nI_1 k
  simp only [we5, w5_a, w5_b, hf, hs, h1, h2, h3, hs_sI, hI_sI, ent, not_true_eq_false, false_implies, true_implies, and_true, Nat.reduceEqDiff, false_and, if_false, h4]
/-- an answer that may be none -/
def oI : Option Nat → Int32
  | some t => nI t
  | none => -1
theorem s7 {j : Nat} {h : AH} (hf : F_acts h) (hj : j < 112) (f b : Int32) (Q : Option Value → AH → Prop) : WPM 7 [.ref 36, .int (nI j), .int f, .int b] h Q ↔
    Q (some (.int (if f &&& (hI h 39 j ||| hI h 40 j) = hI h 39 j then (if ((f ||| hI h 40 j) &&& (hI h 41 j ^^^ -1)) < hI h 36 1 ∧ bcI ((f ||| hI h 40 j) &&& (hI h 41 j ^^^ -1)) ≤ b then ((f ||| hI h 40 j) &&& (hI h 41 j ^^^ -1)) else -1) else -1))) h := by
  have h1 : (nI j).toNatClampNeg = j := nI_clamp (by omega)
  have h2 : inb (nI j) 112 = true := inb_nI hj (by decide)
  simp only [we7, w7_a, w7_b, hf, h1, h2, true_or, s218, Option.toList_some, List.cons_append, List.nil_append]
  generalize (f ||| hI h 40 j) &&& (hI h 41 j ^^^ -1) = t
  by_cases q : f &&& (hI h 39 j ||| hI h 40 j) = hI h 39 j
  · by_cases q2 : t < hI h 36 1
    · have q3 : ¬ hI h 36 1 ≤ t := Int32.not_le.mpr q2
      by_cases q4 : bcI t ≤ b
      · have q5 : ¬ b < bcI t := Int32.not_lt.mpr q4
        simp [q, q2, q3, q4, q5]
      · have q5 : b < bcI t := Int32.not_le.mp q4
        simp [q, q2, q3, q4, q5]
    · have q3 : hI h 36 1 ≤ t := Int32.not_lt.mp q2
      simp [q, q2, q3]
  · simp [q]

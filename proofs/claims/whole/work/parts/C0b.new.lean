def tq4 : List (Nat × Nat × Nat × Nat) := [(0, 4, 0, 4), (0, 5, 0, 100), (1, 5, 0, 14), (2, 4, 4, 5), (0, 6, 0, 100), (1, 6, 0, 14), (2, 4, 5, 6), (0, 7, 0, 100), (1, 7, 0, 14), (2, 4, 6, 7), (0, 8, 0, 100), (1, 8, 0, 14), (2, 4, 7, 8), (0, 9, 0, 100), (1, 9, 0, 14), (2, 4, 8, 9), (0, 10, 0, 100), (1, 10, 0, 14), (2, 4, 9, 10), (0, 11, 0, 100), (1, 11, 0, 14), (2, 4, 10, 11), (0, 12, 0, 100), (1, 12, 0, 14), (2, 4, 11, 12), (0, 13, 0, 100), (1, 13, 0, 14), (2, 4, 12, 13), (0, 14, 0, 100), (1, 14, 0, 6), (2, 4, 13, 14), (3, 4, 0, 0), (6, 4, 0, 0)]
set_option maxHeartbeats 4000000 in
theorem n22_4 {h : AH} {Q : Option Value → AH → Prop} (e : hN h = 5) (t : hT h 4 = 4) (i0 : hI h 4 = fun _ => 0) (j0 : hJ h 4 = fun _ => 0) (k : ∀ h', hN h' = 15 → hS h' = hS h + 132 → (∀ b, b < 4 → Sm h h' b) → Tab tq4 h' → Q none h') : WPM 22 [.ref 4] h Q := by
  rw [we22]
  simp only [w22_a, w22_b, CN, CN2, CN3, nwF, hs_sR, hs_sI, e, t, Nat.reduceAdd, Nat.reduceEqDiff, Nat.reduceLeDiff, ↓reduceIte, and_true, true_and, and_false, false_and, and_self, if_true, if_false, ne_eq, not_false_eq_true]
  refine k _ ?_ ?_ (fun b hb => ?_) ?_
  · simp only [nwF, hs_sR, hs_sI, e, Nat.reduceAdd, Nat.reduceEqDiff, Nat.reduceLeDiff, ↓reduceIte, and_true, true_and, and_false, false_and, and_self, if_true, if_false, ne_eq, not_false_eq_true]
  · simp only [nwF, hs_sR, hs_sI]
    try omega
  · repeat (first | exact Sm.rf | refine Sm.sR ?_ (by omega) | refine Sm.sI ?_ (by omega) | refine Sm.nw ?_ (by simp only [nwF, hs_sR, hs_sI, e, Nat.reduceAdd, Nat.reduceEqDiff, Nat.reduceLeDiff, ↓reduceIte, and_true, true_and, and_false, false_and, and_self, if_true, if_false, ne_eq, not_false_eq_true]; omega))
  · simp only [tq4, Tab, tE, nwF, hs_sR, hs_sI, hI_sI, hR_sR, e, t, i0, j0, Nat.reduceAdd, Nat.reduceEqDiff, Nat.reduceLeDiff, ↓reduceIte, and_true, true_and, and_false, false_and, and_self, if_true, if_false, ne_eq, not_false_eq_true]
def tq15 : List (Nat × Nat × Nat × Nat) := [(0, 15, 0, 4), (0, 16, 0, 100), (1, 16, 0, 14), (2, 15, 4, 16), (0, 17, 0, 100), (1, 17, 0, 14), (2, 15, 5, 17), (0, 18, 0, 100), (1, 18, 0, 14), (2, 15, 6, 18), (0, 19, 0, 100), (1, 19, 0, 14), (2, 15, 7, 19), (0, 20, 0, 100), (1, 20, 0, 14), (2, 15, 8, 20), (0, 21, 0, 100), (1, 21, 0, 14), (2, 15, 9, 21), (0, 22, 0, 100), (1, 22, 0, 14), (2, 15, 10, 22), (0, 23, 0, 100), (1, 23, 0, 14), (2, 15, 11, 23), (0, 24, 0, 100), (1, 24, 0, 14), (2, 15, 12, 24), (0, 25, 0, 100), (1, 25, 0, 6), (2, 15, 13, 25), (3, 15, 0, 0), (6, 15, 0, 0)]
set_option maxHeartbeats 4000000 in
theorem n22_15 {h : AH} {Q : Option Value → AH → Prop} (e : hN h = 16) (t : hT h 15 = 4) (i0 : hI h 15 = fun _ => 0) (j0 : hJ h 15 = fun _ => 0) (k : ∀ h', hN h' = 26 → hS h' = hS h + 132 → (∀ b, b < 15 → Sm h h' b) → Tab tq15 h' → Q none h') : WPM 22 [.ref 15] h Q := by
  rw [we22]
  simp only [w22_a, w22_b, CN, CN2, CN3, nwF, hs_sR, hs_sI, e, t, Nat.reduceAdd, Nat.reduceEqDiff, Nat.reduceLeDiff, ↓reduceIte, and_true, true_and, and_false, false_and, and_self, if_true, if_false, ne_eq, not_false_eq_true]
  refine k _ ?_ ?_ (fun b hb => ?_) ?_
  · simp only [nwF, hs_sR, hs_sI, e, Nat.reduceAdd, Nat.reduceEqDiff, Nat.reduceLeDiff, ↓reduceIte, and_true, true_and, and_false, false_and, and_self, if_true, if_false, ne_eq, not_false_eq_true]
  · simp only [nwF, hs_sR, hs_sI]
    try omega
  · repeat (first | exact Sm.rf | refine Sm.sR ?_ (by omega) | refine Sm.sI ?_ (by omega) | refine Sm.nw ?_ (by simp only [nwF, hs_sR, hs_sI, e, Nat.reduceAdd, Nat.reduceEqDiff, Nat.reduceLeDiff, ↓reduceIte, and_true, true_and, and_false, false_and, and_self, if_true, if_false, ne_eq, not_false_eq_true]; omega))
  · simp only [tq15, Tab, tE, nwF, hs_sR, hs_sI, hI_sI, hR_sR, e, t, i0, j0, Nat.reduceAdd, Nat.reduceEqDiff, Nat.reduceLeDiff, ↓reduceIte, and_true, true_and, and_false, false_and, and_self, if_true, if_false, ne_eq, not_false_eq_true]
def tq36 : List (Nat × Nat × Nat × Nat) := [(0, 36, 0, 1), (0, 37, 0, 100), (1, 37, 0, 112), (2, 36, 2, 37), (0, 38, 0, 100), (1, 38, 0, 112), (2, 36, 3, 38), (0, 39, 0, 100), (1, 39, 0, 112), (2, 36, 4, 39), (0, 40, 0, 100), (1, 40, 0, 112), (2, 36, 5, 40), (0, 41, 0, 100), (1, 41, 0, 112), (2, 36, 6, 41), (3, 36, 0, 0), (6, 36, 0, 0)]
set_option maxHeartbeats 4000000 in
theorem n0_36 {h : AH} {Q : Option Value → AH → Prop} (e : hN h = 37) (t : hT h 36 = 1) (i0 : hI h 36 = fun _ => 0) (j0 : hJ h 36 = fun _ => 0) (k : ∀ h', hN h' = 42 → hS h' = hS h + 560 → (∀ b, b < 36 → Sm h h' b) → Tab tq36 h' → Q none h') : WPM 0 [.ref 36] h Q := by
  rw [we0]
  simp only [w0, CN, CN2, CN3, nwF, hs_sR, hs_sI, e, t, Nat.reduceAdd, Nat.reduceEqDiff, Nat.reduceLeDiff, ↓reduceIte, and_true, true_and, and_false, false_and, and_self, if_true, if_false, ne_eq, not_false_eq_true]
  refine k _ ?_ ?_ (fun b hb => ?_) ?_
  · simp only [nwF, hs_sR, hs_sI, e, Nat.reduceAdd, Nat.reduceEqDiff, Nat.reduceLeDiff, ↓reduceIte, and_true, true_and, and_false, false_and, and_self, if_true, if_false, ne_eq, not_false_eq_true]
  · simp only [nwF, hs_sR, hs_sI]
    try omega
  · repeat (first | exact Sm.rf | refine Sm.sR ?_ (by omega) | refine Sm.sI ?_ (by omega) | refine Sm.nw ?_ (by simp only [nwF, hs_sR, hs_sI, e, Nat.reduceAdd, Nat.reduceEqDiff, Nat.reduceLeDiff, ↓reduceIte, and_true, true_and, and_false, false_and, and_self, if_true, if_false, ne_eq, not_false_eq_true]; omega))
  · simp only [tq36, Tab, tE, nwF, hs_sR, hs_sI, hI_sI, hR_sR, e, t, i0, j0, Nat.reduceAdd, Nat.reduceEqDiff, Nat.reduceLeDiff, ↓reduceIte, and_true, true_and, and_false, false_and, and_self, if_true, if_false, ne_eq, not_false_eq_true]
def tq42 : List (Nat × Nat × Nat × Nat) := [(0, 42, 0, 6), (0, 43, 0, 100), (1, 43, 0, 60), (2, 42, 2, 43), (5, 42, 4, 0), (5, 42, 5, 0), (0, 44, 0, 100), (1, 44, 0, 60), (2, 42, 6, 44), (0, 45, 0, 100), (1, 45, 0, 0), (2, 42, 8, 45), (0, 46, 0, 103), (1, 46, 0, 0), (2, 42, 9, 46), (2, 42, 0, 31), (2, 42, 1, 36), (7, 42, 3, 0), (7, 42, 7, 0), (6, 42, 0, 0)]
set_option maxHeartbeats 4000000 in
theorem n44_42 {h : AH} {Q : Option Value → AH → Prop} (e : hN h = 43) (t : hT h 42 = 6) (i0 : hI h 42 = fun _ => 0) (j0 : hJ h 42 = fun _ => 0) (k : ∀ h', hN h' = 47 → hS h' = hS h + 120 → (∀ b, b < 42 → Sm h h' b) → Tab tq42 h' → Q none h') : WPM 44 [.ref 42, .ref 31, .ref 36] h Q := by
  rw [we44]
  simp only [w44, CN, CN2, CN3, nwF, hs_sR, hs_sI, e, t, Nat.reduceAdd, Nat.reduceEqDiff, Nat.reduceLeDiff, ↓reduceIte, and_true, true_and, and_false, false_and, and_self, if_true, if_false, ne_eq, not_false_eq_true]
  refine k _ ?_ ?_ (fun b hb => ?_) ?_
  · simp only [nwF, hs_sR, hs_sI, e, Nat.reduceAdd, Nat.reduceEqDiff, Nat.reduceLeDiff, ↓reduceIte, and_true, true_and, and_false, false_and, and_self, if_true, if_false, ne_eq, not_false_eq_true]
  · simp only [nwF, hs_sR, hs_sI]
    try omega
  · repeat (first | exact Sm.rf | refine Sm.sR ?_ (by omega) | refine Sm.sI ?_ (by omega) | refine Sm.nw ?_ (by simp only [nwF, hs_sR, hs_sI, e, Nat.reduceAdd, Nat.reduceEqDiff, Nat.reduceLeDiff, ↓reduceIte, and_true, true_and, and_false, false_and, and_self, if_true, if_false, ne_eq, not_false_eq_true]; omega))
  · simp only [tq42, Tab, tE, nwF, hs_sR, hs_sI, hI_sI, hR_sR, e, t, i0, j0, Nat.reduceAdd, Nat.reduceEqDiff, Nat.reduceLeDiff, ↓reduceIte, and_true, true_and, and_false, false_and, and_self, if_true, if_false, ne_eq, not_false_eq_true]
def tq47 : List (Nat × Nat × Nat × Nat) := [(0, 47, 0, 7), (0, 48, 0, 101), (1, 48, 0, 0), (2, 47, 2, 48), (0, 49, 0, 100), (1, 49, 0, 0), (2, 47, 3, 49), (5, 47, 6, 0), (2, 47, 0, 31), (2, 47, 1, 36), (6, 47, 0, 0)]
set_option maxHeartbeats 4000000 in
theorem n50_47 {h : AH} {Q : Option Value → AH → Prop} (e : hN h = 48) (t : hT h 47 = 7) (i0 : hI h 47 = fun _ => 0) (j0 : hJ h 47 = fun _ => 0) (k : ∀ h', hN h' = 50 → hS h' = hS h + 0 → (∀ b, b < 47 → Sm h h' b) → Tab tq47 h' → Q none h') : WPM 50 [.ref 47, .ref 31, .ref 36] h Q := by
  rw [we50]
  simp only [w50, CN, CN2, CN3, nwF, hs_sR, hs_sI, e, t, Nat.reduceAdd, Nat.reduceEqDiff, Nat.reduceLeDiff, ↓reduceIte, and_true, true_and, and_false, false_and, and_self, if_true, if_false, ne_eq, not_false_eq_true]
  refine k _ ?_ ?_ (fun b hb => ?_) ?_
  · simp only [nwF, hs_sR, hs_sI, e, Nat.reduceAdd, Nat.reduceEqDiff, Nat.reduceLeDiff, ↓reduceIte, and_true, true_and, and_false, false_and, and_self, if_true, if_false, ne_eq, not_false_eq_true]
  · simp only [nwF, hs_sR, hs_sI]
    try omega
  · repeat (first | exact Sm.rf | refine Sm.sR ?_ (by omega) | refine Sm.sI ?_ (by omega) | refine Sm.nw ?_ (by simp only [nwF, hs_sR, hs_sI, e, Nat.reduceAdd, Nat.reduceEqDiff, Nat.reduceLeDiff, ↓reduceIte, and_true, true_and, and_false, false_and, and_self, if_true, if_false, ne_eq, not_false_eq_true]; omega))
  · simp only [tq47, Tab, tE, nwF, hs_sR, hs_sI, hI_sI, hR_sR, e, t, i0, j0, Nat.reduceAdd, Nat.reduceEqDiff, Nat.reduceLeDiff, ↓reduceIte, and_true, true_and, and_false, false_and, and_self, if_true, if_false, ne_eq, not_false_eq_true]
def tq50 : List (Nat × Nat × Nat × Nat) := [(0, 50, 0, 9), (0, 51, 0, 100), (1, 51, 0, 0), (2, 50, 2, 51), (0, 52, 0, 100), (1, 52, 0, 0), (2, 50, 3, 52), (0, 53, 0, 103), (1, 53, 0, 0), (2, 50, 4, 53), (0, 54, 0, 100), (1, 54, 0, 0), (2, 50, 6, 54), (2, 50, 0, 31), (2, 50, 1, 36), (3, 50, 0, 0), (6, 50, 0, 0)]
set_option maxHeartbeats 4000000 in
theorem n74_50 {h : AH} {Q : Option Value → AH → Prop} (e : hN h = 51) (t : hT h 50 = 9) (i0 : hI h 50 = fun _ => 0) (j0 : hJ h 50 = fun _ => 0) (k : ∀ h', hN h' = 55 → hS h' = hS h + 0 → (∀ b, b < 50 → Sm h h' b) → Tab tq50 h' → Q none h') : WPM 74 [.ref 50, .ref 31, .ref 36] h Q := by
  rw [we74]
  simp only [w74, CN, CN2, CN3, nwF, hs_sR, hs_sI, e, t, Nat.reduceAdd, Nat.reduceEqDiff, Nat.reduceLeDiff, ↓reduceIte, and_true, true_and, and_false, false_and, and_self, if_true, if_false, ne_eq, not_false_eq_true]
  refine k _ ?_ ?_ (fun b hb => ?_) ?_
  · simp only [nwF, hs_sR, hs_sI, e, Nat.reduceAdd, Nat.reduceEqDiff, Nat.reduceLeDiff, ↓reduceIte, and_true, true_and, and_false, false_and, and_self, if_true, if_false, ne_eq, not_false_eq_true]
  · simp only [nwF, hs_sR, hs_sI]
    try omega
  · repeat (first | exact Sm.rf | refine Sm.sR ?_ (by omega) | refine Sm.sI ?_ (by omega) | refine Sm.nw ?_ (by simp only [nwF, hs_sR, hs_sI, e, Nat.reduceAdd, Nat.reduceEqDiff, Nat.reduceLeDiff, ↓reduceIte, and_true, true_and, and_false, false_and, and_self, if_true, if_false, ne_eq, not_false_eq_true]; omega))
  · simp only [tq50, Tab, tE, nwF, hs_sR, hs_sI, hI_sI, hR_sR, e, t, i0, j0, Nat.reduceAdd, Nat.reduceEqDiff, Nat.reduceLeDiff, ↓reduceIte, and_true, true_and, and_false, false_and, and_self, if_true, if_false, ne_eq, not_false_eq_true]
def tq55 : List (Nat × Nat × Nat × Nat) := [(0, 55, 0, 2), (0, 56, 0, 100), (1, 56, 0, 100), (2, 55, 2, 56), (0, 57, 0, 100), (1, 57, 0, 0), (2, 55, 4, 57), (0, 58, 0, 100), (1, 58, 0, 0), (2, 55, 5, 58), (0, 59, 0, 100), (1, 59, 0, 0), (2, 55, 6, 59), (2, 55, 0, 31), (2, 55, 1, 36), (3, 55, 0, 0), (6, 55, 0, 0)]
set_option maxHeartbeats 4000000 in
theorem n9_55 {h : AH} {Q : Option Value → AH → Prop} (e : hN h = 56) (t : hT h 55 = 2) (i0 : hI h 55 = fun _ => 0) (j0 : hJ h 55 = fun _ => 0) (k : ∀ h', hN h' = 60 → hS h' = hS h + 100 → (∀ b, b < 55 → Sm h h' b) → Tab tq55 h' → Q none h') : WPM 9 [.ref 55, .ref 31, .ref 36] h Q := by
  rw [we9]
  simp only [w9, CN, CN2, CN3, nwF, hs_sR, hs_sI, e, t, Nat.reduceAdd, Nat.reduceEqDiff, Nat.reduceLeDiff, ↓reduceIte, and_true, true_and, and_false, false_and, and_self, if_true, if_false, ne_eq, not_false_eq_true]
  refine k _ ?_ ?_ (fun b hb => ?_) ?_
  · simp only [nwF, hs_sR, hs_sI, e, Nat.reduceAdd, Nat.reduceEqDiff, Nat.reduceLeDiff, ↓reduceIte, and_true, true_and, and_false, false_and, and_self, if_true, if_false, ne_eq, not_false_eq_true]
  · simp only [nwF, hs_sR, hs_sI]
    try omega
  · repeat (first | exact Sm.rf | refine Sm.sR ?_ (by omega) | refine Sm.sI ?_ (by omega) | refine Sm.nw ?_ (by simp only [nwF, hs_sR, hs_sI, e, Nat.reduceAdd, Nat.reduceEqDiff, Nat.reduceLeDiff, ↓reduceIte, and_true, true_and, and_false, false_and, and_self, if_true, if_false, ne_eq, not_false_eq_true]; omega))
  · simp only [tq55, Tab, tE, nwF, hs_sR, hs_sI, hI_sI, hR_sR, e, t, i0, j0, Nat.reduceAdd, Nat.reduceEqDiff, Nat.reduceLeDiff, ↓reduceIte, and_true, true_and, and_false, false_and, and_self, if_true, if_false, ne_eq, not_false_eq_true]
def tq60 : List (Nat × Nat × Nat × Nat) := [(0, 60, 0, 5), (0, 61, 0, 100), (1, 61, 0, 0), (2, 60, 1, 61), (0, 62, 0, 103), (1, 62, 0, 0), (2, 60, 2, 62), (0, 63, 0, 100), (1, 63, 0, 14), (2, 60, 5, 63), (2, 60, 0, 31), (3, 60, 0, 0), (6, 60, 0, 0)]
set_option maxHeartbeats 4000000 in
theorem n33_60 {h : AH} {Q : Option Value → AH → Prop} (e : hN h = 61) (t : hT h 60 = 5) (i0 : hI h 60 = fun _ => 0) (j0 : hJ h 60 = fun _ => 0) (k : ∀ h', hN h' = 64 → hS h' = hS h + 14 → (∀ b, b < 60 → Sm h h' b) → Tab tq60 h' → Q none h') : WPM 33 [.ref 60, .ref 31] h Q := by
  rw [we33]
  simp only [w33, CN, CN2, CN3, nwF, hs_sR, hs_sI, e, t, Nat.reduceAdd, Nat.reduceEqDiff, Nat.reduceLeDiff, ↓reduceIte, and_true, true_and, and_false, false_and, and_self, if_true, if_false, ne_eq, not_false_eq_true]
  refine k _ ?_ ?_ (fun b hb => ?_) ?_
  · simp only [nwF, hs_sR, hs_sI, e, Nat.reduceAdd, Nat.reduceEqDiff, Nat.reduceLeDiff, ↓reduceIte, and_true, true_and, and_false, false_and, and_self, if_true, if_false, ne_eq, not_false_eq_true]
  · simp only [nwF, hs_sR, hs_sI]
    try omega
  · repeat (first | exact Sm.rf | refine Sm.sR ?_ (by omega) | refine Sm.sI ?_ (by omega) | refine Sm.nw ?_ (by simp only [nwF, hs_sR, hs_sI, e, Nat.reduceAdd, Nat.reduceEqDiff, Nat.reduceLeDiff, ↓reduceIte, and_true, true_and, and_false, false_and, and_self, if_true, if_false, ne_eq, not_false_eq_true]; omega))
  · simp only [tq60, Tab, tE, nwF, hs_sR, hs_sI, hI_sI, hR_sR, e, t, i0, j0, Nat.reduceAdd, Nat.reduceEqDiff, Nat.reduceLeDiff, ↓reduceIte, and_true, true_and, and_false, false_and, and_self, if_true, if_false, ne_eq, not_false_eq_true]
def tq64 : List (Nat × Nat × Nat × Nat) := [(0, 64, 0, 10), (0, 65, 0, 100), (1, 65, 0, 0), (2, 64, 1, 65), (0, 66, 0, 100), (1, 66, 0, 0), (2, 64, 2, 66), (2, 64, 0, 31), (3, 64, 0, 0), (6, 64, 0, 0)]
set_option maxHeartbeats 4000000 in
theorem n81_64 {h : AH} {Q : Option Value → AH → Prop} (e : hN h = 65) (t : hT h 64 = 10) (i0 : hI h 64 = fun _ => 0) (j0 : hJ h 64 = fun _ => 0) (k : ∀ h', hN h' = 67 → hS h' = hS h + 0 → (∀ b, b < 64 → Sm h h' b) → Tab tq64 h' → Q none h') : WPM 81 [.ref 64, .ref 31] h Q := by
  rw [we81]
  simp only [w81, CN, CN2, CN3, nwF, hs_sR, hs_sI, e, t, Nat.reduceAdd, Nat.reduceEqDiff, Nat.reduceLeDiff, ↓reduceIte, and_true, true_and, and_false, false_and, and_self, if_true, if_false, ne_eq, not_false_eq_true]
  refine k _ ?_ ?_ (fun b hb => ?_) ?_
  · simp only [nwF, hs_sR, hs_sI, e, Nat.reduceAdd, Nat.reduceEqDiff, Nat.reduceLeDiff, ↓reduceIte, and_true, true_and, and_false, false_and, and_self, if_true, if_false, ne_eq, not_false_eq_true]
  · simp only [nwF, hs_sR, hs_sI]
    try omega
  · repeat (first | exact Sm.rf | refine Sm.sR ?_ (by omega) | refine Sm.sI ?_ (by omega) | refine Sm.nw ?_ (by simp only [nwF, hs_sR, hs_sI, e, Nat.reduceAdd, Nat.reduceEqDiff, Nat.reduceLeDiff, ↓reduceIte, and_true, true_and, and_false, false_and, and_self, if_true, if_false, ne_eq, not_false_eq_true]; omega))
  · simp only [tq64, Tab, tE, nwF, hs_sR, hs_sI, hI_sI, hR_sR, e, t, i0, j0, Nat.reduceAdd, Nat.reduceEqDiff, Nat.reduceLeDiff, ↓reduceIte, and_true, true_and, and_false, false_and, and_self, if_true, if_false, ne_eq, not_false_eq_true]

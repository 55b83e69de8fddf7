/-! ===== Acts: the table of acts, in numbers ===== -/
theorem sdf_le (a b : Nat) : sdf a b ≤ a := by
  have h : sub (sdf a b) a := fun j hj => by
    rw [sdf_bit] at hj
    simp at hj
    exact hj.1
  exact sub_le h
theorem or_lt16 {a b : Nat} (ha : a < 65536) (hb : b < 65536) : a ||| b < 65536 := Nat.or_lt_two_pow (n := 16) ha hb
/-- the made thing as the class holds it -/
def mkI (m : Nat) : Int32 := if m = 0 then -1 else nI (m - 1)
def actHeld (h : AH) (j : Nat) (a : Act) : Prop := hI h 37 j = nI a.1 ∧ hI h 38 j = mkI a.2.1 ∧ hI h 39 j = nI (aNd a) ∧ hI h 40 j = nI (aGn a) ∧ hI h 41 j = nI (aLs a)
def ActsHold (h : AH) (N : Nat) (L : List Act) : Prop := hI h 36 0 = nI L.length ∧ (∀ j a, L[j]? = some a → actHeld h j a) ∧ hI h 36 1 = nI N
def actSm (a : Act) : Prop := aNd a < 65536 ∧ aGn a < 65536 ∧ aLs a < 65536
theorem s7N {j N b s : Nat} {a : Act} {h : AH} (hf : F_acts h) (hj : j < 112) (ha : actHeld h j a) (hsm : actSm a) (hN : hI h 36 1 = nI N) (hN2 : N ≤ 65536) (hs : s < 65536) (hb : b < 65536) (Q : Option Value → AH → Prop) :
    WPM 7 [.ref 36, .int (nI j), .int (nI s), .int (nI b)] h Q ↔ Q (some (.int (oI (aft N b a s)))) h := by
  obtain ⟨-, -, h3, h4, h5⟩ := ha
  obtain ⟨m1, m2, m3⟩ := hsm
  have k1 := or_lt16 m1 m2
  have k2 := or_lt16 hs m2
  have k3 : sdf (s ||| aGn a) (aLs a) < 65536 := Nat.lt_of_le_of_lt (sdf_le _ _) k2
  have k4 : s &&& (aNd a ||| aGn a) < 65536 := Nat.lt_of_le_of_lt Nat.and_le_left hs
  rw [s7 hf hj, h3, h4, h5, hN, nI_or, nI_or, nI_and, nI_sdf, bc_pc k3]
  have e1 : (nI (s &&& (aNd a ||| aGn a)) = nI (aNd a)) ↔ s &&& (aNd a ||| aGn a) = aNd a := nI_eq (by omega) (by omega)
  have e2 : (nI (sdf (s ||| aGn a) (aLs a)) < nI N) ↔ sdf (s ||| aGn a) (aLs a) < N := nI_ltI (by omega) (by omega)
  have e3 : (nI (pc (sdf (s ||| aGn a) (aLs a))) ≤ nI b) ↔ pc (sdf (s ||| aGn a) (aLs a)) ≤ b := nI_leI (by have := pc_le (sdf (s ||| aGn a) (aLs a)); omega) (by omega)
  unfold aft
  by_cases q1 : s &&& (aNd a ||| aGn a) = aNd a
  · rw [if_pos (e1.mpr q1), if_pos q1]
    by_cases q2 : sdf (s ||| aGn a) (aLs a) < N ∧ pc (sdf (s ||| aGn a) (aLs a)) ≤ b
    · rw [if_pos ⟨e2.mpr q2.1, e3.mpr q2.2⟩, if_pos q2]
      rfl
    · rw [if_neg (fun z => q2 ⟨e2.mp z.1, e3.mp z.2⟩), if_neg q2]
      rfl
  · rw [if_neg (fun z => q1 (e1.mp z)), if_neg q1]
    rfl
/-! what enter leaves -/
def actA (x : Nat) : Prop := 36 ≤ x ∧ x ≤ 41
theorem ent_only (h : AH) (k : Nat) (a b c d e : Int32) : OnlyI actA h (ent h k a b c d e) := by
  unfold ent
  exact (((((OnlyI.rf.sI a (by unfold actA; omega)).sI b (by unfold actA; omega)).sI c (by unfold actA; omega)).sI d (by unfold actA; omega)).sI e (by unfold actA; omega)).sI _ (by unfold actA; omega)
theorem ent_hold {h : AH} {N : Nat} {L : List Act} (hL : ActsHold h N L) (a : Act) : ActsHold (ent h L.length (nI a.1) (mkI a.2.1) (nI (aNd a)) (nI (aGn a)) (nI (aLs a))) N (L ++ [a]) := by
  refine ⟨?_, fun j x hj => ?_, ?_⟩
  · rw [List.length_append]
    simp [ent, hI_sI]
  · by_cases hlt : j < L.length
    · rw [List.getElem?_append_left hlt] at hj
      obtain ⟨q1, q2, q3, q4, q5⟩ := hL.2.1 j x hj
      have hne : ¬ j = L.length := by omega
      refine ⟨?_, ?_, ?_, ?_, ?_⟩ <;> simp [ent, hI_sI, hne, q1, q2, q3, q4, q5]
    · rw [List.getElem?_append_right (by omega)] at hj
      have hj0 : j - L.length = 0 := by
        rcases Nat.eq_zero_or_pos (j - L.length) with q | q
        · exact q
        · rw [List.getElem?_eq_none (by simp; omega)] at hj; cases hj
      rw [hj0] at hj
      cases hj
      have hje : j = L.length := by omega
      subst hje
      refine ⟨?_, ?_, ?_, ?_, ?_⟩ <;> simp [ent, hI_sI]
  · simp [ent, hI_sI, hL.2.2]
/-! the table -/
def tw (w : Nat) (P : Nat → Nat) (x : Nat) : Nat := if w / 2 % 2 = 1 then P x else 0
def mkA (P : Nat → Nat) (x : Nat) : Act := (x, x + 1, P x, 2 ^ x, 0)
def waA (w : Nat) (P : Nat → Nat) (x : Nat) : Act := (20 + x, 0, 2 ^ x ||| tw w P x, 0, 2 ^ x)
def inA (w : Nat) (P : Nat → Nat) (x y : Nat) : Act := (100 + 20 * x + y, x + 1, P x ||| tw w P y, 2 ^ x, 2 ^ y)
def ysA (P : Nat → Nat) (x m : Nat) : List Nat := (List.range m).filter (fun y => (P x).testBit y)
def rowA (w : Nat) (P : Nat → Nat) (x : Nat) : List Act := (ysA P x x).map (inA w P x)
def actsOf (n : Nat) (P : Nat → Nat) (w : Nat) : List Act := (List.range n).map (mkA P) ++ (List.range n).map (waA w P) ++ (if w % 2 = 1 then (List.range n).flatMap (rowA w P) else [])
theorem ysA_len (P : Nat → Nat) (x : Nat) : ∀ m, (ysA P x m).length = pcn m (P x)
  | 0 => rfl
  | m + 1 => by
    have ih := ysA_len P x m
    unfold ysA at ih ⊢
    rw [List.range_succ, List.filter_append, List.length_append, ih, show pcn (m + 1) (P x) = pcn m (P x) + (if (P x).testBit m then 1 else 0) from rfl]
    cases hb : (P x).testBit m <;> simp [hb]
theorem pcn_mle (s : Nat) {i j : Nat} (h : i ≤ j) : pcn i s ≤ pcn j s := by
  induction h with
  | refl => exact Nat.le_refl _
  | step _ ih => exact Nat.le_trans ih (Nat.le_add_right _ _)
theorem rows_len {n : Nat} {P : Nat → Nat} {w : Nat} (h6 : ∀ x, x < n → pc (P x) ≤ 6) (hn : n ≤ 16) : ∀ m, m ≤ n → ((List.range m).flatMap (rowA w P)).length ≤ 6 * m
  | 0, _ => by simp
  | m + 1, hm => by
    have ih := rows_len (w := w) h6 hn m (by omega)
    rw [List.range_succ, List.flatMap_append, List.length_append]
    have h1 : (rowA w P m).length ≤ 6 := by
      unfold rowA
      rw [List.length_map, ysA_len]
      exact Nat.le_trans (pcn_mle (P m) (show m ≤ 16 by omega)) (h6 m (by omega))
    simp only [List.flatMap_cons, List.flatMap_nil, List.append_nil]
    omega

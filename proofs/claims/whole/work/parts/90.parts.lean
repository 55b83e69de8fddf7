/-! ===== Reader: readParts, readWish, readThing ===== -/
abbrev RR : Type := (Nat × TT) × Option (Nat × TT)
/-- the parts: at most d more -/
def rpL (t : Nat → Int32) (len : Nat) (nm : Nat → Nat) (n : Nat) : Nat → Nat → TT → RR
  | 0, parts, c => if c.1 = 7 then (match fnd nm c.2.2.1 0 n with
      | none => ((3, c), none)
      | some k => if parts.testBit k = true then ((3, c), none) else ((4, c), none)) else if parts = 0 then ((1, c), none) else ((0, c), some (parts, c))
  | d + 1, parts, c => if c.1 = 7 then (match fnd nm c.2.2.1 0 n with
      | none => ((3, c), none)
      | some k => if parts.testBit k = true then ((3, c), none) else rpL t len nm n d (parts ||| 2 ^ k) (nxt t len c)) else if parts = 0 then ((1, c), none) else ((0, c), some (parts, c))
def rdPa (t : Nat → Int32) (len : Nat) (nm : Nat → Nat) (n : Nat) (c : TT) : RR := if c.1 = 2 then rpL t len nm n 6 0 (nxt t len c) else ((1, c), none)
section RdP
variable {h : AH} {kn len n wi : Nat} {nm P C : Nat → Nat} {F : Nat → Nat → Int32} {r g : Nat → Int32} {c : TT} {Q : Option Value → AH → Prop}
theorem parts_l (x : RX h kn) (dr : DrF F n nm P C wi) (hl : len ≤ 540) {RS : RR}
    (k1 : ∀ g' p c', GT len g' c' → RS.2 = some (p, c') → p < 2 ^ n → pc p ≤ 6 → p ≠ 0 → Q (some (.int (nI p))) (RHp h kn F r g'))
    (k2 : ∀ g' fk c', GT len g' c' → RS.2 = none → RS.1 = (fk, c') → Q (some (.int (-1))) (RHp h kn F (va_up (va_up r 3 (nI fk)) 4 (nI c'.2.1)) g')) :
    ∀ d i parts g c y4, i + d = 6 → GT len g c → parts < 2 ^ n → pc parts ≤ i → RS = rpL (hI h 3) len nm n d parts c → WP 68 28 [.ref 26, .ref kn, .int (nI parts), .int (nI i), y4] [] (RHp h kn F r g) Q := by
  have hk := x.2.1
  have hr := RHp_r (h := h) (kn := kn) (by omega)
  have t1 := x.2.2.2.1
  have t2 := x.2.2.2.2.1
  have t27 := x.1.1
  have hkT : hT h kn = 4 := x.2.2.1.1
  have hn14 := dr.1
  have hp2 : (2 : Nat) ^ n ≤ 2 ^ 14 := p2_le hn14
  -- no name any more
  have fin : ∀ d i parts g c y4, i + d = 6 → GT len g c → parts < 2 ^ n → pc parts ≤ i → c.1 ≠ 7 → RS = (if parts = 0 then ((1, c), none) else ((0, c), some (parts, c))) → WP 68 28 [.ref 26, .ref kn, .int (nI parts), .int (nI i), y4] [] (RHp h kn F r g) Q := fun d i parts g c y4 hid gt hp hpc q1 hRS => by
    have g4 := gt.2.2.1
    have o := gt.2.2.2.2.2
    have hle : ¬ (6 : Int32) < nI i := nI_nlt (a := 6) (by omega) (by decide)
    have q1' : ¬ nI c.1 = 7 := fun z => q1 ((kind_eq (b := 7) o.1 (by decide)).mp z)
    rw [w68_28]
    by_cases q2 : parts = 0
    · subst q2
      rw [if_pos rfl] at hRS
      have z0 : nI 0 = 0 := rfl
      simp only [w68_a, w68_b, hr, t1, t2, t27, g4, hle, q1', z0, true_or, or_true, true_implies, not_true_eq_false, not_false_eq_true, false_implies, and_true, true_and]
      refine (s64 x gt 1).mpr ?_
      simp only [w68_a, w68_b, Option.toList_some, List.cons_append, List.nil_append, true_or, or_true]
      exact k2 g 1 c gt (by rw [hRS]) (by rw [hRS])
    · rw [if_neg q2] at hRS
      have z0 : ¬ nI parts = 0 := nI_ne0 (by omega) (by omega)
      simp only [w68_a, w68_b, hr, t1, t2, t27, g4, hle, q1', z0, true_or, or_true, true_implies, not_true_eq_false, not_false_eq_true, false_implies, and_true, true_and]
      exact k1 g parts c gt (by rw [hRS]) hp (by omega) q2
  -- a name that is wrong
  have wrong : ∀ i parts g c, i ≤ 6 → GT len g c → parts < 2 ^ n → c.1 = 7 → RS = ((3, c), none) → (fnd nm c.2.2.1 0 n = none ∨ ∃ k, fnd nm c.2.2.1 0 n = some k ∧ parts.testBit k = true) → ∀ y4, WP 68 28 [.ref 26, .ref kn, .int (nI parts), .int (nI i), y4] [] (RHp h kn F r g) Q := fun i parts g c hi gt hp q1 hRS hw y4 => by
    have g4 := gt.2.2.1
    have o := gt.2.2.2.2.2
    have g6 := gt.2.2.2.2.1 (by omega)
    have hle : ¬ (6 : Int32) < nI i := nI_nlt (a := 6) (by omega) (by decide)
    have q1' : nI c.1 = 7 := by rw [q1]; rfl
    have hkk := k2 g 3 c gt (by rw [hRS]) (by rw [hRS])
    rw [w68_28]
    simp only [w68_a, w68_b, hr, t1, t2, t27, g4, g6, hle, q1', hkT, true_or, or_true, true_implies, not_true_eq_false, not_false_eq_true, false_implies, and_true, true_and]
    refine find_r x dr o.2.2.1 ?_
    rcases hw with hw | ⟨k, hw, hb⟩
    · rw [hw]
      simp only [w68_a, w68_b, hr, t1, oI_none, show ((-1 : Int32) < 0) from by decide, Option.toList_some, List.cons_append, List.nil_append, true_or, or_true, true_implies, not_true_eq_false, not_false_eq_true, false_implies, and_true, true_and]
      refine (s64 x gt 3).mpr ?_
      simp only [w68_a, w68_b, Option.toList_some, List.cons_append, List.nil_append, true_or, or_true]
      exact hkk
    · rw [hw]
      have hkn' := (fnd_lt n 0 k hw).2.1
      have g0 : ¬ nI k < 0 := nI_pos (by omega)
      have hbit : nI parts >>> (nI k &&& 31) &&& 1 = nI (if parts.testBit k = true then 1 else 0) := nI_shr_bit (by omega) (by omega)
      rw [hb] at hbit
      simp only [w68_a, w68_b, hr, t1, oI_some, g0, s140, hbit, if_true, show (nI 1 = 1) from rfl, Option.toList_some, List.cons_append, List.nil_append, true_or, or_true, true_implies, not_true_eq_false, not_false_eq_true, false_implies, and_true, true_and]
      refine (s64 x gt 3).mpr ?_
      simp only [w68_a, w68_b, Option.toList_some, List.cons_append, List.nil_append, true_or, or_true]
      exact hkk
  intro d
  induction d with
  | zero =>
    intro i parts g c y4 hid gt hp hpc hRS
    have hi6 : i = 6 := by omega
    by_cases q1 : c.1 = 7
    · have es : rpL (hI h 3) len nm n 0 parts c = (match fnd nm c.2.2.1 0 n with
        | none => ((3, c), none)
        | some k => if parts.testBit k = true then ((3, c), none) else ((4, c), none)) := by
        show (if c.1 = 7 then _ else _) = _
        rw [if_pos q1]
      rw [es] at hRS
      cases q2 : fnd nm c.2.2.1 0 n with
      | none =>
        rw [q2] at hRS
        exact wrong i parts g c (by omega) gt hp q1 hRS (Or.inl q2) y4
      | some k =>
        rw [q2] at hRS
        by_cases q3 : parts.testBit k = true
        · simp only [q3, if_true] at hRS
          exact wrong i parts g c (by omega) gt hp q1 hRS (Or.inr ⟨k, q2, q3⟩) y4
        · simp only [q3, if_false, Bool.false_eq_true] at hRS
          have g4 := gt.2.2.1
          have o := gt.2.2.2.2.2
          have g6 := gt.2.2.2.2.1 (by omega)
          have hle : ¬ (6 : Int32) < nI i := nI_nlt (a := 6) (by omega) (by decide)
          have q1' : nI c.1 = 7 := by rw [q1]; rfl
          have hkn' := (fnd_lt n 0 k q2).2.1
          have g0 : ¬ nI k < 0 := nI_pos (by omega)
          have hbit : nI parts >>> (nI k &&& 31) &&& 1 = nI (if parts.testBit k = true then 1 else 0) := nI_shr_bit (by omega) (by omega)
          rw [Bool.eq_false_iff.mpr q3] at hbit
          have i6 : nI i = 6 := by rw [hi6]; rfl
          rw [w68_28]
          simp only [w68_a, w68_b, hr, t1, t2, t27, g4, g6, hle, q1', hkT, true_or, or_true, true_implies, not_true_eq_false, not_false_eq_true, false_implies, and_true, true_and]
          refine find_r x dr o.2.2.1 ?_
          rw [q2]
          simp only [w68_a, w68_b, hr, t1, oI_some, g0, s140, hbit, i6, if_false, Bool.false_eq_true, show ¬ (nI 0 = 1) from by decide, Option.toList_some, List.cons_append, List.nil_append, true_or, or_true, true_implies, not_true_eq_false, not_false_eq_true, false_implies, and_true, true_and]
          refine (s64 x gt 4).mpr ?_
          simp only [w68_a, w68_b, Option.toList_some, List.cons_append, List.nil_append, true_or, or_true]
          exact k2 g 4 c gt (by rw [hRS]) (by rw [hRS])
    · exact fin 0 i parts g c y4 hid gt hp hpc q1 (by rw [hRS]; show (if c.1 = 7 then _ else _) = _; rw [if_neg q1])
  | succ d ih =>
    intro i parts g c y4 hid gt hp hpc hRS
    by_cases q1 : c.1 = 7
    · have es : rpL (hI h 3) len nm n (d + 1) parts c = (match fnd nm c.2.2.1 0 n with
        | none => ((3, c), none)
        | some k => if parts.testBit k = true then ((3, c), none) else rpL (hI h 3) len nm n d (parts ||| 2 ^ k) (nxt (hI h 3) len c)) := by
        show (if c.1 = 7 then _ else _) = _
        rw [if_pos q1]
      rw [es] at hRS
      cases q2 : fnd nm c.2.2.1 0 n with
      | none =>
        rw [q2] at hRS
        exact wrong i parts g c (by omega) gt hp q1 hRS (Or.inl q2) y4
      | some k =>
        rw [q2] at hRS
        by_cases q3 : parts.testBit k = true
        · simp only [q3, if_true] at hRS
          exact wrong i parts g c (by omega) gt hp q1 hRS (Or.inr ⟨k, q2, q3⟩) y4
        · simp only [q3, if_false, Bool.false_eq_true] at hRS
          have g4 := gt.2.2.1
          have o := gt.2.2.2.2.2
          have g6 := gt.2.2.2.2.1 (by omega)
          have hle : ¬ (6 : Int32) < nI i := nI_nlt (a := 6) (by omega) (by decide)
          have q1' : nI c.1 = 7 := by rw [q1]; rfl
          have hkn' := (fnd_lt n 0 k q2).2.1
          have hkn2 : k < n := by omega
          have g0 : ¬ nI k < 0 := nI_pos (by omega)
          have hbit : nI parts >>> (nI k &&& 31) &&& 1 = nI (if parts.testBit k = true then 1 else 0) := nI_shr_bit (by omega) (by omega)
          have q3f := Bool.eq_false_iff.mpr q3
          rw [q3f] at hbit
          have i6 : ¬ nI i = 6 := fun z => by have := nI_inj (b := 6) (by omega) (by decide) z; omega
          have hpw : (1 : Int32) <<< (nI k &&& 31) = nI (2 ^ k) := nI_pow k (by omega)
          rw [w68_28]
          simp only [w68_a, w68_b, hr, t1, t2, t27, g4, g6, hle, q1', hkT, true_or, or_true, true_implies, not_true_eq_false, not_false_eq_true, false_implies, and_true, true_and]
          refine find_r x dr o.2.2.1 ?_
          rw [q2]
          simp only [w68_a, w68_b, hr, t1, t2, t27, oI_some, g0, s140, hbit, i6, hpw, nI_or, if_false, Bool.false_eq_true, show ¬ (nI 0 = 1) from by decide, Option.toList_some, List.cons_append, List.nil_append, true_or, or_true, true_implies, not_true_eq_false, not_false_eq_true, false_implies, and_true, true_and]
          refine adv x gt hl fun g' gt' => ?_
          simp only [w68_a, w68_b, Option.toList_none, List.nil_append, nI_1]
          refine ih (i + 1) _ g' _ _ (by omega) gt' (or_lt2 hp (p2_lt hkn2)) ?_ hRS
          rw [pc_set q3f (by omega)]
          omega
    · exact fin (d + 1) i parts g c y4 hid gt hp hpc q1 (by rw [hRS]; show (if c.1 = 7 then _ else _) = _; rw [if_neg q1])
theorem s68 (x : RX h kn) (dr : DrF F n nm P C wi) (gt : GT len g c) (hl : len ≤ 540)
    (k1 : ∀ g' p c', GT len g' c' → (rdPa (hI h 3) len nm n c).2 = some (p, c') → p < 2 ^ n → pc p ≤ 6 → p ≠ 0 → Q (some (.int (nI p))) (RHp h kn F r g'))
    (k2 : ∀ g' fk c', GT len g' c' → (rdPa (hI h 3) len nm n c).2 = none → (rdPa (hI h 3) len nm n c).1 = (fk, c') → Q (some (.int (-1))) (RHp h kn F (va_up (va_up r 3 (nI fk)) 4 (nI c'.2.1)) g')) : WPM 68 [.ref 26, .ref kn] (RHp h kn F r g) Q := by
  have hk := x.2.1
  have hr := RHp_r (h := h) (kn := kn) (by omega)
  have t1 := x.2.2.2.1
  have t2 := x.2.2.2.2.1
  have t27 := x.1.1
  have g4 := gt.2.2.1
  have o := gt.2.2.2.2.2
  rw [we68]
  by_cases q1 : c.1 = 2
  · have q1' : nI c.1 = 2 := by rw [q1]; rfl
    have e : rdPa (hI h 3) len nm n c = rpL (hI h 3) len nm n 6 0 (nxt (hI h 3) len c) := by unfold rdPa; rw [if_pos q1]
    rw [e] at k1 k2
    simp only [w68_a, w68_b, hr, t1, t2, t27, g4, q1', true_or, or_true, true_implies, not_true_eq_false, not_false_eq_true, false_implies, and_true, true_and]
    refine adv x gt hl fun g' gt' => ?_
    simp only [w68_a, w68_b, Option.toList_none, List.nil_append]
    exact parts_l x dr hl k1 k2 6 0 0 g' _ _ rfl gt' (Nat.pow_pos (by decide)) (by rw [pc_0]; exact Nat.zero_le _) rfl
  · have q1' : ¬ nI c.1 = 2 := fun z => q1 ((kind_eq (b := 2) o.1 (by decide)).mp z)
    have e : rdPa (hI h 3) len nm n c = ((1, c), none) := by unfold rdPa; rw [if_neg q1]
    rw [e] at k2
    simp only [w68_a, w68_b, hr, t1, t2, t27, g4, q1', true_or, or_true, true_implies, not_true_eq_false, not_false_eq_true, false_implies, and_true, true_and]
    refine (s64 x gt 1).mpr ?_
    simp only [w68_a, w68_b, Option.toList_some, List.cons_append, List.nil_append, true_or, or_true]
    exact k2 g 1 c gt rfl rfl
/-- a thing that is known -/
def rdTh (t : Nat → Int32) (len : Nat) (nm : Nat → Nat) (n : Nat) (c : TT) : RR := if (nxt t len c).1 = 7 then (match fnd nm (nxt t len c).2.2.1 0 n with
    | none => ((3, nxt t len c), none)
    | some k => ((0, c), some (k, nxt t len (nxt t len c)))) else ((1, nxt t len c), none)
theorem s73 (x : RX h kn) (dr : DrF F n nm P C wi) (gt : GT len g c) (hl : len ≤ 540)
    (k1 : ∀ g' p c', GT len g' c' → (rdTh (hI h 3) len nm n c).2 = some (p, c') → p < n → Q (some (.int (nI p))) (RHp h kn F r g'))
    (k2 : ∀ g' fk c', GT len g' c' → (rdTh (hI h 3) len nm n c).2 = none → (rdTh (hI h 3) len nm n c).1 = (fk, c') → Q (some (.int (-1))) (RHp h kn F (va_up (va_up r 3 (nI fk)) 4 (nI c'.2.1)) g')) : WPM 73 [.ref 26, .ref kn] (RHp h kn F r g) Q := by
  have hk := x.2.1
  have hr := RHp_r (h := h) (kn := kn) (by omega)
  have t1 := x.2.2.2.1
  have t2 := x.2.2.2.2.1
  have t27 := x.1.1
  have hkT : hT h kn = 4 := x.2.2.1.1
  have hn14 := dr.1
  rw [we73]
  simp only [w73, hr, t1, t2, t27]
  refine adv x gt hl fun g1 gt1 => ?_
  have g4 := gt1.2.2.1
  have o := gt1.2.2.2.2.2
  by_cases q1 : (nxt (hI h 3) len c).1 = 7
  · have q1' : nI (nxt (hI h 3) len c).1 = 7 := by rw [q1]; rfl
    have g6 := gt1.2.2.2.2.1 (by omega)
    simp only [w73, hr, t1, t2, t27, hkT, g4, g6, q1', Option.toList_none, List.nil_append, true_or, or_true, true_implies, not_true_eq_false, not_false_eq_true, false_implies, and_true, true_and]
    refine find_r x dr o.2.2.1 ?_
    cases q2 : fnd nm (nxt (hI h 3) len c).2.2.1 0 n with
    | none =>
      simp only [w73, hr, t1, oI_none, i32_0m1, Option.toList_some, List.cons_append, List.nil_append, true_or, or_true, true_implies, not_true_eq_false, not_false_eq_true, false_implies, and_true, true_and]
      refine (s64 x gt1 3).mpr ?_
      simp only [w73, Option.toList_some, List.cons_append, List.nil_append, true_or, or_true]
      exact k2 g1 3 _ gt1 (by unfold rdTh; rw [if_pos q1, q2]) (by unfold rdTh; rw [if_pos q1, q2])
    | some k =>
      have hkn' := (fnd_lt n 0 k q2).2.1
      have g0 : (0 : Int32) ≤ nI k := nI_pos' (by omega)
      simp only [w73, hr, t1, t2, t27, oI_some, g0, Option.toList_some, List.cons_append, List.nil_append, true_or, or_true, true_implies, not_true_eq_false, not_false_eq_true, false_implies, and_true, true_and]
      refine adv x gt1 hl fun g2 gt2 => ?_
      simp only [w73, Option.toList_none, List.nil_append, true_or, or_true]
      exact k1 g2 k _ gt2 (by unfold rdTh; rw [if_pos q1, q2]) (by omega)
  · have q1' : ¬ nI (nxt (hI h 3) len c).1 = 7 := fun z => q1 ((kind_eq (b := 7) o.1 (by decide)).mp z)
    simp only [w73, hr, t1, t2, t27, g4, q1', Option.toList_none, List.nil_append, true_or, or_true, true_implies, not_true_eq_false, not_false_eq_true, false_implies, and_true, true_and]
    refine (s64 x gt1 1).mpr ?_
    simp only [w73, Option.toList_some, List.cons_append, List.nil_append, true_or, or_true]
    exact k2 g1 1 _ gt1 (by unfold rdTh; rw [if_neg q1]) (by unfold rdTh; rw [if_neg q1])
end RdP

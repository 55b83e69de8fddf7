/-! ===== Reader: readLine ===== -/
abbrev Dt : Type := Nat × (Nat → Nat) × (Nat → Nat) × (Nat → Nat) × Nat
def rdLn (t : Nat → Int32) (len : Nat) (d : Dt) (c : TT) : (Nat × TT) × Option (Dt × TT) :=
  if c.1 = 4 then (match (rdWi t len d.2.1 d.1 d.2.2.2.2 c).2 with
      | some (w, c') => ((0, c), some ((d.1, d.2.1, d.2.2.1, d.2.2.2.1, w), c'))
      | none => ((rdWi t len d.2.1 d.1 d.2.2.2.2 c).1, none))
  else if c.1 ≠ 0 ∧ c.1 ≠ 1 then ((1, c), none)
  else if 14 ≤ d.1 then ((4, c), none)
  else if (nxt t len c).1 ≠ 7 then ((1, nxt t len c), none)
  else if fnd d.2.1 (nxt t len c).2.2.1 0 d.1 ≠ none then ((3, nxt t len c), none)
  else (match (if c.1 = 1 then rdPa t len d.2.1 d.1 (nxt t len (nxt t len c)) else ((0, nxt t len (nxt t len c)), some (0, nxt t len (nxt t len c)))) with
    | (f, none) => (f, none)
    | (_, some (p, c3)) => (match rdPr t len c3 with
      | (f, none) => (f, none)
      | (_, some (cs, c4)) => ((0, c), some ((d.1 + 1, va_up d.2.1 d.1 (nxt t len c).2.2.1, va_up d.2.2.1 d.1 p, va_up d.2.2.2.1 d.1 cs, d.2.2.2.2), c4))))
/-- a draft with all that is said of it -/
def DrOK (d : Dt) : Prop := PartsOK d.1 d.2.2.1 ∧ d.2.2.2.2 < 2 ^ d.1
abbrev DrF' (F : Nat → Nat → Int32) (d : Dt) : Prop := DrF F d.1 d.2.1 d.2.2.1 d.2.2.2.1 d.2.2.2.2
section RdN
variable {h : AH} {kn len : Nat} {F : Nat → Nat → Int32} {r g : Nat → Int32} {c : TT} {d : Dt} {Q : Option Value → AH → Prop}
theorem DrF.add {n wi nmv p cs R : Nat} {nm P C : Nat → Nat} (dr : DrF F n nm P C wi) (hn : n < 14) (hR1 : F 0 1 = nI R) (hR2 : R < 2 ^ n) (hR3 : ∀ k, k < n → R.testBit k = decide (P k = 0)) (hv : nmv < 2 ^ 31) (hcs : cs ≤ 99) :
    DrF (upF (if p = 0 then upF (upF (upF (upF F 1 n (nI nmv)) 3 n (nI p)) 2 n (nI cs)) 0 1 (nI (R ||| 2 ^ n)) else upF (upF (upF F 1 n (nI nmv)) 3 n (nI p)) 2 n (nI cs)) 0 0 (nI (n + 1))) (n + 1) (va_up nm n nmv) (va_up P n p) (va_up C n cs) wi := by
  obtain ⟨d1, d2, d3, -, d5⟩ := dr
  have h2 : (2 : Nat) ^ n < 2 ^ (n + 1) := p2_lt (Nat.lt_succ_self n)
  have eF : ∀ j i, ¬ (j = 0 ∧ (i = 0 ∨ i = 1)) → (upF (if p = 0 then upF (upF (upF (upF F 1 n (nI nmv)) 3 n (nI p)) 2 n (nI cs)) 0 1 (nI (R ||| 2 ^ n)) else upF (upF (upF F 1 n (nI nmv)) 3 n (nI p)) 2 n (nI cs)) 0 0 (nI (n + 1))) j i = if j = 2 ∧ i = n then nI cs else if j = 3 ∧ i = n then nI p else if j = 1 ∧ i = n then nI nmv else F j i := fun j i hj => by
    rw [upF_at, if_neg (by omega)]
    by_cases q : p = 0
    · rw [if_pos q, upF_at, if_neg (by omega), upF_at, upF_at, upF_at]
    · rw [if_neg q, upF_at, upF_at, upF_at]
  refine ⟨by omega, by rw [upF_at, if_pos ⟨rfl, rfl⟩], ?_, ⟨if p = 0 then R ||| 2 ^ n else R, ?_, ?_, fun k hk => ?_⟩, fun k hk => ?_⟩
  · rw [eF 0 2 (by omega), if_neg (by omega), if_neg (by omega), if_neg (by omega)]
    exact d3
  · rw [upF_at, if_neg (by omega)]
    by_cases q : p = 0
    · rw [if_pos q, if_pos q, upF_at, if_pos ⟨rfl, rfl⟩]
    · rw [if_neg q, if_neg q, upF_at, if_neg (by omega), upF_at, if_neg (by omega), upF_at, if_neg (by omega)]
      exact hR1
  · split
    · exact or_lt2 (by omega) h2
    · omega
  · rw [up_at]
    by_cases q2 : k = n
    · subst q2
      rw [if_pos rfl]
      have hRf : R.testBit k = false := Nat.testBit_lt_two_pow hR2
      by_cases q : p = 0
      · rw [if_pos q, bit_or_pow, hRf]
        simp [q]
      · rw [if_neg q, hRf]
        simp [q]
    · rw [if_neg q2, ← hR3 k (by omega)]
      by_cases q : p = 0
      · rw [if_pos q, bit_or_pow]
        simp [show ¬ n = k from fun z => q2 z.symm]
      · rw [if_neg q]
  · rw [eF 1 k (by omega), eF 2 k (by omega), eF 3 k (by omega), up_at, up_at, up_at]
    by_cases q2 : k = n
    · subst q2
      simp only [if_true, and_true, show ¬ (1 = 2) from by decide, show ¬ (1 = 3) from by decide, show ¬ (3 = 2) from by decide, if_false]
      exact ⟨trivial, hv, trivial, hcs⟩
    · obtain ⟨f1, f2, f3, f4, f5⟩ := d5 k (by omega)
      simp only [q2, and_false, if_false]
      exact ⟨f1, f2, f3, f4, f5⟩
theorem s67 (x : RX h kn) (gt : GT len g c) (hl : len ≤ 540) (dr : DrF' F d) (ok : DrOK d)
    (k1 : ∀ F' g' d' c', GT len g' c' → (rdLn (hI h 3) len d c).2 = some (d', c') → DrF' F' d' → DrOK d' → Q (some (.int 1)) (RHp h kn F' r g'))
    (k2 : ∀ F' g' fk c', GT len g' c' → (rdLn (hI h 3) len d c).2 = none → (rdLn (hI h 3) len d c).1 = (fk, c') → Q (some (.int 0)) (RHp h kn F' (va_up (va_up r 3 (nI fk)) 4 (nI c'.2.1)) g')) : WPM 67 [.ref 26, .ref kn] (RHp h kn F r g) Q := by
  have hk := x.2.1
  have hr := RHp_r (h := h) (kn := kn) (by omega)
  have t1 := x.2.2.2.1
  have t2 := x.2.2.2.2.1
  have t27 := x.1.1
  have hkT : hT h kn = 4 := x.2.2.1.1
  have g4 := gt.2.2.1
  have o := gt.2.2.2.2.2
  obtain ⟨po, hwi⟩ := ok
  have e00 : F 0 0 = nI d.1 := dr.2.1
  have hn14 := dr.1
  rw [we67]
  by_cases q4 : c.1 = 4
  · have q4' : nI c.1 = 4 := by rw [q4]; rfl
    have e : rdLn (hI h 3) len d c = (match (rdWi (hI h 3) len d.2.1 d.1 d.2.2.2.2 c).2 with
      | some (w, c') => ((0, c), some ((d.1, d.2.1, d.2.2.1, d.2.2.2.1, w), c'))
      | none => ((rdWi (hI h 3) len d.2.1 d.1 d.2.2.2.2 c).1, none)) := by unfold rdLn; rw [if_pos q4]
    rw [e] at k1 k2
    simp only [w67_a, hr, t1, t2, t27, g4, q4', true_implies, not_true_eq_false, not_false_eq_true, false_implies, and_true, true_and]
    refine s70 x gt hl hwi dr (fun F' g' w' c' u1 u2 u3 u4 u5 => ?_) (fun F' g' fk c' u1 u2 u3 => ?_)
    · rw [u2] at k1
      simp only [w67_a, Option.toList_some, List.cons_append, List.nil_append, true_or, or_true]
      exact k1 F' g' _ c' u1 rfl u5 ⟨po, u3⟩
    · rw [u2] at k2
      simp only [w67_a, Option.toList_some, List.cons_append, List.nil_append, true_or, or_true]
      exact k2 F' g' fk c' u1 rfl u3
  · have q4' : ¬ nI c.1 = 4 := fun z => q4 ((kind_eq (b := 4) o.1 (by decide)).mp z)
    by_cases q5 : c.1 ≠ 0 ∧ c.1 ≠ 1
    · have q50 : ¬ nI c.1 = 0 := fun z => q5.1 ((kind_eq (b := 0) o.1 (by decide)).mp z)
      have q51 : ¬ nI c.1 = 1 := fun z => q5.2 ((kind_eq (b := 1) o.1 (by decide)).mp z)
      have e : rdLn (hI h 3) len d c = ((1, c), none) := by unfold rdLn; rw [if_neg q4, if_pos q5]
      rw [e] at k2
      simp only [w67_a, hr, t1, t2, t27, g4, q4', q50, q51, true_implies, not_true_eq_false, not_false_eq_true, false_implies, and_true, true_and]
      refine (s63 x gt 1).mpr ?_
      simp only [w67_a, Option.toList_some, List.cons_append, List.nil_append, true_or, or_true]
      exact k2 F g 1 c gt rfl rfl
    · have hc01 : c.1 = 0 ∨ c.1 = 1 := by omega
      by_cases q6 : 14 ≤ d.1
      · have c6 : ¬ nI d.1 < 14 := nI_nlt (b := 14) q6 (by omega)
        have e : rdLn (hI h 3) len d c = ((4, c), none) := by unfold rdLn; rw [if_neg q4, if_neg q5, if_pos q6]
        rw [e] at k2
        have fin : WPM 63 [.ref 26, .int (nI 4)] (RHp h kn F r g) (fun rr h' => Q rr h') := (s63 x gt 4).mpr (k2 F g 4 c gt rfl rfl)
        rcases hc01 with z | z
        · have z' : nI c.1 = 0 := by rw [z]; rfl
          have n04 : ¬ (0 : Int32) = 4 := by decide
          simp only [w67_a, hr, t1, t2, t27, hkT, g4, e00, c6, z', n04, true_implies, not_true_eq_false, not_false_eq_true, false_implies, and_true, true_and]
          refine (s63 x gt 4).mpr ?_
          simp only [w67_a, Option.toList_some, List.cons_append, List.nil_append, true_or, or_true]
          exact k2 F g 4 c gt rfl rfl
        · have z' : nI c.1 = 1 := by rw [z]; rfl
          have n14 : ¬ (1 : Int32) = 4 := by decide
          simp only [w67_a, hr, t1, t2, t27, hkT, g4, e00, c6, z', n14, i32_10, true_implies, not_true_eq_false, not_false_eq_true, false_implies, and_true, true_and]
          refine (s63 x gt 4).mpr ?_
          simp only [w67_a, Option.toList_some, List.cons_append, List.nil_append, true_or, or_true]
          exact k2 F g 4 c gt rfl rfl
      · have c6 : nI d.1 < 14 := nI_lt (b := 14) (by omega) (by decide)
        -- behind the first word
        have rest : WPM 95 [.ref 27] (RHp h kn F r g) (fun rr h' => WP 67 57 [.ref 26, .ref kn, .int (nI c.1), .retAddr 0, .retAddr 0, .retAddr 0] (.ref 26 :: (rr.toList ++ [])) h' Q) := by
          refine adv x gt hl fun g1 gt1 => ?_
          have g41 := gt1.2.2.1
          have o1 := gt1.2.2.2.2.2
          by_cases q7 : (nxt (hI h 3) len c).1 = 7
          · have q7' : nI (nxt (hI h 3) len c).1 = 7 := by rw [q7]; rfl
            have g61 := gt1.2.2.2.2.1 (by omega)
            simp only [w67_a, w67_b, hr, t1, t2, t27, hkT, g41, g61, q7', Option.toList_none, List.nil_append, true_implies, not_true_eq_false, not_false_eq_true, false_implies, and_true, true_and]
            refine find_r x dr o1.2.2.1 ?_
            cases q8 : fnd d.2.1 (nxt (hI h 3) len c).2.2.1 0 d.1 with
            | some k =>
              have hkn' := (fnd_lt d.1 0 k q8).2.1
              have g0 : ¬ nI k < 0 := nI_pos (by omega)
              have e : rdLn (hI h 3) len d c = ((3, nxt (hI h 3) len c), none) := by unfold rdLn; rw [if_neg q4, if_neg q5, if_neg q6, if_neg (fun z => z q7), if_pos (by rw [q8]; exact Option.some_ne_none _)]
              rw [e] at k2
              simp only [w67_a, w67_b, hr, t1, oI_some, g0, Option.toList_some, List.cons_append, List.nil_append, true_implies, not_true_eq_false, not_false_eq_true, false_implies, and_true, true_and]
              refine (s63 x gt1 3).mpr ?_
              simp only [w67_a, w67_b, Option.toList_some, List.cons_append, List.nil_append, true_or, or_true]
              exact k2 F g1 3 _ gt1 rfl rfl
            | none =>
              have e : rdLn (hI h 3) len d c = (match (if c.1 = 1 then rdPa (hI h 3) len d.2.1 d.1 (nxt (hI h 3) len (nxt (hI h 3) len c)) else ((0, nxt (hI h 3) len (nxt (hI h 3) len c)), some (0, nxt (hI h 3) len (nxt (hI h 3) len c)))) with
                | (f, none) => (f, none)
                | (_, some (p, c3)) => (match rdPr (hI h 3) len c3 with
                  | (f, none) => (f, none)
                  | (_, some (cs, c4)) => ((0, c), some ((d.1 + 1, va_up d.2.1 d.1 (nxt (hI h 3) len c).2.2.1, va_up d.2.2.1 d.1 p, va_up d.2.2.2.1 d.1 cs, d.2.2.2.2), c4)))) := by
                unfold rdLn
                rw [if_neg q4, if_neg q5, if_neg q6, if_neg (fun z => z q7), if_neg (fun z => z q8)]
              rw [e] at k1 k2
              simp only [w67_a, w67_b, hr, t1, t2, t27, oI_none, show ((-1 : Int32) < 0) from by decide, Option.toList_some, List.cons_append, List.nil_append, true_implies, not_true_eq_false, not_false_eq_true, false_implies, and_true, true_and]
              refine adv x gt1 hl fun g2 gt2 => ?_
              -- the price and the end
              have price : ∀ (f : Nat × TT) p c3 g3, (if c.1 = 1 then rdPa (hI h 3) len d.2.1 d.1 (nxt (hI h 3) len (nxt (hI h 3) len c)) else ((0, nxt (hI h 3) len (nxt (hI h 3) len c)), some (0, nxt (hI h 3) len (nxt (hI h 3) len c)))) = (f, some (p, c3)) → GT len g3 c3 → p < 2 ^ d.1 → pc p ≤ 6 → WPM 69 [.ref 26] (RHp h kn F r g3) (fun rr h' => WP 67 130 [.ref 26, .ref kn, .int (nI c.1), .int (nI (nxt (hI h 3) len c).2.2.1), .int (nI p), .retAddr 0] (rr.toList ++ []) h' Q) := fun f p c3 g3 hp gt3 hp1 hp2 => by
                rw [hp] at k1 k2
                dsimp only at k1 k2
                refine s69 x gt3 hl (fun g' cs c4 u1 u2 u3 => ?_) (fun g' fk c' u1 u2 u3 => ?_)
                · have hpr : rdPr (hI h 3) len c3 = ((rdPr (hI h 3) len c3).1, some (cs, c4)) := by rw [← u2]
                  rw [hpr] at k1
                  dsimp only at k1
                  have g0 : (0 : Int32) ≤ nI cs := nI_pos' (by omega)
                  simp only [w67_b, w67_c, hr, hkT, g0, Option.toList_some, List.cons_append, List.nil_append, true_implies, not_true_eq_false, not_false_eq_true, false_implies, and_true, true_and]
                  obtain ⟨R, r1, r2, r3⟩ := dr.2.2.2.1
                  have hd14 : d.1 < 14 := by omega
                  have hp31 : p < 2 ^ 31 := by
                    have : (2 : Nat) ^ d.1 ≤ 2 ^ 14 := p2_le (by omega)
                    omega
                  unfold RHp
                  refine (s27 (h := setI (setI h 26 r) 27 g') (R := R) x.2.2.1 e00 hd14 r1 hp31).mpr ?_
                  simp only [w67_b, w67_c, Option.toList_none, List.nil_append, true_or, or_true]
                  refine k1 _ g' _ c4 u1 rfl (DrF.add dr hd14 r1 r2 r3 o1.2.2.1 u3) ⟨⟨by show d.1 + 1 ≤ 14; omega, fun y hy => ?_⟩, Nat.lt_of_lt_of_le hwi (p2_le (Nat.le_succ _))⟩
                  show va_up d.2.2.1 d.1 p y < 2 ^ y ∧ pc (va_up d.2.2.1 d.1 p y) ≤ 6
                  rw [up_at]
                  by_cases z : y = d.1
                  · rw [if_pos z, z]
                    exact ⟨hp1, hp2⟩
                  · rw [if_neg z]
                    have hy' : y < d.1 + 1 := hy
                    exact po.2 y (by omega)
                · have hpr : rdPr (hI h 3) len c3 = ((fk, c'), none) := by rw [← u2, ← u3]
                  rw [hpr] at k2
                  simp only [w67_b, w67_c, i32_0m1, Option.toList_some, List.cons_append, List.nil_append, true_or, or_true, true_implies, not_true_eq_false, not_false_eq_true, false_implies, and_true, true_and]
                  exact k2 F g' fk c' u1 rfl rfl
              rcases hc01 with z | z
              · have z' : nI c.1 = 0 := by rw [z]; rfl
                have n01 : ¬ (0 : Int32) = 1 := by decide
                have g00 : (0 : Int32) ≤ 0 := by decide
                have hpz := price (0, nxt (hI h 3) len (nxt (hI h 3) len c)) 0 _ g2 (by rw [if_neg (by omega)]) gt2 (Nat.pow_pos (by decide)) (by rw [pc_0]; exact Nat.zero_le _)
                rw [z', show nI 0 = 0 from rfl] at hpz
                simp only [w67_b, hr, t1, z', n01, g00, Option.toList_none, List.nil_append, true_implies, not_true_eq_false, not_false_eq_true, false_implies, and_true, true_and]
                exact hpz
              · have z' : nI c.1 = 1 := by rw [z]; rfl
                simp only [w67_b, hr, t1, z', Option.toList_none, List.nil_append, true_implies, not_true_eq_false, not_false_eq_true, false_implies, and_true, true_and]
                refine s68 x dr gt2 hl (fun g' p c3 u1 u2 u3 u4 u5 => ?_) (fun g' fk c' u1 u2 u3 => ?_)
                · have hp2 : (2 : Nat) ^ d.1 ≤ 2 ^ 14 := p2_le (by omega)
                  have g0 : (0 : Int32) ≤ nI p := nI_pos' (by omega)
                  have hpz := price (rdPa (hI h 3) len d.2.1 d.1 (nxt (hI h 3) len (nxt (hI h 3) len c))).1 p c3 g' (by rw [if_pos z, ← u2]) u1 u3 u4
                  rw [z'] at hpz
                  simp only [w67_b, hr, t1, g0, Option.toList_some, List.cons_append, List.nil_append, true_implies, not_true_eq_false, not_false_eq_true, false_implies, and_true, true_and]
                  exact hpz
                · have hpa : (if c.1 = 1 then rdPa (hI h 3) len d.2.1 d.1 (nxt (hI h 3) len (nxt (hI h 3) len c)) else ((0, nxt (hI h 3) len (nxt (hI h 3) len c)), some (0, nxt (hI h 3) len (nxt (hI h 3) len c)))) = ((fk, c'), none) := by rw [if_pos z, ← u2, ← u3]
                  rw [hpa] at k2
                  simp only [w67_b, w67_c, i32_0m1, Option.toList_some, List.cons_append, List.nil_append, true_or, or_true, true_implies, not_true_eq_false, not_false_eq_true, false_implies, and_true, true_and]
                  exact k2 F g' fk c' u1 rfl rfl
          · have q7' : ¬ nI (nxt (hI h 3) len c).1 = 7 := fun z => q7 ((kind_eq (b := 7) o1.1 (by decide)).mp z)
            have e : rdLn (hI h 3) len d c = ((1, nxt (hI h 3) len c), none) := by unfold rdLn; rw [if_neg q4, if_neg q5, if_neg q6, if_pos q7]
            rw [e] at k2
            simp only [w67_a, w67_b, hr, t1, t2, t27, g41, q7', Option.toList_none, List.nil_append, true_implies, not_true_eq_false, not_false_eq_true, false_implies, and_true, true_and]
            refine (s63 x gt1 1).mpr ?_
            simp only [w67_a, w67_b, Option.toList_some, List.cons_append, List.nil_append, true_or, or_true]
            exact k2 F g1 1 _ gt1 rfl rfl
        rcases hc01 with z | z
        · have z' : nI c.1 = 0 := by rw [z]; rfl
          rw [z'] at rest
          have n04 : ¬ (0 : Int32) = 4 := by decide
          simp only [w67_a, hr, t1, t2, t27, hkT, g4, e00, c6, z', n04, true_implies, not_true_eq_false, not_false_eq_true, false_implies, and_true, true_and]
          simp only [List.append_nil] at rest ⊢
          exact rest
        · have z' : nI c.1 = 1 := by rw [z]; rfl
          rw [z'] at rest
          have n14 : ¬ (1 : Int32) = 4 := by decide
          simp only [w67_a, hr, t1, t2, t27, hkT, g4, e00, c6, z', n14, i32_10, true_implies, not_true_eq_false, not_false_eq_true, false_implies, and_true, true_and]
          simp only [List.append_nil] at rest ⊢
          exact rest
end RdN

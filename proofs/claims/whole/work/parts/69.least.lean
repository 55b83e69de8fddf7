/-! ===== Orders: isDownSet, leastFrom, pathsFrom, firstFrom ===== -/
theorem mxI {a b : Nat} (ha : a < 2 ^ 31) (hb : b < 2 ^ 31) : (if nI a < nI b then nI b else nI a) = nI (max a b) := by
  by_cases q : a < b
  · rw [if_pos (nI_lt q hb), Nat.max_eq_right (by omega)]
  · rw [if_neg (nI_nlt (by omega) ha), Nat.max_eq_left (by omega)]
theorem mnI {a b : Nat} (ha : a < 2 ^ 31) (hb : b < 2 ^ 31) : (if nI b < nI a then nI b else nI a) = nI (min a b) := by
  by_cases q : b < a
  · rw [if_pos (nI_lt q ha), Nat.min_eq_right (by omega)]
  · rw [if_neg (nI_nlt (by omega) hb), Nat.min_eq_left (by omega)]
theorem setI_only {h : AH} {a : Nat} {g : Nat → Int32} : OnlyI (fun x => x = a) h (setI h a g) := ⟨rfl, rfl, rfl, rfl, rfl, rfl, fun x hx => by rw [hI_setI, if_neg hx]⟩
theorem LO_99 {n : Nat} {P : Nat → Nat} {nd wi w : Nat} : ∀ k made, LO n P nd wi w k made ≤ 99 := by
  intro k made
  cases k with
  | zero => exact Nat.zero_le _
  | succ k =>
    show (List.range n).foldl _ 99 ≤ 99
    rw [lo_fold]
    exact Or.inl (Nat.le_refl _)
section Least
variable {h : AH} {kn n nd wi w made lr pr best : Nat} {P U : Nat → Nat} {Q : Option Value → AH → Prop}
theorem s35 (hx : NetO h kn n P nd wi U) (ok : NdOK n P nd wi U) (hm : made < 65536) (k1 : Dwn n P nd made → Q (some (.int 1)) h) (k2 : ¬ Dwn n P nd made → Q (some (.int 0)) h) : WPM 35 [.ref kn, .int (nI made)] h Q := by
  obtain ⟨⟨hf, h0, hn, hP⟩, h2, h3, hU⟩ := hx
  obtain ⟨s1, s2, s3, s4, s5⟩ := ok.sm
  rw [we35]
  by_cases q : nd &&& made = made
  · have q' : nI nd &&& nI made = nI made := by rw [nI_and, q]
    have lp : ∀ d y, n - y = d → y ≤ n → (∀ x, x < y → made.testBit x = true → sub (P x) made) → WP 35 15 [.ref kn, .int (nI made), .int (nI y)] [] h Q := by
      intro d
      induction d with
      | zero =>
        intro y hd hy hno
        have hle : nI n ≤ nI y := nI_le (by omega) (by omega)
        rw [w35_15]
        simp only [w35, hf, h0, hle, true_or, or_true, true_implies, not_true_eq_false, false_implies, and_true]
        exact k1 ⟨sub_and.mpr q, fun x hx' => hno x (by omega)⟩
      | succ d ih =>
        intro y hd hy hno
        have hyn : y < n := by omega
        have hle : ¬ nI n ≤ nI y := nI_ge (by omega) (by omega)
        have c1 : (nI y).toNatClampNeg = y := nI_clamp (by omega)
        have i1 : inb (nI y) 14 = true := inb_nI (by omega) (by decide)
        have hPy := hP y hyn
        have hPs := (s5 y hyn).1
        have hb : nI made >>> (nI y &&& 31) &&& 1 = nI (if made.testBit y = true then 1 else 0) := nI_shr_bit (by omega) (by omega)
        have hab : made &&& P y < 2 ^ 31 := Nat.lt_of_le_of_lt Nat.and_le_left (by omega)
        have more : (made.testBit y = true → sub (P y) made) → WP 35 15 [.ref kn, .int (nI made), .int (nI (y + 1))] [] h Q := fun hh => ih (y + 1) (by omega) (by omega) fun x hx' hb' => by
          rcases Nat.lt_or_ge x y with z | z
          · exact hno x z hb'
          · have : x = y := by omega
            subst this
            exact hh hb'
        rw [w35_15]
        cases qm : made.testBit y with
        | false =>
          rw [qm] at hb
          simp only [w35, hf, h0, hle, s140, hb, if_false, Bool.false_eq_true, show ¬ (nI 0 = 1) from by decide, Option.toList_some, List.cons_append, List.nil_append, true_implies, not_true_eq_false, not_false_eq_true, false_implies, and_true, true_and, nI_1]
          exact more (fun z => by rw [qm] at z; cases z)
        | true =>
          rw [qm] at hb
          by_cases q2 : made &&& P y = P y
          · have q2' : nI made &&& nI (P y) = nI (P y) := by rw [nI_and, q2]
            simp only [w35, hf, h0, hle, s140, s141, hb, hPy, c1, i1, q2', i32_10, if_true, show (nI 1 = 1) from rfl, Option.toList_some, List.cons_append, List.nil_append, true_or, or_true, true_implies, not_true_eq_false, not_false_eq_true, false_implies, and_true, true_and, nI_1]
            exact more (fun _ => sub_and.mpr q2)
          · have q2' : ¬ nI made &&& nI (P y) = nI (P y) := fun z => by rw [nI_and] at z; exact q2 (nI_inj hab (by omega) z)
            simp only [w35, hf, h0, hle, s140, s141, hb, hPy, c1, i1, q2', if_true, if_false, show (nI 1 = 1) from rfl, Option.toList_some, List.cons_append, List.nil_append, true_or, or_true, true_implies, not_true_eq_false, not_false_eq_true, false_implies, and_true, true_and, nI_1]
            exact k2 fun z => q2 (sub_and.mp (z.2 y hyn qm))
    simp only [w35, hf, h3, s141, q', if_true, i32_10, Option.toList_some, List.cons_append, List.nil_append, true_implies, not_true_eq_false, not_false_eq_true, false_implies, and_true, true_and]
    exact lp n 0 rfl (Nat.zero_le _) (fun x hx' => absurd hx' (Nat.not_lt_zero _))
  · have hab : nd &&& made < 2 ^ 31 := Nat.lt_of_le_of_lt Nat.and_le_left (by omega)
    have q' : ¬ nI nd &&& nI made = nI made := fun z => by rw [nI_and] at z; exact q (nI_inj hab (by omega) z)
    simp only [w35, hf, h3, s141, q', if_false, Option.toList_some, List.cons_append, List.nil_append, true_or, or_true, true_implies, not_true_eq_false, not_false_eq_true, false_implies, and_true, true_and]
    exact k2 fun z => q (sub_and.mp z.1)
theorem or_le {x : Nat} (ok : NdOK n P nd wi U) (d : Dwn n P nd made) (hmc : mayC P nd made x = true) : made ||| 2 ^ x ≤ nd := sub_le (d.add hmc).1
/-- leastFrom, the loop: the heap stays -/
theorem least_l (hx : NetO h kn n P nd wi U) (ok : NdOK n P nd wi U) (hw : w < 2) (h60 : hT h 60 = 5) (hd : Dwn n P nd made) (lk : LKd h n P nd wi U made) (hr1 : hR h 60 1 = lr) (hrT : hT h lr = 100) (hrL : nd < hL h lr ∧ hL h lr ≤ 65536) {f : Nat → Nat} (hf9 : ∀ s, f s ≤ 99) (hv : ∀ x, x < n → mayC P nd made x = true → hI h lr (made ||| 2 ^ x) = nI (f (made ||| 2 ^ x)))
    (k : Q (some (.int (nI ((List.range n).foldl (loStep n P nd wi w made f) 99)))) h) :
    ∀ d y, n - y = d → y ≤ n → WP 36 23 [.ref 60, .ref kn, .int (nI w), .int (nI made), .int (nI ((List.range y).foldl (loStep n P nd wi w made f) 99)), .int (nI y)] [] h Q := by
  obtain ⟨⟨hf, h0, hn, hP⟩, h2, h3, hU⟩ := id hx
  obtain ⟨s1, s2, s3, s4, s5⟩ := ok.sm
  have hmd : made < 65536 := by have := sub_le hd.1; omega
  intro d
  induction d with
  | zero =>
    intro y hd' hy
    have hle : nI n ≤ nI y := nI_le (by omega) (by omega)
    have : y = n := by omega
    subst this
    rw [w36_23]
    simp only [w36_a, w36_b, hf, h0, hle, true_implies, not_true_eq_false, false_implies, and_true]
    exact k
  | succ d ih =>
    intro y hd' hy
    have hyn : y < n := by omega
    have hle : ¬ nI n ≤ nI y := nI_ge (by omega) (by omega)
    have hpw : (1 : Int32) <<< (nI y &&& 31) = nI (2 ^ y) := nI_pow y (by omega)
    have e1 : (List.range (y + 1)).foldl (loStep n P nd wi w made f) 99 = loStep n P nd wi w made f ((List.range y).foldl (loStep n P nd wi w made f) 99) y := by rw [List.range_succ, List.foldl_append]; rfl
    have hb9 : (List.range y).foldl (loStep n P nd wi w made f) 99 ≤ 99 := lo_fold _ _ |>.mpr (Or.inl (Nat.le_refl _))
    have hgo := ih (y + 1) (by omega) (by omega)
    rw [e1] at hgo
    generalize (List.range y).foldl (loStep n P nd wi w made f) 99 = bst at hgo hb9 ⊢
    rw [w36_23]
    by_cases q : mayC P nd made y = true
    · have hor := or_le ok hd q
      have hvy := hv y hyn q
      have hn9 : ndB n P nd wi w made y ≤ n + 1 := ndB_le
      have hf8 := hf9 (made ||| 2 ^ y)
      have c1 : (nI (made ||| 2 ^ y)).toNatClampNeg = made ||| 2 ^ y := nI_clamp (by omega)
      have i1 : inb (nI (made ||| 2 ^ y)) (hL h lr) = true := inb_nI (by omega) (by omega)
      have m1 := mxI (a := ndB n P nd wi w made y) (b := f (made ||| 2 ^ y)) (by omega) (by omega)
      have m2 := mnI (a := bst) (b := max (ndB n P nd wi w made y) (f (made ||| 2 ^ y))) (by omega) (by omega)
      have e2 : loStep n P nd wi w made f bst y = min bst (max (ndB n P nd wi w made y) (f (made ||| 2 ^ y))) := by unfold loStep; rw [if_pos q]
      rw [e2] at hgo
      simp only [w36_a, w36_b, hf, h0, h60, hle, s41 hx ok hyn hmd, if_pos q, i32_10, s43 hx ok hyn hw h60 lk q, hpw, nI_or, hr1, hrT, c1, i1, hvy, m1, m2, Option.toList_some, List.cons_append, List.nil_append, true_or, or_true, true_implies, not_true_eq_false, not_false_eq_true, false_implies, and_true, true_and, nI_1]
      exact hgo
    · have e2 : loStep n P nd wi w made f bst y = bst := by unfold loStep; rw [if_neg q]
      rw [e2] at hgo
      simp only [w36_a, w36_b, hf, h0, hle, s41 hx ok hyn hmd, if_neg q, Option.toList_some, List.cons_append, List.nil_append, true_or, or_true, true_implies, not_true_eq_false, not_false_eq_true, false_implies, and_true, true_and, nI_1]
      exact hgo
theorem s36 (hx : NetO h kn n P nd wi U) (ok : NdOK n P nd wi U) (hw : w < 2) (hkn : kn + 10 < 36) (h60 : hT h 60 = 5) (hd : Dwn n P nd made) (hr1 : hR h 60 1 = lr) (hrT : hT h lr = 100) (hrL : nd < hL h lr ∧ hL h lr ≤ 65536) (hlr : lr ≠ 60) (hv : ∀ x, x < n → mayC P nd made x = true → hI h lr (made ||| 2 ^ x) = nI (LO n P nd wi w (rk nd (made ||| 2 ^ x)) (made ||| 2 ^ x)))
    (k : ∀ g, (∀ j, j ≠ 3 → j ≠ 4 → g j = hI h 60 j) → Q (some (.int (nI (LO n P nd wi w (rk nd made) made)))) (setI h 60 g)) : WPM 36 [.ref 60, .ref kn, .int (nI w), .int (nI made)] h Q := by
  obtain ⟨s1, s2, s3, s4, s5⟩ := ok.sm
  have hmd : made < 65536 := by have := sub_le hd.1; omega
  have hf := hx.1.1
  have h3 := hx.2.2.1
  rw [we36]
  by_cases q : made = nd
  · subst q
    have e0 : rk made made = 0 := (rk_zero (by omega) hd).mpr rfl
    rw [e0] at k
    have := k (hI h 60) (fun _ _ _ => rfl)
    rw [setI_id] at this
    simp only [w36_a, w36_b, hf, h3, true_or, or_true, true_implies, not_true_eq_false, not_false_eq_true, false_implies, and_true, true_and]
    exact this
  · have q' : ¬ nI made = nI nd := fun z => q (nI_inj (by omega) (by omega) z)
    simp only [w36_a, w36_b, hf, h3, h60, q', true_implies, not_true_eq_false, not_false_eq_true, false_implies, and_true, true_and]
    refine s42 hx ok hmd hkn h60 fun g hg lk => ?_
    have hx' : NetO (setI h 60 g) kn n P nd wi U := NetO.only setI_only (fun a a1 a2 => by omega) hx
    have hr : rk nd made ≠ 0 := fun z => q ((rk_zero (by omega) hd).mp z)
    obtain ⟨kk, hkk⟩ : ∃ kk, rk nd made = kk + 1 := ⟨rk nd made - 1, by omega⟩
    rw [hkk] at k
    simp only [w36_a, w36_b, Option.toList_none, List.nil_append]
    refine least_l (f := LO n P nd wi w kk) hx' ok hw h60 hd lk hr1 hrT hrL (fun s => LO_99 _ _) (fun x hx9 hmc => ?_) (k g hg) n 0 rfl (Nat.zero_le _)
    have := rk_add hmc (by omega)
    rw [hI_setI, if_neg hlr, hv x hx9 hmc, show rk nd (made ||| 2 ^ x) = kk by omega]
/-- pathsFrom -/
theorem paths_l (hx : NetO h kn n P nd wi U) (ok : NdOK n P nd wi U) (hw : w < 2) (hbest : best < 2 ^ 31) (h60 : hT h 60 = 5) (hd : Dwn n P nd made) (lk : LKd h n P nd wi U made) (hr2 : hR h 60 2 = pr) (hrT : hT h pr = 103) (hrL : nd < hL h pr ∧ hL h pr ≤ 65536) {f : Nat → Nat} (hv : ∀ x, x < n → mayC P nd made x = true → hJ h pr (made ||| 2 ^ x) = lN (f (made ||| 2 ^ x)))
    (k : Q (some (.long (lN (sm (fun x => if mayC P nd made x = true ∧ ndB n P nd wi w made x ≤ best then f (made ||| 2 ^ x) else 0) n)))) h) :
    ∀ d y, n - y = d → y ≤ n → WP 37 22 [.ref 60, .ref kn, .int (nI w), .int (nI made), .int (nI best), .long (lN (sm (fun x => if mayC P nd made x = true ∧ ndB n P nd wi w made x ≤ best then f (made ||| 2 ^ x) else 0) y)), .retAddr 0, .int (nI y)] [] h Q := by
  obtain ⟨⟨hf, h0, hn, hP⟩, h2, h3, hU⟩ := id hx
  obtain ⟨s1, s2, s3, s4, s5⟩ := ok.sm
  have hmd : made < 65536 := by have := sub_le hd.1; omega
  intro d
  induction d with
  | zero =>
    intro y hd' hy
    have hle : nI n ≤ nI y := nI_le (by omega) (by omega)
    have : y = n := by omega
    subst this
    rw [w37_22]
    simp only [w37_a, w37_b, hf, h0, hle, true_implies, not_true_eq_false, false_implies, and_true]
    exact k
  | succ d ih =>
    intro y hd' hy
    have hyn : y < n := by omega
    have hle : ¬ nI n ≤ nI y := nI_ge (by omega) (by omega)
    have hpw : (1 : Int32) <<< (nI y &&& 31) = nI (2 ^ y) := nI_pow y (by omega)
    have hgo := ih (y + 1) (by omega) (by omega)
    have e1 : ∀ g : Nat → Nat, sm g (y + 1) = sm g y + g y := fun g => rfl
    rw [e1] at hgo
    generalize sm (fun x => if mayC P nd made x = true ∧ ndB n P nd wi w made x ≤ best then f (made ||| 2 ^ x) else 0) y = acc at hgo ⊢
    rw [w37_22]
    by_cases q : mayC P nd made y = true
    · have hor := or_le ok hd q
      have hvy := hv y hyn q
      have hn9 : ndB n P nd wi w made y ≤ n + 1 := ndB_le
      have c1 : (nI (made ||| 2 ^ y)).toNatClampNeg = made ||| 2 ^ y := nI_clamp (by omega)
      have i1 : inb (nI (made ||| 2 ^ y)) (hL h pr) = true := inb_nI (by omega) (by omega)
      by_cases q2 : ndB n P nd wi w made y ≤ best
      · have hlt : ¬ nI best < nI (ndB n P nd wi w made y) := nI_nlt q2 hbest
        rw [if_pos ⟨q, q2⟩] at hgo
        simp only [w37_a, w37_b, hf, h0, h60, hle, s41 hx ok hyn hmd, if_pos q, i32_10, s43 hx ok hyn hw h60 lk q, hlt, hpw, nI_or, hr2, hrT, c1, i1, hvy, lN_add, Option.toList_some, List.cons_append, List.nil_append, true_or, or_true, true_implies, not_true_eq_false, not_false_eq_true, false_implies, and_true, true_and, nI_1]
        exact hgo
      · have hlt : nI best < nI (ndB n P nd wi w made y) := nI_lt (by omega) (by omega)
        rw [if_neg (fun z => q2 z.2), Nat.add_zero] at hgo
        simp only [w37_a, w37_b, hf, h0, h60, hle, s41 hx ok hyn hmd, if_pos q, i32_10, s43 hx ok hyn hw h60 lk q, hlt, Option.toList_some, List.cons_append, List.nil_append, true_or, or_true, true_implies, not_true_eq_false, not_false_eq_true, false_implies, and_true, true_and, nI_1]
        exact hgo
    · rw [if_neg (fun z => q z.1), Nat.add_zero] at hgo
      simp only [w37_a, w37_b, hf, h0, hle, s41 hx ok hyn hmd, if_neg q, Option.toList_some, List.cons_append, List.nil_append, true_or, or_true, true_implies, not_true_eq_false, not_false_eq_true, false_implies, and_true, true_and, nI_1]
      exact hgo
theorem s37 (hx : NetO h kn n P nd wi U) (ok : NdOK n P nd wi U) (hw : w < 2) (hbest : best < 2 ^ 31) (hkn : kn + 10 < 36) (h60 : hT h 60 = 5) (hd : Dwn n P nd made) (hr2 : hR h 60 2 = pr) (hrT : hT h pr = 103) (hrL : nd < hL h pr ∧ hL h pr ≤ 65536) (hv : ∀ x, x < n → mayC P nd made x = true → hJ h pr (made ||| 2 ^ x) = lN (PO n P nd wi w best (rk nd (made ||| 2 ^ x)) (made ||| 2 ^ x)))
    (k : ∀ g, (∀ j, j ≠ 3 → j ≠ 4 → g j = hI h 60 j) → Q (some (.long (lN (PO n P nd wi w best (rk nd made) made)))) (setI h 60 g)) : WPM 37 [.ref 60, .ref kn, .int (nI w), .int (nI made), .int (nI best)] h Q := by
  obtain ⟨s1, s2, s3, s4, s5⟩ := ok.sm
  have hmd : made < 65536 := by have := sub_le hd.1; omega
  have hf := hx.1.1
  have h3 := hx.2.2.1
  rw [we37]
  by_cases q : made = nd
  · subst q
    have e0 : rk made made = 0 := (rk_zero (by omega) hd).mpr rfl
    rw [e0] at k
    have := k (hI h 60) (fun _ _ _ => rfl)
    rw [setI_id] at this
    simp only [w37_a, w37_b, hf, h3, true_or, or_true, true_implies, not_true_eq_false, not_false_eq_true, false_implies, and_true, true_and]
    exact this
  · have q' : ¬ nI made = nI nd := fun z => q (nI_inj (by omega) (by omega) z)
    simp only [w37_a, w37_b, hf, h3, h60, q', true_implies, not_true_eq_false, not_false_eq_true, false_implies, and_true, true_and]
    refine s42 hx ok hmd hkn h60 fun g hg lk => ?_
    have hx' : NetO (setI h 60 g) kn n P nd wi U := NetO.only setI_only (fun a a1 a2 => by omega) hx
    have hr : rk nd made ≠ 0 := fun z => q ((rk_zero (by omega) hd).mp z)
    obtain ⟨kk, hkk⟩ : ∃ kk, rk nd made = kk + 1 := ⟨rk nd made - 1, by omega⟩
    rw [hkk] at k
    simp only [w37_a, w37_b, Option.toList_none, List.nil_append]
    refine paths_l (f := PO n P nd wi w best kk) hx' ok hw hbest h60 hd lk hr2 hrT hrL (fun x hx9 hmc => ?_) (k g hg) n 0 rfl (Nat.zero_le _)
    have := rk_add hmc (by omega)
    show hJ h pr (made ||| 2 ^ x) = _
    rw [hv x hx9 hmc, show rk nd (made ||| 2 ^ x) = kk by omega]
/-- firstFrom -/
theorem s39 {kk : Nat} (hx : NetO h kn n P nd wi U) (ok : NdOK n P nd wi U) (hw : w < 2) (hbest : best < 2 ^ 31) (hkn : kn + 10 < 36) (h60 : hT h 60 = 5) (hd : Dwn n P nd made) (hkk : rk nd made = kk + 1) (hr2 : hR h 60 2 = pr) (hrT : hT h pr = 103) (hrL : nd < hL h pr ∧ hL h pr ≤ 65536) (hv : ∀ x, x < n → mayC P nd made x = true → hJ h pr (made ||| 2 ^ x) = lN (PO n P nd wi w best kk (made ||| 2 ^ x)))
    (k1 : ∀ g x, (∀ j, j ≠ 3 → j ≠ 4 → g j = hI h 60 j) → (List.range n).find? (foP n P nd wi w best kk made) = some x → x < n → Q (some (.int (nI x))) (setI h 60 g)) (k2 : ∀ g, (∀ x, x < n → foP n P nd wi w best kk made x = false) → Q (some (.int (-1))) (setI h 60 g)) : WPM 39 [.ref 60, .ref kn, .int (nI w), .int (nI made), .int (nI best)] h Q := by
  obtain ⟨s1, s2, s3, s4, s5⟩ := ok.sm
  have hmd : made < 65536 := by have := sub_le hd.1; omega
  have hkk9 : kk ≤ 16 := by have := pc_le (sdf nd made); unfold rk at hkk; omega
  have h14 : (14 : Nat) ^ kk ≤ 14 ^ 16 := Nat.pow_le_pow_right (by decide) hkk9
  rw [we39]
  simp only [w39, h60]
  refine s42 hx ok hmd hkn h60 fun g hg lk => ?_
  have hx' : NetO (setI h 60 g) kn n P nd wi U := NetO.only setI_only (fun a a1 a2 => by omega) hx
  obtain ⟨⟨hf, h0, hn, hP⟩, h2, h3, hU⟩ := id hx'
  simp only [w39, Option.toList_none, List.nil_append]
  have lp : ∀ d y, n - y = d → y ≤ n → (∀ x, x < y → foP n P nd wi w best kk made x = false) → WP 39 9 [.ref 60, .ref kn, .int (nI w), .int (nI made), .int (nI best), .int (nI y)] [] (setI h 60 g) Q := by
    intro d
    induction d with
    | zero =>
      intro y hd' hy hno
      have hle : nI n ≤ nI y := nI_le (by omega) (by omega)
      rw [w39_9]
      simp only [w39, hf, h0, hle, true_or, or_true, true_implies, not_true_eq_false, false_implies, and_true]
      exact k2 g fun x hx9 => hno x (by omega)
    | succ d ih =>
      intro y hd' hy hno
      have hyn : y < n := by omega
      have hle : ¬ nI n ≤ nI y := nI_ge (by omega) (by omega)
      have hpw : (1 : Int32) <<< (nI y &&& 31) = nI (2 ^ y) := nI_pow y (by omega)
      have more : foP n P nd wi w best kk made y = false → WP 39 9 [.ref 60, .ref kn, .int (nI w), .int (nI made), .int (nI best), .int (nI (y + 1))] [] (setI h 60 g) Q := fun hh => ih (y + 1) (by omega) (by omega) fun x hx9 => by
        rcases Nat.lt_or_ge x y with z | z
        · exact hno x z
        · have : x = y := by omega
          rw [this]
          exact hh
      rw [w39_9]
      by_cases q : mayC P nd made y = true
      · have hor := or_le ok hd q
        have hvy : hJ (setI h 60 g) pr (made ||| 2 ^ y) = lN (PO n P nd wi w best kk (made ||| 2 ^ y)) := hv y hyn q
        have hn9 : ndB n P nd wi w made y ≤ n + 1 := ndB_le
        have c1 : (nI (made ||| 2 ^ y)).toNatClampNeg = made ||| 2 ^ y := nI_clamp (by omega)
        have i1 : inb (nI (made ||| 2 ^ y)) (hL h pr) = true := inb_nI (by omega) (by omega)
        have hs1 := hs_setI h 60 g
        have hPle := PO_le (nd := nd) (wi := wi) (w := w) (best := best) (P := P) s1 kk (made ||| 2 ^ y)
        by_cases q2 : ndB n P nd wi w made y ≤ best
        · have hlt : ¬ nI best < nI (ndB n P nd wi w made y) := nI_nlt q2 hbest
          by_cases q3 : 0 < PO n P nd wi w best kk (made ||| 2 ^ y)
          · have hcm : ¬ lg_cmp (lN (PO n P nd wi w best kk (made ||| 2 ^ y))) 0 ≤ 0 := by
              have : lN 0 < lN (PO n P nd wi w best kk (made ||| 2 ^ y)) := by
                rw [Int64.lt_iff_toInt_lt, lN_toI (by omega), show (lN (PO n P nd wi w best kk (made ||| 2 ^ y))).toInt = _ from lg_ofNat_toInt (by omega)]
                omega
              unfold lg_cmp
              rw [if_pos (show lN (PO n P nd wi w best kk (made ||| 2 ^ y)) > 0 from this)]
              decide
            have hfo : foP n P nd wi w best kk made y = true := by
              unfold foP
              rw [q, decide_eq_true q2, decide_eq_true q3]
              rfl
            simp only [w39, hf, h0, h60, hle, hs1, s41 hx' ok hyn hmd, if_pos q, i32_10, s43 hx' ok hyn hw h60 lk q, hlt, hpw, nI_or, hr2, hrT, c1, i1, hvy, hcm, Option.toList_some, List.cons_append, List.nil_append, true_or, or_true, true_implies, not_true_eq_false, not_false_eq_true, false_implies, and_true, true_and, nI_1]
            refine k1 g y hg ?_ hyn
            rw [List.find?_eq_some_iff_getElem]
            refine ⟨hfo, y, by rw [List.length_range]; exact hyn, List.getElem_range _, fun j hj => ?_⟩
            rw [List.getElem_range, hno j hj]
            rfl
          · have hz : PO n P nd wi w best kk (made ||| 2 ^ y) = 0 := by omega
            have hcm : lg_cmp (lN (PO n P nd wi w best kk (made ||| 2 ^ y))) 0 ≤ 0 := by
              rw [hz]
              decide
            have hfo : foP n P nd wi w best kk made y = false := by
              unfold foP
              rw [decide_eq_false q3, Bool.and_false]
            simp only [w39, hf, h0, h60, hle, hs1, s41 hx' ok hyn hmd, if_pos q, i32_10, s43 hx' ok hyn hw h60 lk q, hlt, hpw, nI_or, hr2, hrT, c1, i1, hvy, hcm, Option.toList_some, List.cons_append, List.nil_append, true_or, or_true, true_implies, not_true_eq_false, not_false_eq_true, false_implies, and_true, true_and, nI_1]
            exact more hfo
        · have hlt : nI best < nI (ndB n P nd wi w made y) := nI_lt (by omega) (by omega)
          have hfo : foP n P nd wi w best kk made y = false := by
            unfold foP
            rw [decide_eq_false q2, Bool.and_false, Bool.false_and]
          simp only [w39, hf, h0, h60, hle, hs1, s41 hx' ok hyn hmd, if_pos q, i32_10, s43 hx' ok hyn hw h60 lk q, hlt, Option.toList_some, List.cons_append, List.nil_append, true_or, or_true, true_implies, not_true_eq_false, not_false_eq_true, false_implies, and_true, true_and, nI_1]
          exact more hfo
      · have hfo : foP n P nd wi w best kk made y = false := by
          unfold foP
          rw [Bool.eq_false_iff.mpr q]
          rfl
        simp only [w39, hf, h0, hle, s41 hx' ok hyn hmd, if_neg q, Option.toList_some, List.cons_append, List.nil_append, true_or, or_true, true_implies, not_true_eq_false, not_false_eq_true, false_implies, and_true, true_and, nI_1]
        exact more hfo
  exact lp n 0 rfl (Nat.zero_le _) (fun x hx9 => absurd hx9 (Nat.not_lt_zero _))
end Least

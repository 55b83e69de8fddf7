/-! ===== Tokens: readRun, advance, start, tooLong ===== -/
section Adv
variable {h : AH} {len : Nat} {Q : Option Value → AH → Prop}
theorem s94 {g : Nat → Int32} (t1 : hT h 27 = 11) (h2 : g 2 = nI len) (hl : len ≤ 540) : WPM 94 [.ref 27] (setI h 27 g) Q ↔ Q (some (.int (if 500 < len then 1 else 0))) (setI h 27 g) := by
  have hs1 := hs_setI h 27 g
  have e27 : hI (setI h 27 g) 27 = g := by rw [hI_setI, if_pos rfl]
  by_cases q : 500 < len
  · have c : ¬ nI len ≤ 500 := nI_ge (a := 500) q (by omega)
    rw [if_pos q]
    simp only [we94, w94, hs1, e27, t1, h2, c, true_or, or_true, true_implies, not_true_eq_false, not_false_eq_true, false_implies, and_true, true_and]
  · have c : nI len ≤ 500 := nI_le (b := 500) (by omega) (by decide)
    rw [if_neg q]
    simp only [we94, w94, hs1, e27, t1, h2, c, true_or, or_true, true_implies, not_true_eq_false, not_false_eq_true, false_implies, and_true, true_and]
theorem s93 (t1 : hT h 27 = 11) (t6 : hT h 3 = 101 ∧ hL h 3 = 540) (hl : len ≤ 540) : WPM 93 [.ref 27, .ref 3, .int (nI len)] h Q ↔ Q none (sI (sI (sR h 27 1 3) 27 2 (nI len)) 27 3 0) := by
  have m1 : (if nI 540 < nI len then nI 540 else nI len) = nI len := if_neg (nI_nlt hl (by decide))
  have e1 : hT (sR h 27 1 3) = hT h := rfl
  have e2 : hL (sR h 27 1 3) = hL h := rfl
  simp only [we93, w93, t1, t6, e1, e2, hs_sI, m1, true_or, or_true]
/-- what advance leaves: kind, place, value, at -/
def TkS (g g' : Nat → Int32) (r : Nat × Nat × Nat × Nat) : Prop := g' 2 = g 2 ∧ g' 3 = nI r.2.2.2 ∧ g' 4 = nI r.1 ∧ g' 5 = nI r.2.1 ∧ (r.1 ≤ 8 → g' 6 = nI r.2.2.1)
/-- the run from a on -/
def rnT (t : Nat → Int32) (len a : Nat) : Nat × Nat × Nat × Nat := if (rn t (len - a) a).2.2 = 0 ∧ (rn t (len - a) a).2.1 ≤ 6 then (kOf (wv t (rn t (len - a) a).2.1 a 0), a, wv t (rn t (len - a) a).2.1 a 0, (rn t (len - a) a).1) else if (rn t (len - a) a).2.1 = 0 ∧ (rn t (len - a) a).2.2 ≤ 2 then (8, a, nv t (rn t (len - a) a).2.2 a 0, (rn t (len - a) a).1) else (11, a, 0, (rn t (len - a) a).1)
theorem kOf_le (v : Nat) : kOf v ≤ 7 := by
  unfold kOf
  have : ∀ d k j, fnd kwf v k d = some j → j < k + d := by
    intro d
    induction d with
    | zero => intro k j h; cases h
    | succ d ih =>
      intro k j h
      change (if kwf k = v then some k else fnd kwf v (k + 1) d) = some j at h
      split at h
      · cases h; omega
      · have := ih (k + 1) j h
        omega
  cases q : fnd kwf v 0 7 with
  | none => exact Nat.le_refl _
  | some j =>
    have := this 7 0 j q
    show j ≤ 7
    omega
theorem s96 {g : Nat → Int32} {a : Nat} (x : TkX h) (h2 : g 2 = nI len) (h3 : g 3 = nI a) (h5 : g 5 = nI a) (ha : a ≤ len) (hl : len ≤ 540) (k : ∀ g', TkS g g' (rnT (hI h 3) len a) → Q none (setI h 27 g')) : WPM 96 [.ref 27] (setI h 27 g) Q := by
  obtain ⟨t1, t2, t3, t4, t5, t6, t7, t8⟩ := id x
  have hs1 := hs_setI h 27
  have e27 : ∀ g, hI (setI h 27 g) 27 = g := fun g => by rw [hI_setI, if_pos rfl]
  have e3 : ∀ g, hI (setI h 27 g) 3 = hI h 3 := fun g => by rw [hI_setI, if_neg (by decide)]
  obtain ⟨R, hR⟩ : ∃ R, R = rn (hI h 3) (len - a) a := ⟨_, rfl⟩
  have hsum := rn_sum (hI h 3) (len - a) a
  have hall := rn_all (hI h 3) (len - a) a
  rw [← hR] at hsum hall
  -- behind the loop
  have fin : ∀ g1, (∀ j, j ≠ 3 → g1 j = g j) → g1 3 = nI R.1 → WP 96 83 [.ref 27, .int (nI R.2.1), .int (nI R.2.2)] [.int (nI R.2.2)] (setI h 27 g1) Q := fun g1 hg1 hg3 => by
    have h5' : g1 5 = nI a := (hg1 5 (by decide)).trans h5
    have ek : rnT (hI h 3) len a = if R.2.2 = 0 ∧ R.2.1 ≤ 6 then (kOf (wv (hI h 3) R.2.1 a 0), a, wv (hI h 3) R.2.1 a 0, R.1) else if R.2.1 = 0 ∧ R.2.2 ≤ 2 then (8, a, nv (hI h 3) R.2.2 a 0, R.1) else (11, a, 0, R.1) := by unfold rnT; rw [← hR]
    rw [ek] at k
    have bad : ¬ (R.2.2 = 0 ∧ R.2.1 ≤ 6) → ¬ (R.2.1 = 0 ∧ R.2.2 ≤ 2) → Q none (setI h 27 (va_up g1 4 11)) := fun q1 q2 => by
      rw [if_neg q1, if_neg q2] at k
      refine k _ ⟨by rw [up_at, if_neg (by decide)]; exact hg1 2 (by decide), by rw [up_at, if_neg (by decide)]; exact hg3, by rw [up_at, if_pos rfl]; rfl, by rw [up_at, if_neg (by decide)]; exact h5', fun z => absurd z (show ¬ (11 : Nat) ≤ 8 from by decide)⟩
    by_cases q1 : R.2.2 = 0
    · have z2 : nI R.2.2 = 0 := by rw [q1]; rfl
      by_cases q2 : R.2.1 ≤ 6
      · have c2 : ¬ (6 : Int32) < nI R.2.1 := nI_nlt (a := 6) q2 (by decide)
        rw [if_pos ⟨q1, q2⟩] at k
        have hw : wv (hI h 3) R.2.1 a 0 < 1 * 27 ^ R.2.1 := wv_lt R.2.1 a 0 1 (by decide) (fun i h1 h2' => hall.1 q1 i h1 (by omega))
        have hp : (27 : Nat) ^ R.2.1 ≤ 27 ^ 6 := Nat.pow_le_pow_right (by decide) q2
        have hwb : wv (hI h 3) R.2.1 a 0 < 2 ^ 31 := by omega
        have er : R.1 - a = R.2.1 := by omega
        simp only [w96_b, z2, c2, hs1, t1, true_implies, not_true_eq_false, not_false_eq_true, false_implies, and_true, true_and]
        refine s97 (a := a) (e := R.1) x h5' hg3 (by omega) (by omega) (hall.1 q1) ?_
        rw [er]
        simp only [w96_b, hs1, t1, sI_setI, e27, up_at, if_true, Option.toList_some, List.cons_append, List.nil_append]
        refine s99 x hwb ?_
        simp only [w96_b, hs1, t1, sI_setI, e27, Option.toList_some, List.cons_append, List.nil_append]
        refine k _ ⟨?_, ?_, ?_, ?_, fun _ => ?_⟩
        · rw [up_at, if_neg (by decide), up_at, if_neg (by decide)]; exact hg1 2 (by decide)
        · rw [up_at, if_neg (by decide), up_at, if_neg (by decide)]; exact hg3
        · rw [up_at, if_pos rfl]
        · rw [up_at, if_neg (by decide), up_at, if_neg (by decide)]; exact h5'
        · rw [up_at, if_neg (by decide), up_at, if_pos rfl]
      · have c2 : (6 : Int32) < nI R.2.1 := nI_lt (a := 6) (by omega) (by omega)
        have z1 : ¬ nI R.2.1 = 0 := nI_ne0 (by omega) (by omega)
        simp only [w96_b, z2, z1, c2, hs1, t1, sI_setI, true_implies, not_true_eq_false, not_false_eq_true, false_implies, and_true, true_and]
        exact bad (fun z => q2 z.2) (fun z => by omega)
    · have z2 : ¬ nI R.2.2 = 0 := nI_ne0 (by omega) (by omega)
      by_cases q3 : R.2.1 = 0
      · have z1 : nI R.2.1 = 0 := by rw [q3]; rfl
        by_cases q4 : R.2.2 ≤ 2
        · have c4 : ¬ (2 : Int32) < nI R.2.2 := nI_nlt (a := 2) q4 (by decide)
          rw [if_neg (fun z => q1 z.1), if_pos ⟨q3, q4⟩] at k
          have er : R.1 - a = R.2.2 := by omega
          simp only [w96_b, z2, z1, c4, hs1, t1, true_implies, not_true_eq_false, not_false_eq_true, false_implies, and_true, true_and]
          refine s98 (a := a) (e := R.1) x h5' hg3 (by omega) (by omega) (hall.2 q3) ?_
          rw [er]
          simp only [w96_b, hs1, t1, sI_setI, Option.toList_some, List.cons_append, List.nil_append]
          refine k _ ⟨?_, ?_, ?_, ?_, fun _ => ?_⟩
          · rw [up_at, if_neg (by decide), up_at, if_neg (by decide)]; exact hg1 2 (by decide)
          · rw [up_at, if_neg (by decide), up_at, if_neg (by decide)]; exact hg3
          · rw [up_at, if_pos rfl]; rfl
          · rw [up_at, if_neg (by decide), up_at, if_neg (by decide)]; exact h5'
          · rw [up_at, if_neg (by decide), up_at, if_pos rfl]
        · have c4 : (2 : Int32) < nI R.2.2 := nI_lt (a := 2) (by omega) (by omega)
          simp only [w96_b, z2, z1, c4, hs1, t1, sI_setI, true_implies, not_true_eq_false, not_false_eq_true, false_implies, and_true, true_and]
          exact bad (fun z => q1 z.1) (fun z => q4 z.2)
      · have z1 : ¬ nI R.2.1 = 0 := nI_ne0 (by omega) (by omega)
        simp only [w96_b, z2, z1, hs1, t1, sI_setI, true_implies, not_true_eq_false, not_false_eq_true, false_implies, and_true, true_and]
        exact bad (fun z => q1 z.1) (fun z => q3 z.1)
  have lp : ∀ d i nl nd g1, len - i = d → i ≤ len → (∀ j, j ≠ 3 → g1 j = g j) → g1 3 = nI i → R = ((rn (hI h 3) d i).1, nl + (rn (hI h 3) d i).2.1, nd + (rn (hI h 3) d i).2.2) → WP 96 4 [.ref 27, .int (nI nl), .int (nI nd)] [] (setI h 27 g1) Q := by
    intro d
    induction d with
    | zero =>
      intro i nl nd g1 hd hi hg1 hg3 hRi
      have hle : nI len ≤ nI i := nI_le (by omega) (by omega)
      have g2 : g1 2 = nI len := (hg1 2 (by decide)).trans h2
      have e : R = (i, nl, nd) := hRi
      have := fin g1 hg1 (by rw [e]; exact hg3)
      rw [e] at this
      rw [w96_4]
      simp only [w96_a, hs1, e27, t1, hg3, g2, hle, true_implies, not_true_eq_false, false_implies, and_true]
      exact this
    | succ d ih =>
      intro i nl nd g1 hd hi hg1 hg3 hRi
      have hle : ¬ nI len ≤ nI i := nI_ge (by omega) (by omega)
      have g2 : g1 2 = nI len := (hg1 2 (by decide)).trans h2
      have c1 : (nI i).toNatClampNeg = i := nI_clamp (by omega)
      have i1 : inb (nI i) 540 = true := inb_nI (by omega) (by decide)
      have es : rn (hI h 3) (d + 1) i = if isLB (hI h 3 i) = true then ((rn (hI h 3) d (i + 1)).1, (rn (hI h 3) d (i + 1)).2.1 + 1, (rn (hI h 3) d (i + 1)).2.2) else if isDB (hI h 3 i) = true then ((rn (hI h 3) d (i + 1)).1, (rn (hI h 3) d (i + 1)).2.1, (rn (hI h 3) d (i + 1)).2.2 + 1) else (i, 0, 0) := rfl
      rw [es] at hRi
      have go := fun nl nd => ih (i + 1) nl nd (va_up g1 3 (nI (i + 1))) (by omega) (by omega) (fun j hj => by rw [up_at, if_neg hj]; exact hg1 j hj) (by rw [up_at, if_pos rfl])
      rw [w96_4]
      by_cases q1 : isLB (hI h 3 i) = true
      · rw [if_pos q1] at hRi
        simp only [w96_a, hs1, e27, e3, t1, t3, t6, t7, hg3, g2, hle, c1, i1, s102, if_pos q1, i32_10, sI_setI, Option.toList_some, List.cons_append, List.nil_append, true_or, or_true, true_implies, not_true_eq_false, not_false_eq_true, false_implies, and_true, true_and, nI_1]
        exact go (nl + 1) nd (by rw [hRi]; dsimp only; congr 2; omega)
      · by_cases q2 : isDB (hI h 3 i) = true
        · rw [if_neg q1, if_pos q2] at hRi
          simp only [w96_a, hs1, e27, e3, t1, t3, t6, t7, hg3, g2, hle, c1, i1, s102, s103, if_neg q1, if_pos q2, i32_10, sI_setI, Option.toList_some, List.cons_append, List.nil_append, true_or, or_true, true_implies, not_true_eq_false, not_false_eq_true, false_implies, and_true, true_and, nI_1]
          exact go nl (nd + 1) (by rw [hRi]; dsimp only; congr 2; omega)
        · rw [if_neg q1, if_neg q2] at hRi
          have e : R = (i, nl, nd) := hRi
          have := fin g1 hg1 (by rw [e]; exact hg3)
          rw [e] at this
          simp only [w96_a, hs1, e27, e3, t1, t3, t6, t7, hg3, g2, hle, c1, i1, s102, s103, if_neg q1, if_neg q2, Option.toList_some, List.cons_append, List.nil_append, true_or, or_true, true_implies, not_true_eq_false, not_false_eq_true, false_implies, and_true, true_and]
          exact this
  rw [we96]
  simp only [w96_a]
  exact lp (len - a) a 0 0 g rfl ha (fun _ _ => rfl) h3 (by rw [hR, Nat.zero_add, Nat.zero_add])
theorem skB_le (t : Nat → Int32) : ∀ d a, a ≤ skB t d a ∧ skB t d a ≤ a + d := by
  intro d
  induction d with
  | zero => exact fun a => ⟨Nat.le_refl _, Nat.le_refl _⟩
  | succ d ih =>
    intro a
    have := ih (a + 1)
    show a ≤ (if isBB (t a) = true then skB t d (a + 1) else a) ∧ (if isBB (t a) = true then skB t d (a + 1) else a) ≤ a + (d + 1)
    split <;> omega
theorem s95 {g : Nat → Int32} {at0 : Nat} (x : TkX h) (h2 : g 2 = nI len) (h3 : g 3 = nI at0) (ha : at0 ≤ 541) (hl : len ≤ 540) (k : ∀ g', TkS g g' (tok (hI h 3) len at0) → Q none (setI h 27 g')) : WPM 95 [.ref 27] (setI h 27 g) Q := by
  obtain ⟨t1, t2, t3, t4, t5, t6, t7, t8⟩ := id x
  have hs1 := hs_setI h 27
  have e27 : ∀ g, hI (setI h 27 g) 27 = g := fun g => by rw [hI_setI, if_pos rfl]
  have e3 : ∀ g, hI (setI h 27 g) 3 = hI h 3 := fun g => by rw [hI_setI, if_neg (by decide)]
  have m1 := mnI (a := len) (b := 500) (by omega) (by decide)
  obtain ⟨lim, hlim⟩ : ∃ lim, lim = min len 500 := ⟨_, rfl⟩
  have hl5 : lim ≤ len ∧ lim ≤ 500 := by omega
  obtain ⟨a, hA⟩ : ∃ a, a = skB (hI h 3) (lim - at0) at0 := ⟨_, rfl⟩
  have hsk := skB_le (hI h 3) (lim - at0) at0
  have hk : tok (hI h 3) len at0 = if lim ≤ a then (10, lim, 0, a) else if hI h 3 a = 59 then (9, a, 0, a + 1) else if isLB (hI h 3 a) = true ∨ isDB (hI h 3 a) = true then rnT (hI h 3) len a else (11, a, 0, a) := by
    unfold tok rnT
    rw [← hlim, ← hA]
  rw [hk] at k
  -- behind the blanks
  have fin : ∀ g1, (∀ j, j ≠ 3 → g1 j = g j) → g1 3 = nI a → ((lim ≤ a ∨ ¬ isBB (hI h 3 a) = true)) → WP 95 11 [.ref 27, .int (nI lim)] [] (setI h 27 g1) Q := fun g1 hg1 hg3 hst => by
    have g2 : g1 2 = nI len := (hg1 2 (by decide)).trans h2
    rw [w95_11]
    by_cases q1 : lim ≤ a
    · have hle : nI lim ≤ nI a := nI_le q1 (by omega)
      have hlt : ¬ nI a < nI lim := nI_nlt q1 (by omega)
      rw [if_pos q1] at k
      simp only [w95_a, hs1, e27, t1, hg3, hle, hlt, sI_setI, true_implies, not_true_eq_false, not_false_eq_true, false_implies, and_true, true_and]
      refine k _ ⟨?_, ?_, ?_, ?_, fun z => absurd z (show ¬ (10 : Nat) ≤ 8 from by decide)⟩
      · rw [up_at, if_neg (by decide), up_at, if_neg (by decide)]; exact hg1 2 (by decide)
      · rw [up_at, if_neg (by decide), up_at, if_neg (by decide)]; exact hg3
      · rw [up_at, if_neg (by decide), up_at, if_pos rfl]; rfl
      · rw [up_at, if_pos rfl]
    · have hnb : ¬ isBB (hI h 3 a) = true := hst.resolve_left q1
      have hle : ¬ nI lim ≤ nI a := nI_ge (by omega) (by omega)
      have hlt : nI a < nI lim := nI_lt (by omega) (by omega)
      have c1 : (nI a).toNatClampNeg = a := nI_clamp (by omega)
      have i1 : inb (nI a) 540 = true := inb_nI (by omega) (by decide)
      have g53 : va_up g1 5 (nI a) 3 = nI a := by rw [up_at, if_neg (by decide)]; exact hg3
      rw [if_neg q1] at k
      by_cases q2 : hI h 3 a = 59
      · rw [if_pos q2] at k
        simp only [w95_a, w95_b, hs1, e27, e3, t1, t3, t6, t7, hg3, g53, hle, hlt, c1, i1, s101, if_neg hnb, if_neg (show ¬ isBB 59 = true from by decide), q2, sI_setI, up_at, if_true, if_false, show ¬ (3 = 4) from by decide, show ¬ (3 = 5) from by decide, Option.toList_some, List.cons_append, List.nil_append, true_or, or_true, true_implies, not_true_eq_false, not_false_eq_true, false_implies, and_true, true_and, nI_1]
        refine k _ ⟨?_, ?_, ?_, ?_, fun z => absurd z (show ¬ (9 : Nat) ≤ 8 from by decide)⟩
        · rw [up_at, if_neg (by decide), up_at, if_neg (by decide), up_at, if_neg (by decide)]; exact hg1 2 (by decide)
        · rw [up_at, if_pos rfl]
        · rw [up_at, if_neg (by decide), up_at, if_pos rfl]; rfl
        · rw [up_at, if_neg (by decide), up_at, if_neg (by decide), up_at, if_pos rfl]
      · rw [if_neg q2] at k
        have run : isLB (hI h 3 a) = true ∨ isDB (hI h 3 a) = true → ∀ g', TkS (va_up g1 5 (nI a)) g' (rnT (hI h 3) len a) → Q none (setI h 27 g') := fun q3 g' ts => by
          rw [if_pos q3] at k
          obtain ⟨u1, u2, u3, u4, u5⟩ := ts
          exact k g' ⟨by rw [u1, up_at, if_neg (by decide)]; exact hg1 2 (by decide), u2, u3, u4, u5⟩
        by_cases q3 : isLB (hI h 3 a) = true
        · simp only [w95_a, w95_b, hs1, e27, e3, t1, t3, t6, t7, hg3, g53, hle, hlt, c1, i1, s101, s102, if_neg hnb, if_pos q3, i32_10, q2, sI_setI, Option.toList_some, List.cons_append, List.nil_append, true_or, or_true, true_implies, not_true_eq_false, not_false_eq_true, false_implies, and_true, true_and]
          refine s96 x (by rw [up_at, if_neg (by decide)]; exact g2) g53 (by rw [up_at, if_pos rfl]) (by omega) hl fun g' ts => ?_
          simp only [w95_b, Option.toList_none, List.nil_append]
          exact run (Or.inl q3) g' ts
        · by_cases q4 : isDB (hI h 3 a) = true
          · simp only [w95_a, w95_b, hs1, e27, e3, t1, t3, t6, t7, hg3, g53, hle, hlt, c1, i1, s101, s102, s103, if_neg hnb, if_neg q3, if_pos q4, i32_10, q2, sI_setI, Option.toList_some, List.cons_append, List.nil_append, true_or, or_true, true_implies, not_true_eq_false, not_false_eq_true, false_implies, and_true, true_and]
            refine s96 x (by rw [up_at, if_neg (by decide)]; exact g2) g53 (by rw [up_at, if_pos rfl]) (by omega) hl fun g' ts => ?_
            simp only [w95_b, Option.toList_none, List.nil_append]
            exact run (Or.inr q4) g' ts
          · rw [if_neg (fun z => z.elim q3 q4)] at k
            simp only [w95_a, w95_b, hs1, e27, e3, t1, t3, t6, t7, hg3, g53, hle, hlt, c1, i1, s101, s102, s103, if_neg hnb, if_neg q3, if_neg q4, q2, sI_setI, Option.toList_some, List.cons_append, List.nil_append, true_or, or_true, true_implies, not_true_eq_false, not_false_eq_true, false_implies, and_true, true_and]
            refine k _ ⟨?_, ?_, ?_, ?_, fun z => absurd z (show ¬ (11 : Nat) ≤ 8 from by decide)⟩
            · rw [up_at, if_neg (by decide), up_at, if_neg (by decide)]; exact hg1 2 (by decide)
            · rw [up_at, if_neg (by decide)]; exact g53
            · rw [up_at, if_pos rfl]; rfl
            · rw [up_at, if_neg (by decide), up_at, if_pos rfl]
  have lp : ∀ d i g1, lim - i = d → i ≤ 541 → (∀ j, j ≠ 3 → g1 j = g j) → g1 3 = nI i → a = skB (hI h 3) d i → WP 95 11 [.ref 27, .int (nI lim)] [] (setI h 27 g1) Q := by
    intro d
    induction d with
    | zero =>
      intro i g1 hd hi hg1 hg3 hai
      have e : a = i := hai
      exact fin g1 hg1 (by rw [e]; exact hg3) (Or.inl (by omega))
    | succ d ih =>
      intro i g1 hd hi hg1 hg3 hai
      have es : skB (hI h 3) (d + 1) i = if isBB (hI h 3 i) = true then skB (hI h 3) d (i + 1) else i := rfl
      rw [es] at hai
      by_cases q : isBB (hI h 3 i) = true
      · rw [if_pos q] at hai
        have hle : ¬ nI lim ≤ nI i := nI_ge (by omega) (by omega)
        have c1 : (nI i).toNatClampNeg = i := nI_clamp (by omega)
        have i1 : inb (nI i) 540 = true := inb_nI (by omega) (by decide)
        rw [w95_11]
        simp only [w95_a, hs1, e27, e3, t1, t3, t6, t7, hg3, hle, c1, i1, s101, if_pos q, i32_10, sI_setI, Option.toList_some, List.cons_append, List.nil_append, true_or, or_true, true_implies, not_true_eq_false, not_false_eq_true, false_implies, and_true, true_and, nI_1]
        exact ih (i + 1) _ (by omega) (by omega) (fun j hj => by rw [up_at, if_neg hj]; exact hg1 j hj) (by rw [up_at, if_pos rfl]) hai
      · rw [if_neg q] at hai
        exact fin g1 hg1 (by rw [hai]; exact hg3) (Or.inr (by rw [hai]; exact q))
  rw [we95]
  have m2 : (if (500 : Int32) < nI len then 500 else nI len) = nI lim := by rw [hlim]; exact m1
  simp only [w95_a, hs1, e27, t1, h2, m2]
  exact lp (lim - at0) at0 g rfl ha (fun _ _ => rfl) h3 hA
end Adv

/-! ===== Reader: readWish, readLine ===== -/
def rwL (t : Nat → Int32) (len : Nat) (nm : Nat → Nat) (n : Nat) : Nat → Nat → Nat → TT → RR
  | 0, wi, m, c => if 0 < m ∧ c.1 = 9 then ((0, c), some (wi, c)) else ((1, c), none)
  | d + 1, wi, m, c => if c.1 = 7 then (match fnd nm c.2.2.1 0 n with
      | none => ((3, c), none)
      | some k => if wi.testBit k = true then ((3, c), none) else rwL t len nm n d (wi ||| 2 ^ k) (m + 1) (nxt t len c)) else if 0 < m ∧ c.1 = 9 then ((0, c), some (wi, c)) else ((1, c), none)
def rdWi (t : Nat → Int32) (len : Nat) (nm : Nat → Nat) (n wi : Nat) (c : TT) : RR := rwL t len nm n 15 wi 0 (nxt t len c)
section RdL
variable {h : AH} {kn len n wi : Nat} {nm P C : Nat → Nat} {F : Nat → Nat → Int32} {r g : Nat → Int32} {c : TT} {Q : Option Value → AH → Prop}
theorem DrF.wish (d : DrF F n nm P C wi) (wi' : Nat) : DrF (upF F 0 2 (nI wi')) n nm P C wi' := by
  obtain ⟨d1, d2, d3, ⟨R, e1, e2, e3⟩, d5⟩ := d
  refine ⟨d1, by rw [upF_at, if_neg (by omega)]; exact d2, by rw [upF_at, if_pos ⟨rfl, rfl⟩], ⟨R, by rw [upF_at, if_neg (by omega)]; exact e1, e2, e3⟩, fun k hk => ?_⟩
  obtain ⟨f1, f2, f3, f4, f5⟩ := d5 k hk
  exact ⟨by rw [upF_at, if_neg (by omega)]; exact f1, f2, by rw [upF_at, if_neg (by omega)]; exact f3, f4, by rw [upF_at, if_neg (by omega)]; exact f5⟩
theorem wish_l (x : RX h kn) (hl : len ≤ 540) {RS : RR}
    (k1 : ∀ F' g' w' c', GT len g' c' → RS.2 = some (w', c') → w' < 2 ^ n → w' ≠ 0 → DrF F' n nm P C w' → Q (some (.int 1)) (RHp h kn F' r g'))
    (k2 : ∀ F' g' fk c', GT len g' c' → RS.2 = none → RS.1 = (fk, c') → Q (some (.int 0)) (RHp h kn F' (va_up (va_up r 3 (nI fk)) 4 (nI c'.2.1)) g')) :
    ∀ d i m w F g c y4, i + d = 15 → m ≤ i → GT len g c → w < 2 ^ n → (0 < m → w ≠ 0) → DrF F n nm P C w → RS = rwL (hI h 3) len nm n d w m c → WP 70 11 [.ref 26, .ref kn, .int (nI m), .int (nI i), y4] [] (RHp h kn F r g) Q := by
  have hk := x.2.1
  have hr := RHp_r (h := h) (kn := kn) (by omega)
  have t1 := x.2.2.2.1
  have t2 := x.2.2.2.2.1
  have t27 := x.1.1
  have hkT : hT h kn = 4 := x.2.2.1.1
  -- behind the loop
  have fin : ∀ i m w F g c y4, (14 < i ∨ (i ≤ 14 ∧ c.1 ≠ 7)) → i ≤ 15 → m ≤ i → GT len g c → w < 2 ^ n → (0 < m → w ≠ 0) → DrF F n nm P C w → RS = (if 0 < m ∧ c.1 = 9 then ((0, c), some (w, c)) else ((1, c), none)) → WP 70 11 [.ref 26, .ref kn, .int (nI m), .int (nI i), y4] [] (RHp h kn F r g) Q := fun i m w F g c y4 hi hi15 hm gt hw hwm dr hRS => by
    have g4 := gt.2.2.1
    have o := gt.2.2.2.2.2
    rw [w70_11]
    have run : WP 70 95 [.ref 26, .ref kn, .int (nI m), .int (nI i), y4] [] (RHp h kn F r g) Q := by
      by_cases q1 : 0 < m
      · have c1 : ¬ nI m ≤ 0 := nI_ge (a := 0) q1 (by omega)
        by_cases q2 : c.1 = 9
        · have q2' : nI c.1 = 9 := by rw [q2]; rfl
          rw [if_pos ⟨q1, q2⟩] at hRS
          simp only [w70_a, w70_b, hr, t1, t2, t27, g4, c1, q2', true_or, or_true, true_implies, not_true_eq_false, not_false_eq_true, false_implies, and_true, true_and]
          exact k1 F g w c gt (by rw [hRS]) hw (hwm q1) dr
        · have q2' : ¬ nI c.1 = 9 := fun z => q2 ((kind_eq (b := 9) o.1 (by decide)).mp z)
          rw [if_neg (fun z => q2 z.2)] at hRS
          simp only [w70_a, w70_b, hr, t1, t2, t27, g4, c1, q2', true_or, or_true, true_implies, not_true_eq_false, not_false_eq_true, false_implies, and_true, true_and]
          refine (s63 x gt 1).mpr ?_
          simp only [w70_a, w70_b, Option.toList_some, List.cons_append, List.nil_append, true_or, or_true, true_implies, not_true_eq_false, not_false_eq_true, false_implies, and_true, true_and]
          exact k2 F g 1 c gt (by rw [hRS]) (by rw [hRS])
      · have c1 : nI m ≤ 0 := nI_le (b := 0) (by omega) (by decide)
        rw [if_neg (fun z => q1 z.1)] at hRS
        simp only [w70_a, w70_b, hr, t1, c1, true_or, or_true, true_implies, not_true_eq_false, not_false_eq_true, false_implies, and_true, true_and]
        refine (s63 x gt 1).mpr ?_
        simp only [w70_a, w70_b, Option.toList_some, List.cons_append, List.nil_append, true_or, or_true, true_implies, not_true_eq_false, not_false_eq_true, false_implies, and_true, true_and]
        exact k2 F g 1 c gt (by rw [hRS]) (by rw [hRS])
    by_cases z : 14 < i
    · have c1 : (14 : Int32) < nI i := nI_lt (a := 14) z (by omega)
      have e := w70_a
      have e12 : ∀ st : Unit, True := fun _ => trivial
      revert run
      simp only [w70_a, w70_b, hr, t1, t2, t27, g4, c1, true_or, or_true, true_implies, not_true_eq_false, not_false_eq_true, false_implies, and_true, true_and]
      exact id
    · have c1 : ¬ (14 : Int32) < nI i := nI_nlt (a := 14) (by omega) (by decide)
      have q7 : c.1 ≠ 7 := by
        rcases hi with w9 | w9
        · omega
        · exact w9.2
      have q7' : ¬ nI c.1 = 7 := fun z => q7 ((kind_eq (b := 7) o.1 (by decide)).mp z)
      revert run
      simp only [w70_a, w70_b, hr, t1, t2, t27, g4, c1, q7', true_or, or_true, true_implies, not_true_eq_false, not_false_eq_true, false_implies, and_true, true_and]
      exact id
  intro d
  induction d with
  | zero =>
    intro i m w F g c y4 hid hm gt hw hwm dr hRS
    exact fin i m w F g c y4 (Or.inl (by omega)) (by omega) hm gt hw hwm dr hRS
  | succ d ih =>
    intro i m w F g c y4 hid hm gt hw hwm dr hRS
    by_cases q1 : c.1 = 7
    · have es : rwL (hI h 3) len nm n (d + 1) w m c = (match fnd nm c.2.2.1 0 n with
        | none => ((3, c), none)
        | some k => if w.testBit k = true then ((3, c), none) else rwL (hI h 3) len nm n d (w ||| 2 ^ k) (m + 1) (nxt (hI h 3) len c)) := by
        show (if c.1 = 7 then _ else _) = _
        rw [if_pos q1]
      rw [es] at hRS
      have hn14 := dr.1
      have hp2 : (2 : Nat) ^ n ≤ 2 ^ 14 := p2_le hn14
      have g4 := gt.2.2.1
      have o := gt.2.2.2.2.2
      have g6 := gt.2.2.2.2.1 (by omega)
      have hle : ¬ (14 : Int32) < nI i := nI_nlt (a := 14) (by omega) (by decide)
      have q1' : nI c.1 = 7 := by rw [q1]; rfl
      have e02 : F 0 2 = nI w := dr.2.2.1
      rw [w70_11]
      simp only [w70_a, hr, t1, t2, t27, g4, g6, hle, q1', hkT, true_or, or_true, true_implies, not_true_eq_false, not_false_eq_true, false_implies, and_true, true_and]
      refine find_r x dr o.2.2.1 ?_
      cases q2 : fnd nm c.2.2.1 0 n with
      | none =>
        rw [q2] at hRS
        simp only [w70_a, w70_b, hr, t1, oI_none, show ((-1 : Int32) < 0) from by decide, Option.toList_some, List.cons_append, List.nil_append, true_or, or_true, true_implies, not_true_eq_false, not_false_eq_true, false_implies, and_true, true_and]
        refine (s63 x gt 3).mpr ?_
        simp only [w70_a, w70_b, Option.toList_some, List.cons_append, List.nil_append, true_or, or_true]
        exact k2 F g 3 c gt (by rw [hRS]) (by rw [hRS])
      | some k =>
        rw [q2] at hRS
        have hkn' := (fnd_lt n 0 k q2).2.1
        have hkn2 : k < n := by omega
        have g0 : ¬ nI k < 0 := nI_pos (by omega)
        have hbit : nI w >>> (nI k &&& 31) &&& 1 = nI (if w.testBit k = true then 1 else 0) := nI_shr_bit (by omega) (by omega)
        by_cases q3 : w.testBit k = true
        · simp only [q3, if_true] at hRS hbit
          simp only [w70_a, w70_b, hr, t1, hkT, oI_some, g0, e02, s140, hbit, show (nI 1 = 1) from rfl, Option.toList_some, List.cons_append, List.nil_append, true_or, or_true, true_implies, not_true_eq_false, not_false_eq_true, false_implies, and_true, true_and]
          refine (s63 x gt 3).mpr ?_
          simp only [w70_a, w70_b, Option.toList_some, List.cons_append, List.nil_append, true_or, or_true]
          exact k2 F g 3 c gt (by rw [hRS]) (by rw [hRS])
        · simp only [q3, if_false, Bool.false_eq_true] at hRS hbit
          have hpw : (1 : Int32) <<< (nI k &&& 31) = nI (2 ^ k) := nI_pow k (by omega)
          simp only [w70_a, w70_b, hr, t1, t2, t27, hkT, oI_some, g0, e02, s140, hbit, hpw, nI_or, show ¬ (nI 0 = 1) from by decide, Option.toList_some, List.cons_append, List.nil_append, true_or, or_true, true_implies, not_true_eq_false, not_false_eq_true, false_implies, and_true, true_and, nI_1]
          refine adv x gt hl fun g' gt' => ?_
          simp only [w70_a, w70_b, Option.toList_none, List.nil_append, nI_1]
          refine ih (i + 1) (m + 1) (w ||| 2 ^ k) _ g' _ _ (by omega) (by omega) gt' (or_lt2 hw (p2_lt hkn2)) (fun _ z => ?_) (dr.wish _) hRS
          have h1 : 2 ^ k ≤ w ||| 2 ^ k := Nat.right_le_or
          have h2 : 0 < 2 ^ k := Nat.pow_pos (by decide)
          omega
    · exact fin i m w F g c y4 (Or.inr ⟨by omega, q1⟩) (by omega) hm gt hw hwm dr (by rw [hRS]; show (if c.1 = 7 then _ else _) = _; rw [if_neg q1])
theorem s70 (x : RX h kn) (gt : GT len g c) (hl : len ≤ 540) (hw : wi < 2 ^ n) (dr : DrF F n nm P C wi)
    (k1 : ∀ F' g' w' c', GT len g' c' → (rdWi (hI h 3) len nm n wi c).2 = some (w', c') → w' < 2 ^ n → w' ≠ 0 → DrF F' n nm P C w' → Q (some (.int 1)) (RHp h kn F' r g'))
    (k2 : ∀ F' g' fk c', GT len g' c' → (rdWi (hI h 3) len nm n wi c).2 = none → (rdWi (hI h 3) len nm n wi c).1 = (fk, c') → Q (some (.int 0)) (RHp h kn F' (va_up (va_up r 3 (nI fk)) 4 (nI c'.2.1)) g')) : WPM 70 [.ref 26, .ref kn] (RHp h kn F r g) Q := by
  have hk := x.2.1
  have hr := RHp_r (h := h) (kn := kn) (by omega)
  have t1 := x.2.2.2.1
  have t2 := x.2.2.2.2.1
  have t27 := x.1.1
  rw [we70]
  simp only [w70_a, hr, t1, t2, t27]
  refine adv x gt hl fun g' gt' => ?_
  simp only [w70_a, Option.toList_none, List.nil_append]
  exact wish_l x hl k1 k2 15 0 0 wi F g' _ _ rfl (Nat.le_refl _) gt' hw (fun z => absurd z (Nat.lt_irrefl 0)) dr rfl
end RdL

/-! ===== Reader: readAct, readPlan ===== -/
def rdAc (t : Nat → Int32) (len : Nat) (nm : Nat → Nat) (n m : Nat) (c : TT) : (Nat × TT) × Option (Nat × TT) :=
  if c.1 ≠ 1 ∧ c.1 ≠ 5 then ((1, c), none)
  else if 60 ≤ m then ((4, c), none)
  else (match rdTh t len nm n c with
    | (e, none) => (e, none)
    | (_, some (x, c1)) => if c.1 = 1 ∧ c1.1 = 6 then (match rdTh t len nm n c1 with
        | (e, none) => (e, none)
        | (_, some (y, c2)) => if c2.1 = 9 then ((0, c), some (100 + 20 * x + y, c2)) else ((1, c2), none))
      else if c1.1 = 9 then ((0, c), some (if c.1 = 5 then 20 + x else x, c1)) else ((1, c1), none))
def rdPl (t : Nat → Int32) (len : Nat) (nm : Nat → Nat) (n : Nat) : Nat → List Nat → TT → (Nat × TT) × Option (List Nat)
  | 0, _, c => ((1, c), none)
  | f + 1, pl, c => if (nxt t len c).1 = 10 then (if 500 < len then ((1, nxt t len c), none) else ((0, nxt t len c), some pl)) else (match rdAc t len nm n pl.length (nxt t len c) with
      | (e, none) => (e, none)
      | (_, some (v, c')) => rdPl t len nm n f (pl ++ [v]) c')
section RdPlan
variable {h : AH} {kn len : Nat} {F : Nat → Nat → Int32} {r g p : Nat → Int32} {c : TT} {d : Dt} {Q : Option Value → AH → Prop}
theorem RHp_30 (hk : kn + 10 < 26) : RHp (setI h 30 p) kn F r g = setI (RHp h kn F r g) 30 p := by
  have hs : ∀ h' : AH, hT (RHp h' kn F r g) = hT h' ∧ hL (RHp h' kn F r g) = hL h' ∧ hJ (RHp h' kn F r g) = hJ h' ∧ hR (RHp h' kn F r g) = hR h' ∧ hN (RHp h' kn F r g) = hN h' ∧ hS (RHp h' kn F r g) = hS h' := fun h' => ⟨rfl, rfl, rfl, rfl, rfl, rfl⟩
  refine ah_ext ?_ ?_ ?_ ?_ ?_ ?_ ?_
  · rw [(hs _).1, (hs_setI _ _ _).1, (hs_setI _ _ _).1, (hs _).1]
  · rw [(hs _).2.1, (hs_setI _ _ _).2.1, (hs_setI _ _ _).2.1, (hs _).2.1]
  · funext a
    rw [hI_setI]
    unfold RHp
    by_cases q : a = 30
    · rw [if_pos q, NHp_o (by omega), hI_setI, if_neg (by omega), hI_setI, if_neg (by omega), hI_setI, if_pos q]
    · rw [if_neg q]
      by_cases q2 : kn ≤ a ∧ a ≤ kn + 10
      · have e : a = kn + (a - kn) := by omega
        rw [e, NHp_I (by omega), NHp_I (by omega)]
      · rw [NHp_o (by omega), NHp_o (by omega), hI_setI, hI_setI, hI_setI, hI_setI, hI_setI, if_neg q]
  · rw [(hs _).2.2.1, (hs_setI _ _ _).2.2.1, (hs_setI _ _ _).2.2.1, (hs _).2.2.1]
  · rw [(hs _).2.2.2.1, (hs_setI _ _ _).2.2.2.1, (hs_setI _ _ _).2.2.2.1, (hs _).2.2.2.1]
  · rw [(hs _).2.2.2.2.1, (hs_setI _ _ _).2.2.2.2.1, (hs_setI _ _ _).2.2.2.2.1, (hs _).2.2.2.2.1]
  · rw [(hs _).2.2.2.2.2, (hs_setI _ _ _).2.2.2.2.2, (hs_setI _ _ _).2.2.2.2.2, (hs _).2.2.2.2.2]
theorem RHp_p (hk : kn + 10 < 26) : ∀ (F : Nat → Nat → Int32) (r g p : Nat → Int32), (∀ k v, sI (RHp (setI h 30 p) kn F r g) 30 k v = RHp (setI h 30 (va_up p k v)) kn F r g) := by
  intro F r g p k v
  rw [RHp_30 hk, sI_setI, RHp_30 hk]
theorem RX.p30 (x : RX h kn) (p : Nat → Int32) : RX (setI h 30 p) kn := by
  obtain ⟨⟨t1, t2, t3, t4, t5, t6, t7, t8⟩, hk, hf, r1, r2, r3, r4, r5⟩ := x
  refine ⟨⟨t1, t2, t3, t4, t5, t6, t7, fun j hj => ?_⟩, hk, hf, r1, r2, r3, r4, r5⟩
  rw [hI_setI, if_neg (by decide)]
  exact t8 j hj
theorem i3_30 : hI (setI h 30 p) 3 = hI h 3 := rfl
theorem s72 {m : Nat} (x : RX h kn) (gt : GT len g c) (hl : len ≤ 540) (dr : DrF' F d) (hm : r 2 = nI m) (hm6 : m ≤ 60)
    (k1 : ∀ g' v c', GT len g' c' → (rdAc (hI h 3) len d.2.1 d.1 m c).2 = some (v, c') → m < 60 → v < 1000 → Q (some (.int 1)) (RHp (setI h 30 (va_up p m (nI v))) kn F (va_up r 2 (nI (m + 1))) g'))
    (k2 : ∀ g' fk c', GT len g' c' → (rdAc (hI h 3) len d.2.1 d.1 m c).2 = none → (rdAc (hI h 3) len d.2.1 d.1 m c).1 = (fk, c') → Q (some (.int 0)) (RHp (setI h 30 p) kn F (va_up (va_up r 3 (nI fk)) 4 (nI c'.2.1)) g')) : WPM 72 [.ref 26, .ref kn] (RHp (setI h 30 p) kn F r g) Q := by
  have hk := x.2.1
  have hn14 := dr.1
  have xp := x.p30 p
  have hr := RHp_r (h := setI h 30 p) (kn := kn) (by omega)
  have hp := RHp_p (h := h) (kn := kn) (by omega)
  have t1 : hT (setI h 30 p) 26 = 8 := x.2.2.2.1
  have t2 : hR (setI h 30 p) 26 0 = 27 := x.2.2.2.2.1
  have t3 : hR (setI h 30 p) 26 1 = 30 := x.2.2.2.2.2.1
  have t4 : hT (setI h 30 p) 30 = 100 := x.2.2.2.2.2.2.1
  have t5 : hL (setI h 30 p) 30 = 60 := x.2.2.2.2.2.2.2
  have t27 : hT (setI h 30 p) 27 = 11 := x.1.1
  have o := gt.2.2.2.2.2
  have g4 := gt.2.2.1
  have hmc : (nI m).toNatClampNeg = m := nI_clamp (by omega)
  rw [we72]
  by_cases q1 : c.1 ≠ 1 ∧ c.1 ≠ 5
  · have q11 : ¬ nI c.1 = 1 := fun z => q1.1 ((kind_eq (b := 1) o.1 (by decide)).mp z)
    have q15 : ¬ nI c.1 = 5 := fun z => q1.2 ((kind_eq (b := 5) o.1 (by decide)).mp z)
    have e : rdAc (hI h 3) len d.2.1 d.1 m c = ((1, c), none) := by unfold rdAc; rw [if_pos q1]
    rw [e] at k2
    simp only [w72_a, hr, t1, t2, t27, g4, q11, q15, true_implies, not_true_eq_false, not_false_eq_true, false_implies, and_true, true_and]
    refine (s63 xp gt 1).mpr ?_
    simp only [w72_a, Option.toList_some, List.cons_append, List.nil_append, true_or, or_true]
    exact k2 g 1 c gt rfl rfl
  · by_cases q2 : 60 ≤ m
    · have e : rdAc (hI h 3) len d.2.1 d.1 m c = ((4, c), none) := by unfold rdAc; rw [if_neg q1, if_pos q2]
      rw [e] at k2
      have c6 : ¬ nI m < 60 := nI_nlt (b := 60) q2 (by omega)
      have fin : WPM 63 [.ref 26, .int 4] (RHp (setI h 30 p) kn F r g) (fun rr h' => WP 72 38 [.ref 26, .ref kn, .int (nI c.1), .retAddr 0, .retAddr 0, .retAddr 0] (rr.toList ++ []) h' Q) := by
        refine (s63 xp gt 4).mpr ?_
        simp only [w72_a, Option.toList_some, List.cons_append, List.nil_append, true_or, or_true]
        exact k2 g 4 c gt rfl rfl
      have hc : c.1 = 1 ∨ c.1 = 5 := by omega
      rcases hc with z | z
      · have z' : nI c.1 = 1 := by rw [z]; rfl
        rw [z'] at fin
        simp only [w72_a, hr, t1, t2, t27, g4, z', hm, c6, true_implies, not_true_eq_false, not_false_eq_true, false_implies, and_true, true_and]
        exact fin
      · have z' : nI c.1 = 5 := by rw [z]; rfl
        rw [z'] at fin
        simp only [w72_a, hr, t1, t2, t27, g4, z', hm, c6, show ¬ (5 : Int32) = 1 from by decide, true_implies, not_true_eq_false, not_false_eq_true, false_implies, and_true, true_and]
        exact fin
    · have c6 : nI m < 60 := nI_lt (b := 60) (by omega) (by decide)
      have e : rdAc (hI h 3) len d.2.1 d.1 m c = (match rdTh (hI h 3) len d.2.1 d.1 c with
        | (e, none) => (e, none)
        | (_, some (x, c1)) => if c.1 = 1 ∧ c1.1 = 6 then (match rdTh (hI h 3) len d.2.1 d.1 c1 with
            | (e, none) => (e, none)
            | (_, some (y, c2)) => if c2.1 = 9 then ((0, c), some (100 + 20 * x + y, c2)) else ((1, c2), none))
          else if c1.1 = 9 then ((0, c), some (if c.1 = 5 then 20 + x else x, c1)) else ((1, c1), none)) := by
        unfold rdAc; rw [if_neg q1, if_neg q2]
      rw [e] at k1 k2
      -- the end of an act
      have last : ∀ (v x0 : Nat) (x5 : Value) g1 c1, GT len g1 c1 → v < 1000 →
          (c1.1 = 9 → Q (some (.int 1)) (RHp (setI h 30 (va_up p m (nI v))) kn F (va_up r 2 (nI (m + 1))) g1)) →
          (c1.1 ≠ 9 → Q (some (.int 0)) (RHp (setI h 30 p) kn F (va_up (va_up r 3 (nI 1)) 4 (nI c1.2.1)) g1)) →
          WP 72 105 [.ref 26, .ref kn, .int (nI c.1), .int (nI x0), .int (nI v), x5] [] (RHp (setI h 30 p) kn F r g1) Q := fun v x0 x5 g1 c1 gt1 hv ka kb => by
        have g41 := gt1.2.2.1
        have o1 := gt1.2.2.2.2.2
        by_cases q9 : c1.1 = 9
        · have q9' : nI c1.1 = 9 := by rw [q9]; rfl
          have hr' := fun p' => RHp_r (h := setI h 30 p') (kn := kn) (by omega)
          have t1' : ∀ p', hT (setI h 30 p') 26 = 8 := fun _ => x.2.2.2.1
          have hmm : inb (nI m) 60 = true := inb_nI (by omega) (by omega)
          simp only [w72_a, w72_b, w72_c, hr', hp, t1', t1, t2, t3, t4, t5, t27, g41, q9', hm, hmc, hmm, i32_10, Option.toList_none, List.nil_append, true_or, or_true, true_implies, not_true_eq_false, not_false_eq_true, false_implies, and_true, true_and, nI_1]
          exact ka q9
        · have q9' : ¬ nI c1.1 = 9 := fun z => q9 ((kind_eq (b := 9) o1.1 (by decide)).mp z)
          simp only [w72_a, w72_b, hr, t1, t2, t27, g41, q9', Option.toList_none, List.nil_append, true_or, or_true, true_implies, not_true_eq_false, not_false_eq_true, false_implies, and_true, true_and]
          refine (s63 xp gt1 1).mpr ?_
          simp only [w72_a, w72_b, Option.toList_some, List.cons_append, List.nil_append, true_or, or_true]
          exact kb q9
      have first : WPM 73 [.ref 26, .ref kn] (RHp (setI h 30 p) kn F r g) (fun rr h' => WP 72 44 [.ref 26, .ref kn, .int (nI c.1), .retAddr 0, .retAddr 0, .retAddr 0] (rr.toList ++ []) h' Q) := by
        refine s73 xp dr gt hl (fun g1 y c1 u1 u2 u3 => ?_) (fun g1 fk c1 u1 u2 u3 => ?_)
        · rw [i3_30] at u2
          have hth : rdTh (hI h 3) len d.2.1 d.1 c = ((rdTh (hI h 3) len d.2.1 d.1 c).1, some (y, c1)) := by rw [← u2]
          rw [hth] at k1 k2
          dsimp only at k1 k2
          have g0 : (0 : Int32) ≤ nI y := nI_pos' (by omega)
          have g41 := u1.2.2.1
          have o1 := u1.2.2.2.2.2
          by_cases z5 : c.1 = 5
          · have z' : nI c.1 = 5 := by rw [z5]; rfl
            have ev : (20 : Int32) + nI y = nI (20 + y) := by rw [← nI_add]; rfl
            have := last (20 + y) y (.retAddr 0) g1 c1 u1 (by omega) (fun h9 => k1 g1 _ c1 u1 (by rw [if_neg (by omega), if_pos h9, if_pos z5]) (by omega) (by omega)) (fun h9 => k2 g1 1 c1 u1 (by rw [if_neg (by omega), if_neg h9]) (by rw [if_neg (by omega), if_neg h9]))
            rw [z'] at this
            simp only [w72_a, w72_b, g0, z', ev, show ¬ (5 : Int32) = 1 from by decide, Option.toList_some, List.cons_append, List.nil_append, true_or, or_true, true_implies, not_true_eq_false, not_false_eq_true, false_implies, and_true, true_and] at this ⊢
            exact this
          · have z1 : c.1 = 1 := by omega
            have z' : nI c.1 = 1 := by rw [z1]; rfl
            by_cases q6 : c1.1 = 6
            · have q6' : nI c1.1 = 6 := by rw [q6]; rfl
              simp only [w72_a, w72_b, hr, t1, t2, t27, g41, q6', g0, z', show ¬ (1 : Int32) = 5 from by decide, Option.toList_some, List.cons_append, List.nil_append, true_or, or_true, true_implies, not_true_eq_false, not_false_eq_true, false_implies, and_true, true_and]
              rw [if_pos ⟨z1, q6⟩] at k1 k2
              refine s73 xp dr u1 hl (fun g2 y2 c2 v1 v2 v3 => ?_) (fun g2 fk c2 v1 v2 v3 => ?_)
              · rw [i3_30] at v2
                have hth2 : rdTh (hI h 3) len d.2.1 d.1 c1 = ((rdTh (hI h 3) len d.2.1 d.1 c1).1, some (y2, c2)) := by rw [← v2]
                rw [hth2] at k1 k2
                dsimp only at k1 k2
                have g0' : (0 : Int32) ≤ nI y2 := nI_pos' (by omega)
                have ev : (100 : Int32) + 20 * nI y + nI y2 = nI (100 + 20 * y + y2) := by rw [← nI_add, ← nI_add, show nI (20 * y) = 20 * nI y from by unfold nI; rw [Int32.ofNat_mul]; rfl]; rfl
                have := last (100 + 20 * y + y2) y (.int (nI y2)) g2 c2 v1 (by omega) (fun h9 => k1 g2 _ c2 v1 (by rw [if_pos h9]) (by omega) (by omega)) (fun h9 => k2 g2 1 c2 v1 (by rw [if_neg h9]) (by rw [if_neg h9]))
                rw [z'] at this
                simp only [w72_a, w72_b, s1, g0', ev, Option.toList_some, List.cons_append, List.nil_append, true_or, or_true, true_implies, not_true_eq_false, not_false_eq_true, false_implies, and_true, true_and] at this ⊢
                exact this
              · rw [i3_30] at v2 v3
                have hth2 : rdTh (hI h 3) len d.2.1 d.1 c1 = ((fk, c2), none) := by rw [← v2, ← v3]
                rw [hth2] at k2
                simp only [w72_a, w72_b, i32_0m1, Option.toList_some, List.cons_append, List.nil_append, true_or, or_true, true_implies, not_true_eq_false, not_false_eq_true, false_implies, and_true, true_and]
                exact k2 g2 fk c2 v1 rfl rfl
            · have q6' : ¬ nI c1.1 = 6 := fun z => q6 ((kind_eq (b := 6) o1.1 (by decide)).mp z)
              have := last y y (.retAddr 0) g1 c1 u1 (by omega) (fun h9 => k1 g1 _ c1 u1 (by rw [if_neg (by omega), if_pos h9, if_neg z5]) (by omega) (by omega)) (fun h9 => k2 g1 1 c1 u1 (by rw [if_neg (by omega), if_neg h9]) (by rw [if_neg (by omega), if_neg h9]))
              rw [z'] at this
              simp only [w72_a, w72_b, hr, t1, t2, t27, g41, q6', g0, z', show ¬ (1 : Int32) = 5 from by decide, Option.toList_some, List.cons_append, List.nil_append, true_or, or_true, true_implies, not_true_eq_false, not_false_eq_true, false_implies, and_true, true_and] at this ⊢
              exact this
        · rw [i3_30] at u2 u3
          have hth : rdTh (hI h 3) len d.2.1 d.1 c = ((fk, c1), none) := by rw [← u2, ← u3]
          rw [hth] at k2
          simp only [w72_a, i32_0m1, Option.toList_some, List.cons_append, List.nil_append, true_or, or_true, true_implies, not_true_eq_false, not_false_eq_true, false_implies, and_true, true_and]
          exact k2 g1 fk c1 u1 rfl rfl
      have hc : c.1 = 1 ∨ c.1 = 5 := by omega
      rcases hc with z | z
      · have z' : nI c.1 = 1 := by rw [z]; rfl
        rw [z'] at first
        simp only [w72_a, hr, t1, t2, t27, g4, z', hm, c6, true_implies, not_true_eq_false, not_false_eq_true, false_implies, and_true, true_and]
        exact first
      · have z' : nI c.1 = 5 := by rw [z]; rfl
        rw [z'] at first
        simp only [w72_a, hr, t1, t2, t27, g4, z', hm, c6, show ¬ (5 : Int32) = 1 from by decide, true_implies, not_true_eq_false, not_false_eq_true, false_implies, and_true, true_and]
        exact first
theorem plan_l (x : RX h kn) (hl : len ≤ 540) (dr : DrF' F d) {RS : (Nat × TT) × Option (List Nat)}
    (k1 : ∀ p' r' g' pl, RS.2 = some pl → pl.length ≤ 60 → (∀ j v, pl[j]? = some v → p' j = nI v) → (∀ v, v ∈ pl → v < 1000) → r' 2 = nI pl.length → (∀ j, j ≠ 2 → r' j = r j) → Q (some (.int 1)) (RHp (setI h 30 p') kn F r' g'))
    (k2 : ∀ p' r' g' fk c', okT c' → RS.2 = none → RS.1 = (fk, c') → r' 3 = nI fk → r' 4 = nI c'.2.1 → (∀ j, j ≠ 2 → j ≠ 3 → j ≠ 4 → r' j = r j) → Q (some (.int 0)) (RHp (setI h 30 p') kn F r' g')) :
    ∀ f i pl c p r' g, i + f = 501 → g 2 = nI len → g 3 = nI c.2.2.2 → c.2.2.2 ≤ 541 → (0 < i → GT len g c) → pl.length ≤ 60 → (∀ j v, pl[j]? = some v → p j = nI v) → (∀ v, v ∈ pl → v < 1000) → r' 2 = nI pl.length → (∀ j, j ≠ 2 → r' j = r j) → RS = rdPl (hI h 3) len d.2.1 d.1 f pl c → WP 71 14 [.ref 26, .ref 3, .int (nI len), .ref kn, .int (nI i)] [] (RHp (setI h 30 p) kn F r' g) Q := by
  have hk := x.2.1
  intro f
  induction f with
  | zero =>
    intro i pl c p r' g hif g2 g3 o4 hgt hp6 hpp hpv hr2 hro hRS
    have xp := x.p30 p
    have hr := RHp_r (h := setI h 30 p) (kn := kn) (by omega)
    have t1 : hT (setI h 30 p) 26 = 8 := x.2.2.2.1
    have hlt : (500 : Int32) < nI i := nI_lt (a := 500) (by omega) (by omega)
    have gt := hgt (by omega)
    rw [w71_14]
    simp only [w71_a, w71_b, hr, t1, hlt, true_implies, not_true_eq_false, not_false_eq_true, false_implies, and_true, true_and]
    refine (s63 xp gt 1).mpr ?_
    simp only [w71_a, w71_b, Option.toList_some, List.cons_append, List.nil_append, true_or, or_true]
    refine k2 p _ g 1 c gt.2.2.2.2.2 (by rw [hRS]; rfl) (by rw [hRS]; rfl) (by rw [up_at, if_neg (by decide), up_at, if_pos rfl]) (by rw [up_at, if_pos rfl]) fun j j2 j3 j4 => ?_
    rw [up_at, if_neg j4, up_at, if_neg j3]
    exact hro j j2
  | succ f ih =>
    intro i pl c p r' g hif g2 g3 o4 hgt hp6 hpp hpv hr2 hro hRS
    have xp := x.p30 p
    have hr := RHp_r (h := setI h 30 p) (kn := kn) (by omega)
    have t1 : hT (setI h 30 p) 26 = 8 := x.2.2.2.1
    have t2 : hR (setI h 30 p) 26 0 = 27 := x.2.2.2.2.1
    have t27 : hT (setI h 30 p) 27 = 11 := x.1.1
    have hlt : ¬ (500 : Int32) < nI i := nI_nlt (a := 500) (by omega) (by decide)
    have es : rdPl (hI h 3) len d.2.1 d.1 (f + 1) pl c = if (nxt (hI h 3) len c).1 = 10 then (if 500 < len then ((1, nxt (hI h 3) len c), none) else ((0, nxt (hI h 3) len c), some pl)) else (match rdAc (hI h 3) len d.2.1 d.1 pl.length (nxt (hI h 3) len c) with
      | (e, none) => (e, none)
      | (_, some (v, c')) => rdPl (hI h 3) len d.2.1 d.1 f (pl ++ [v]) c') := rfl
    rw [es] at hRS
    rw [w71_14]
    simp only [w71_a, hr, t1, t2, t27, hlt, true_implies, not_true_eq_false, not_false_eq_true, false_implies, and_true, true_and]
    refine adv0 xp g2 g3 o4 hl fun g1 gt1 => ?_
    rw [i3_30] at gt1
    have g41 := gt1.2.2.1
    have o1 := gt1.2.2.2.2.2
    by_cases q1 : (nxt (hI h 3) len c).1 = 10
    · have q1' : nI (nxt (hI h 3) len c).1 = 10 := by rw [q1]; rfl
      rw [if_pos q1] at hRS
      by_cases q2 : 500 < len
      · rw [if_pos q2] at hRS
        simp only [w71_a, w71_b, hr, t1, t2, t27, g41, q1', tooL xp gt1.1 hl, if_pos q2, i32_10, Option.toList_some, Option.toList_none, List.cons_append, List.nil_append, true_implies, not_true_eq_false, not_false_eq_true, false_implies, and_true, true_and]
        refine (s63 xp gt1 1).mpr ?_
        simp only [w71_a, w71_b, Option.toList_some, List.cons_append, List.nil_append, true_or, or_true, true_implies, not_true_eq_false, not_false_eq_true, false_implies, and_true, true_and]
        refine k2 p _ g1 1 _ o1 (by rw [hRS]) (by rw [hRS]) (by rw [up_at, if_neg (by decide), up_at, if_pos rfl]) (by rw [up_at, if_pos rfl]) fun j j2 j3 j4 => ?_
        rw [up_at, if_neg j4, up_at, if_neg j3]
        exact hro j j2
      · rw [if_neg q2] at hRS
        simp only [w71_a, w71_b, hr, t1, t2, t27, g41, q1', tooL xp gt1.1 hl, if_neg q2, Option.toList_some, Option.toList_none, List.cons_append, List.nil_append, true_or, or_true, true_implies, not_true_eq_false, not_false_eq_true, false_implies, and_true, true_and]
        exact k1 p r' g1 pl (by rw [hRS]) hp6 hpp hpv hr2 hro
    · have q1' : ¬ nI (nxt (hI h 3) len c).1 = 10 := fun z => q1 ((kind_eq (b := 10) o1.1 (by decide)).mp z)
      rw [if_neg q1] at hRS
      simp only [w71_a, w71_b, hr, t1, t2, t27, g41, q1', Option.toList_none, List.nil_append, true_implies, not_true_eq_false, not_false_eq_true, false_implies, and_true, true_and]
      refine s72 x gt1 hl dr hr2 hp6 (fun g' v c' u1 u2 u3 u4 => ?_) (fun g' fk c' u1 u2 u3 => ?_)
      · have hln : rdAc (hI h 3) len d.2.1 d.1 pl.length (nxt (hI h 3) len c) = ((rdAc (hI h 3) len d.2.1 d.1 pl.length (nxt (hI h 3) len c)).1, some (v, c')) := by rw [← u2]
        rw [hln] at hRS
        dsimp only at hRS
        simp only [w71_a, w71_b, i32_10, Option.toList_some, List.cons_append, List.nil_append, true_or, or_true, true_implies, not_true_eq_false, not_false_eq_true, false_implies, and_true, true_and, nI_1]
        refine ih (i + 1) (pl ++ [v]) c' _ _ g' (by omega) u1.1 u1.2.1 u1.2.2.2.2.2.2.2.2.1 (fun _ => u1) (by rw [List.length_append]; exact u3) (fun j w hj => ?_) (fun w hw => ?_) (by rw [up_at, if_pos rfl, List.length_append]; rfl) (fun j hj => by rw [up_at, if_neg hj]; exact hro j hj) hRS
        · rw [up_at]
          by_cases z : j = pl.length
          · rw [if_pos z]
            rw [z, List.getElem?_append_right (Nat.le_refl _), Nat.sub_self] at hj
            cases hj
            rfl
          · rw [if_neg z]
            refine hpp j w ?_
            rcases Nat.lt_or_ge j pl.length with z2 | z2
            · rw [List.getElem?_append_left z2] at hj
              exact hj
            · rw [List.getElem?_eq_none (by rw [List.length_append]; show pl.length + 1 ≤ j; omega)] at hj
              cases hj
        · rcases List.mem_append.mp hw with z | z
          · exact hpv w z
          · cases List.mem_singleton.mp z
            exact u4
      · have hln : rdAc (hI h 3) len d.2.1 d.1 pl.length (nxt (hI h 3) len c) = ((fk, c'), none) := by rw [← u2, ← u3]
        rw [hln] at hRS
        dsimp only at hRS
        simp only [w71_a, w71_b, Option.toList_some, List.cons_append, List.nil_append, true_or, or_true, true_implies, not_true_eq_false, not_false_eq_true, false_implies, and_true, true_and]
        refine k2 p _ g' fk c' u1.2.2.2.2.2 (by rw [hRS]) (by rw [hRS]) (by rw [up_at, if_neg (by decide), up_at, if_pos rfl]) (by rw [up_at, if_pos rfl]) fun j j2 j3 j4 => ?_
        rw [up_at, if_neg j4, up_at, if_neg j3]
        exact hro j j2
/-- Reader.readPlan; the kitchen stays as it is -/
theorem s71 (x : RX (sR h 27 1 3) kn) (hl : len ≤ 540) (dr : DrF' (fun j => hI h (kn + j)) d)
    (k1 : ∀ p' r' g' pl, (rdPl (hI h 3) len d.2.1 d.1 501 [] c00).2 = some pl → pl.length ≤ 60 → (∀ j v, pl[j]? = some v → p' j = nI v) → (∀ v, v ∈ pl → v < 1000) → r' 2 = nI pl.length → r' 3 = 0 → r' 4 = 0 → Q (some (.int 1)) (setI (setI (setI (sR h 27 1 3) 30 p') 26 r') 27 g'))
    (k2 : ∀ p' r' g' fk c', okT c' → (rdPl (hI h 3) len d.2.1 d.1 501 [] c00).2 = none → (rdPl (hI h 3) len d.2.1 d.1 501 [] c00).1 = (fk, c') → r' 3 = nI fk → r' 4 = nI c'.2.1 → Q (some (.int 0)) (setI (setI (setI (sR h 27 1 3) 30 p') 26 r') 27 g')) : WPM 71 [.ref 26, .ref 3, .int (nI len), .ref kn] h Q := by
  obtain ⟨⟨t1, t2, t3, t4, t5, t6, t7, t8⟩, hk, hf, u1, u2, -⟩ := id x
  have e2 : hR h 26 0 = 27 := by
    have := u2
    rw [hR_sR, if_neg (by decide)] at this
    exact this
  have h26 : hT h 26 = 8 := u1
  have hbF : ∀ j, j ≤ 10 → bgF h kn len j = hI h (kn + j) := fun j hj => by
    unfold bgF
    rw [hI_setI, if_neg (by omega), hI_setI, if_neg (by omega), hI_sR]
  have ek : ∀ p' r' g', RHp (setI (sR h 27 1 3) 30 p') kn (bgF h kn len) r' g' = setI (setI (setI (sR h 27 1 3) 30 p') 26 r') 27 g' := fun p' r' g' => by
    unfold RHp
    rw [← NHp_id (setI (setI (setI (sR h 27 1 3) 30 p') 26 r') 27 g') kn]
    have e : ∀ (h' : AH) (F F' : Nat → Nat → Int32), (∀ j, j ≤ 10 → F j = F' j) → NHp h' kn F = NHp h' kn F' := fun h' F F' e => by
      unfold NHp
      congr 2
      congr 1
      funext a
      split
      · next q => exact e _ (by omega)
      · rfl
    rw [NHp_id]
    conv => rhs; rw [← NHp_id (setI (setI (setI (sR h 27 1 3) 30 p') 26 r') 27 g') kn]
    refine e _ _ _ fun j hj => ?_
    rw [hbF j hj, hI_setI, if_neg (by omega), hI_setI, if_neg (by omega), hI_setI, if_neg (by omega), hI_sR]
  have dr' : DrF' (bgF h kn len) d := by
    obtain ⟨d1, d2, d3, ⟨R, d4, d5⟩, d6⟩ := dr
    refine ⟨d1, by rw [hbF 0 (by decide)]; exact d2, by rw [hbF 0 (by decide)]; exact d3, ⟨R, by rw [hbF 0 (by decide)]; exact d4, d5⟩, fun k hk => ?_⟩
    rw [hbF 1 (by decide), hbF 2 (by decide), hbF 3 (by decide)]
    exact d6 k hk
  rw [we71]
  simp only [w71_a, h26]
  refine (s65 (h := h) (kn := kn) ⟨u1, e2⟩ t1 ⟨t6, t7⟩ hl).mpr ?_
  have e30 : sR h 27 1 3 = setI (sR h 27 1 3) 30 (hI (sR h 27 1 3) 30) := (setI_id _ _).symm
  rw [e30]
  have hr := RHp_r (h := setI (sR h 27 1 3) 30 (hI (sR h 27 1 3) 30)) (kn := kn) (by omega)
  have h26' : hT (setI (sR h 27 1 3) 30 (hI (sR h 27 1 3) 30)) 26 = 8 := u1
  simp only [w71_a, hr, h26', Option.toList_none, List.nil_append]
  refine plan_l (r := rg0 h) x hl dr' (fun p' r' g' pl z1 z2 z3 z4 z5 z6 => ?_) (fun p' r' g' fk c' z1 z2 z3 z4 z5 z6 => ?_) 501 0 [] c00 _ _ (gg0 h len) rfl (by unfold gg0; rw [up_at, if_neg (by decide), up_at, if_pos rfl]) (by unfold gg0; rw [up_at, if_pos rfl]; rfl) (by decide) (fun z => absurd z (Nat.lt_irrefl 0)) (Nat.zero_le _) (fun j v hj => by cases hj) (fun v hv => by cases hv) (by rw [up_at, if_pos rfl]; rfl) (fun j hj => by rw [up_at, if_neg hj]) rfl
  · rw [ek]
    exact k1 p' r' g' pl z1 z2 z3 z4 z5 (by rw [z6 3 (by decide)]; unfold rg0; rw [up_at, if_neg (by decide), up_at, if_pos rfl]) (by rw [z6 4 (by decide)]; unfold rg0; rw [up_at, if_pos rfl])
  · rw [ek]
    exact k2 p' r' g' fk c' z1 z2 z3 z4 z5
end RdPlan

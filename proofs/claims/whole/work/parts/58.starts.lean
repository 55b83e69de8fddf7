/-! ===== Shortest.startAtEnds, firstActTo ===== -/
theorem SHp_id {h : AH} {q l p m : Nat} (n2 : q ≠ 50) (n3 : l ≠ 50) : SHp h q l p (hI h q) (hI h l) (hJ h p) m = sI h 50 5 (nI m) := by
  rw [sI_as]
  refine ah_ext rfl rfl ?_ ?_ rfl rfl rfl
  · funext a
    rw [SHp_I, hI_setI]
    by_cases e1 : a = l
    · subst e1
      simp only [if_true, n3, if_false]
    · by_cases e2 : a = q
      · subst e2
        simp only [e1, if_true, n2, if_false]
      · simp only [e1, e2, if_false]
  · funext a
    rw [SHp_J]
    show _ = hJ h a
    by_cases e : a = p
    · rw [if_pos e, e]
    · rw [if_neg e]
theorem SHp_only {h : AH} {q l p m : Nat} {qu lf : Nat → Int32} {pa : Nat → Int64} : OnlyIJ (fun a => a = 50 ∨ a = q ∨ a = l) (fun a => a = p) h (SHp h q l p qu lf pa m) := by
  refine ⟨rfl, rfl, rfl, rfl, rfl, fun a ha => ?_, fun a ha => ?_⟩
  · rw [SHp_I, if_neg (fun w => ha (Or.inr (Or.inr w))), if_neg (fun w => ha (Or.inr (Or.inl w))), if_neg (fun w => ha (Or.inl w))]
  · rw [SHp_J, if_neg ha]
section Starts
variable {h : AH} {q l p N b w wi kn : Nat} {L : List Act} {Q : Option Value → AH → Prop}
theorem z00_at {N b s : Nat} {e : Nat → Bool} : (z00 N b e).1 s = if s < N ∧ (pc s ≤ b ∧ e s = true) then some 0 else none := rfl
theorem starts_l (x : SX h q l p N L) (hN9 : N ≤ 16384) (hb9 : b < 65536) (hw : w < 8) (hwi : wi < 65536) (hkt : hT h kn = 4) (hkn : kn < 36) (hkq : kn ≠ q) (hkl : kn ≠ l) (h2 : hI h kn 2 = nI wi)
    (k : ∀ qu lf pa, SRl N (z00 N b (isEndB w wi)) qu lf pa → Q none (SHp h q l p qu lf pa (z00 N b (isEndB w wi)).2.2.length)) :
    ∀ d y qu lf pa, N - y = d → y ≤ N → SRl y (z00 y b (isEndB w wi)) qu lf pa → WP 76 53 [.ref 50, .ref kn, .int (nI w), .int (nI b), .int (nI N), .int (nI y)] [] (SHp h q l p qu lf pa (z00 y b (isEndB w wi)).2.2.length) Q := by
  obtain ⟨⟨a1, a2, a3, a4, a5, a6, a7, a8, a9⟩, ⟨l1, l2, l3, l4, l5, l6⟩, ⟨n1, n2, n3⟩, x1, x2, x3, x4⟩ := id x
  have hr := SHp_r (h := h) (p := p) n1 n2 n3
  intro d
  induction d with
  | zero =>
    intro y qu lf pa hd hy sr
    have hle : nI N ≤ nI y := nI_le (by omega) (by omega)
    have : y = N := by omega
    subst this
    rw [w76_53]
    simp only [w76_a, w76_b, hle, true_implies, not_true_eq_false, false_implies, and_true]
    exact k qu lf pa sr
  | succ d ih =>
    intro y qu lf pa hd hy sr
    obtain ⟨r1, r2, r3⟩ := id sr
    have hyN : y < N := by omega
    have hle : ¬ nI N ≤ nI y := nI_ge (by omega) (by omega)
    have c1 : (nI y).toNatClampNeg = y := nI_clamp (by omega)
    have i1 : inb (nI y) (hL h l) = true := inb_nI (by omega) (by omega)
    have hk2 : ∀ qu lf pa m, hI (SHp h q l p qu lf pa m) kn 2 = nI wi := fun qu lf pa m => by
      rw [SHp_I, if_neg hkl, if_neg hkq, if_neg (by omega)]
      exact h2
    have hbc : bcI (nI y) = nI (pc y) := bc_pc (by omega)
    have hmlen : (z00 y b (isEndB w wi)).2.2.length ≤ y := by
      have := List.length_filter_le (fun x => decide (pc x ≤ b) && isEndB w wi x) (List.range y)
      rw [List.length_range] at this
      exact this
    -- the row y more
    have hnext : ∀ (q0 : ¬ (pc y ≤ b ∧ isEndB w wi y = true)), (z00 (y + 1) b (isEndB w wi)).2.2 = (z00 y b (isEndB w wi)).2.2 ∧ SRl (y + 1) (z00 (y + 1) b (isEndB w wi)) qu (va_up lf y (-1)) pa := fun q0 => by
      have e1 : (z00 (y + 1) b (isEndB w wi)).2.2 = (z00 y b (isEndB w wi)).2.2 := by
        show (List.range (y + 1)).filter _ = (List.range y).filter _
        rw [List.range_succ, List.filter_append]
        have : (decide (pc y ≤ b) && isEndB w wi y) = false := by
          rw [Bool.eq_false_iff, ne_eq, Bool.and_eq_true, decide_eq_true_eq]
          exact q0
        simp [this]
      have e2 : ∀ s, (z00 (y + 1) b (isEndB w wi)).1 s = (z00 y b (isEndB w wi)).1 s := fun s => by
        rw [z00_at, z00_at]
        by_cases e : s = y
        · subst e
          rw [if_neg (fun w => q0 w.2), if_neg (fun w => q0 w.2)]
        · have : s < y + 1 ↔ s < y := by omega
          simp only [this]
      refine ⟨e1, fun j v hj => r1 j v (by rw [← e1]; exact hj), fun s hs => ?_, fun s hs => r3 s (by rw [← e2 s]; exact hs)⟩
      rw [up_at, e2 s]
      by_cases e : s = y
      · subst e
        rw [if_pos rfl, z00_at, if_neg (fun w => q0 w.2)]
        rfl
      · rw [if_neg e]
        exact r2 s (by omega)
    rw [w76_53]
    by_cases q1 : isEndP w wi y
    · by_cases q2 : pc y ≤ b
      · have hlt : ¬ nI b < nI (pc y) := nI_nlt q2 (by omega)
        have e1 : (z00 (y + 1) b (isEndB w wi)).2.2 = (z00 y b (isEndB w wi)).2.2 ++ [y] := by
          show (List.range (y + 1)).filter _ = (List.range y).filter _ ++ _
          rw [List.range_succ, List.filter_append]
          have : (decide (pc y ≤ b) && isEndB w wi y) = true := by
            rw [Bool.and_eq_true, decide_eq_true_eq]
            exact ⟨q2, q1⟩
          simp [this]
        simp only [w76_a, w76_b, hle, hr, a1, a5, a8, hkt, c1, i1, hk2, s142n hw (show y < 65536 by omega) hwi, if_pos q1, i32_10, s218, hbc, hlt, s77 x hyN (show (z00 y b (isEndB w wi)).2.2.length < N by omega), Option.toList_some, Option.toList_none, List.cons_append, List.nil_append, true_or, or_true, true_implies, not_true_eq_false, not_false_eq_true, false_implies, and_true, true_and, nI_1]
        refine Eq.mp ?_ (ih (y + 1) (va_up qu (z00 y b (isEndB w wi)).2.2.length (nI y)) (va_up (va_up lf y (-1)) y 0) (va_up pa y (lN 1)) (by omega) (by omega) ⟨fun j v hj => ?_, fun s hs => ?_, fun s hs => ?_⟩)
        · rw [e1, List.length_append]
          rfl
        · rw [up_at]
          rw [e1] at hj
          rcases Nat.lt_trichotomy j (z00 y b (isEndB w wi)).2.2.length with w9 | w9 | w9
          · rw [List.getElem?_append_left w9] at hj
            rw [if_neg (by omega)]
            exact r1 j v hj
          · subst w9
            rw [List.getElem?_append_right (Nat.le_refl _), Nat.sub_self] at hj
            rw [if_pos rfl]
            have : y = v := Option.some.inj hj
            rw [this]
          · rw [List.getElem?_eq_none (by rw [List.length_append, List.length_singleton]; omega)] at hj
            cases hj
        · rw [up_at, up_at, z00_at]
          by_cases e : s = y
          · subst e
            rw [if_pos rfl, if_pos ⟨by omega, q2, q1⟩]
            rfl
          · rw [if_neg e, if_neg e]
            have : s < y + 1 ↔ s < y := by omega
            rw [r2 s (by omega), z00_at]
            simp only [this]
        · rw [up_at]
          by_cases e : s = y
          · rw [if_pos e]
            exact ⟨rfl, by show 1 ≤ MR; unfold MR; omega⟩
          · rw [if_neg e]
            refine r3 s ?_
            rw [z00_at] at hs ⊢
            have : s < y + 1 ↔ s < y := by omega
            simp only [this] at hs
            exact hs
      · have hlt : nI b < nI (pc y) := nI_lt (by omega) (by have := pc_le y; omega)
        obtain ⟨e1, e2⟩ := hnext (fun z => q2 z.1)
        simp only [w76_a, w76_b, hle, hr, a1, a5, a8, hkt, c1, i1, hk2, s142n hw (show y < 65536 by omega) hwi, if_pos q1, i32_10, s218, hbc, hlt, Option.toList_some, Option.toList_none, List.cons_append, List.nil_append, true_or, or_true, true_implies, not_true_eq_false, not_false_eq_true, false_implies, and_true, true_and, nI_1]
        rw [← e1]
        exact ih (y + 1) _ _ _ (by omega) (by omega) e2
    · obtain ⟨e1, e2⟩ := hnext (fun z => q1 z.2)
      simp only [w76_a, w76_b, hle, hr, a1, a5, a8, hkt, c1, i1, hk2, s142n hw (show y < 65536 by omega) hwi, if_neg q1, Option.toList_some, Option.toList_none, List.cons_append, List.nil_append, true_or, or_true, true_implies, not_true_eq_false, not_false_eq_true, false_implies, and_true, true_and, nI_1]
      rw [← e1]
      exact ih (y + 1) _ _ _ (by omega) (by omega) e2
/-- of the heap: the rows that are looked at -/
def SY (h : AH) (l N : Nat) (L : List Act) (D : Nat → Option Nat) : Prop := (hT h 50 = 9 ∧ hT h 36 = 1 ∧ hR h 50 1 = 36 ∧ hR h 50 3 = l ∧ hT h l = 100) ∧ (N ≤ hL h l ∧ hL h l ≤ 65536) ∧ F_acts h ∧ ActsHold h N L ∧ ∀ t, t < N → hI h l t = oI (D t)
def pr80 (N b : Nat) (D : Nat → Option Nat) (s v : Nat) (a : Act) : Bool := match aft N b a s with
  | some t => decide (D t = some v)
  | none => false
theorem s80 {D : Nat → Option Nat} {s v : Nat} (y : SY h l N L D) (ha : ActsOK L) (hN9 : N ≤ 16384) (hb9 : b < 65536) (hs : s < N) (hv : v < 65536) (hD : ∀ t k, D t = some k → k < 65536)
    (k1 : ∀ j a, L[j]? = some a → pr80 N b D s v a = true → (∀ i a', i < j → L[i]? = some a' → pr80 N b D s v a' = false) → Q (some (.int (nI j))) h) (k2 : (∀ a, a ∈ L → pr80 N b D s v a = false) → Q (some (.int (-1))) h) : WPM 80 [.ref 50, .int (nI s), .int (nI v), .int (nI b)] h Q := by
  obtain ⟨⟨a1, a2, a3, a4, a5⟩, ⟨l1, l2⟩, y1, y2, y3⟩ := y
  obtain ⟨ha1, ha2, ha3⟩ := ha
  have lp : ∀ d j yy, L.length - j = d → j ≤ L.length → (∀ i a', i < j → L[i]? = some a' → pr80 N b D s v a' = false) → WP 80 3 [.ref 50, .int (nI s), .int (nI v), .int (nI b), .int (nI j), yy] [] h Q := by
    intro d
    induction d with
    | zero =>
      intro j yy hd hj hno
      have hle : nI L.length ≤ nI j := nI_le (by omega) (by omega)
      rw [w80_3]
      simp only [w80, a1, a2, a3, y2.1, hle, true_implies, not_true_eq_false, false_implies, and_true]
      refine k2 fun a hm => ?_
      obtain ⟨i, hi⟩ := List.getElem?_of_mem hm
      obtain ⟨hl, -⟩ := List.getElem?_eq_some_iff.mp hi
      exact hno i a (by omega) hi
    | succ d ih =>
      intro j yy hd hj hno
      have hjl : j < L.length := by omega
      have hle : ¬ nI L.length ≤ nI j := nI_ge (by omega) (by omega)
      have haj : L[j]? = some L[j] := List.getElem?_eq_getElem hjl
      have haL : L[j] ∈ L := List.getElem_mem hjl
      have h7 := s7N (h := h) (N := N) (b := b) (s := s) y1 (show j < 112 by omega) (y2.2.1 j _ haj) (ha1 _ haL) y2.2.2 (by omega) (show s < 65536 by omega) hb9
      have hmore : pr80 N b D s v L[j] = false → ∀ yy, WP 80 3 [.ref 50, .int (nI s), .int (nI v), .int (nI b), .int (nI (j + 1)), yy] [] h Q := fun hf yy => ih (j + 1) yy (by omega) (by omega) fun i a' hi ha' => by
        rcases Nat.lt_or_ge i j with w9 | w9
        · exact hno i a' w9 ha'
        · have : i = j := by omega
          subst this
          rw [haj] at ha'
          cases ha'
          exact hf
      rw [w80_3]
      cases q0 : aft N b L[j] s with
      | none =>
        rw [q0] at h7
        simp only [w80, a1, a2, a3, y2.1, hle, h7, oI_none, show ((-1 : Int32) < 0) from by decide, Option.toList_some, List.cons_append, List.nil_append, true_implies, not_true_eq_false, not_false_eq_true, false_implies, and_true, true_and, nI_1]
        exact hmore (by unfold pr80; rw [q0]) _
      | some t =>
        rw [q0] at h7
        have ht := aft_lt q0
        have c1 : (nI t).toNatClampNeg = t := nI_clamp (by omega)
        have i1 : inb (nI t) (hL h l) = true := inb_nI (by omega) (by omega)
        have g0 : ¬ nI t < 0 := nI_pos (by omega)
        have hl := y3 t ht.1
        by_cases q1 : D t = some v
        · rw [q1, oI_some] at hl
          simp only [w80, a1, a2, a3, a4, a5, y2.1, hle, h7, oI_some, g0, c1, i1, hl, Option.toList_some, List.cons_append, List.nil_append, true_or, or_true, true_implies, not_true_eq_false, not_false_eq_true, false_implies, and_true, true_and, nI_1]
          exact k1 j _ haj (by unfold pr80; rw [q0]; simp [q1]) hno
        · have hne : ¬ hI h l t = nI v := fun z => by
            rw [hl] at z
            cases q2 : D t with
            | none =>
              rw [q2, oI_none] at z
              have := congrArg Int32.toInt z
              rw [nI_toInt (by omega)] at this
              simp at this
            | some k =>
              rw [q2, oI_some] at z
              have := hD t k q2
              exact q1 (by rw [q2, nI_inj (by omega) (by omega) z])
          simp only [w80, a1, a2, a3, a4, a5, y2.1, hle, h7, oI_some, g0, c1, i1, hne, Option.toList_some, List.cons_append, List.nil_append, true_or, or_true, true_implies, not_true_eq_false, not_false_eq_true, false_implies, and_true, true_and, nI_1]
          exact hmore (by unfold pr80; rw [q0]; simp [q1]) _
  rw [we80]
  simp only [w80]
  exact lp L.length 0 _ rfl (Nat.zero_le _) (fun i a' hi => absurd hi (Nat.not_lt_zero _))
end Starts

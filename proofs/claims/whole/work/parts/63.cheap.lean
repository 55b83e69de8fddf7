/-! ===== Cheapest: hang, takeOff, takeLeast ===== -/
def CHp (h : AH) (q l p : Nat) (su bh ah hd : Nat → Int32) (ln : Int32) : AH :=
  (hT h, hL h, fun a => if a = q then su else if a = l then bh else if a = p then ah else if a = 56 then hd else if a = 55 then va_up (hI h 55) 3 ln else hI h a, hJ h, hR h, hN h, hS h)
theorem CHp_I (h : AH) (q l p : Nat) (su bh ah hd : Nat → Int32) (ln : Int32) (a : Nat) : hI (CHp h q l p su bh ah hd ln) a = if a = q then su else if a = l then bh else if a = p then ah else if a = 56 then hd else if a = 55 then va_up (hI h 55) 3 ln else hI h a := rfl
theorem CHp_only {h : AH} {q l p : Nat} {su bh ah hd : Nat → Int32} {ln : Int32} : OnlyI (fun a => a = q ∨ a = l ∨ a = p ∨ a = 56 ∨ a = 55) h (CHp h q l p su bh ah hd ln) := by
  refine ⟨rfl, rfl, rfl, rfl, rfl, rfl, fun a ha => ?_⟩
  rw [CHp_I, if_neg (fun w => ha (Or.inl w)), if_neg (fun w => ha (Or.inr (Or.inl w))), if_neg (fun w => ha (Or.inr (Or.inr (Or.inl w)))), if_neg (fun w => ha (Or.inr (Or.inr (Or.inr (Or.inl w))))), if_neg (fun w => ha (Or.inr (Or.inr (Or.inr (Or.inr w)))))]
/-- apart -/
def apt (q l p : Nat) : Prop := q ≠ l ∧ q ≠ p ∧ l ≠ p ∧ q ≠ 56 ∧ l ≠ 56 ∧ p ≠ 56 ∧ q ≠ 55 ∧ l ≠ 55 ∧ p ≠ 55
theorem CHp_r {h : AH} {q l p : Nat} (n : apt q l p) : ∀ (su bh ah hd : Nat → Int32) (ln : Int32), hT (CHp h q l p su bh ah hd ln) = hT h ∧ hL (CHp h q l p su bh ah hd ln) = hL h ∧ hR (CHp h q l p su bh ah hd ln) = hR h ∧
    hI (CHp h q l p su bh ah hd ln) q = su ∧ hI (CHp h q l p su bh ah hd ln) l = bh ∧ hI (CHp h q l p su bh ah hd ln) p = ah ∧ hI (CHp h q l p su bh ah hd ln) 56 = hd ∧ hI (CHp h q l p su bh ah hd ln) 55 3 = ln ∧
    (∀ k v, sI (CHp h q l p su bh ah hd ln) q k v = CHp h q l p (va_up su k v) bh ah hd ln) ∧ (∀ k v, sI (CHp h q l p su bh ah hd ln) l k v = CHp h q l p su (va_up bh k v) ah hd ln) ∧ (∀ k v, sI (CHp h q l p su bh ah hd ln) p k v = CHp h q l p su bh (va_up ah k v) hd ln) ∧ (∀ k v, sI (CHp h q l p su bh ah hd ln) 56 k v = CHp h q l p su bh ah (va_up hd k v) ln) ∧ (∀ v, sI (CHp h q l p su bh ah hd ln) 55 3 v = CHp h q l p su bh ah hd v) := by
  obtain ⟨n1, n2, n3, n4, n5, n6, n7, n8, n9⟩ := n
  intro su bh ah hd ln
  have n1' := Ne.symm n1
  have n2' := Ne.symm n2
  have n3' := Ne.symm n3
  have n4' := Ne.symm n4
  have n5' := Ne.symm n5
  have n6' := Ne.symm n6
  have n7' := Ne.symm n7
  have n8' := Ne.symm n8
  have n9' := Ne.symm n9
  have e : ∀ a k v (su' bh' ah' hd' : Nat → Int32) (ln' : Int32), (∀ c, hI (setI (CHp h q l p su bh ah hd ln) a (va_up (hI (CHp h q l p su bh ah hd ln) a) k v)) c = hI (CHp h q l p su' bh' ah' hd' ln') c) → sI (CHp h q l p su bh ah hd ln) a k v = CHp h q l p su' bh' ah' hd' ln' := fun a k v su' bh' ah' hd' ln' hh => by
    rw [sI_as]
    exact ah_ext rfl rfl (funext hh) rfl rfl rfl rfl
  refine ⟨rfl, rfl, rfl, ?_, ?_, ?_, ?_, ?_, fun k v => e q k v _ _ _ _ _ fun c => ?_, fun k v => e l k v _ _ _ _ _ fun c => ?_, fun k v => e p k v _ _ _ _ _ fun c => ?_, fun k v => e 56 k v _ _ _ _ _ fun c => ?_, fun v => e 55 3 v _ _ _ _ _ fun c => ?_⟩
  · rw [CHp_I, if_pos rfl]
  · rw [CHp_I, if_neg n1', if_pos rfl]
  · rw [CHp_I, if_neg n2', if_neg n3', if_pos rfl]
  · rw [CHp_I, if_neg n4', if_neg n5', if_neg n6', if_pos rfl]
  · rw [CHp_I, if_neg n7', if_neg n8', if_neg n9', if_neg (by decide), if_pos rfl, up_at, if_pos rfl]
  · rw [hI_setI, CHp_I, CHp_I, CHp_I]
    by_cases w : c = q
    · simp only [w, if_true]
    · simp only [w, if_false]
  · rw [hI_setI, CHp_I, CHp_I, CHp_I]
    by_cases w : c = l
    · simp only [w, if_true, n1', if_false]
    · simp only [w, if_false]
  · rw [hI_setI, CHp_I, CHp_I, CHp_I]
    by_cases w : c = p
    · simp only [w, if_true, n2', n3', if_false]
    · simp only [w, if_false]
  · rw [hI_setI, CHp_I, CHp_I, CHp_I]
    by_cases w : c = 56
    · simp only [w, if_true, n4', n5', n6', if_false]
    · simp only [w, if_false]
  · rw [hI_setI, CHp_I, CHp_I, CHp_I]
    by_cases w : c = 55
    · subst w
      simp only [if_true, n7', n8', n9', if_false, show ¬ (55 : Nat) = 56 from by decide]
      funext j
      rw [up_at, up_at, up_at]
      split <;> rfl
    · simp only [w, if_false]
/-- what the search needs of the heap -/
def CX (h : AH) (q l p N : Nat) (L : List Act) : Prop := (hT h 55 = 2 ∧ hT h 36 = 1 ∧ hT h 56 = 100 ∧ hL h 56 = 100 ∧ hR h 55 1 = 36 ∧ hR h 55 2 = 56 ∧ hR h 55 4 = q ∧ hR h 55 5 = l ∧ hR h 55 6 = p ∧ hT h q = 100 ∧ hT h l = 100 ∧ hT h p = 100) ∧ (N ≤ hL h q ∧ hL h q ≤ 65536 ∧ N ≤ hL h l ∧ hL h l ≤ 65536 ∧ N ≤ hL h p ∧ hL h p ≤ 65536) ∧ apt q l p ∧ ((q < 36 ∨ 41 < q) ∧ (l < 36 ∨ 41 < l) ∧ (p < 36 ∨ 41 < p)) ∧ F_acts h ∧ ActsHold h N L
theorem CX.acts {h : AH} {q l p N : Nat} {L : List Act} (x : CX h q l p N L) (su bh ah hd : Nat → Int32) (ln : Int32) : ActsHold (CHp h q l p su bh ah hd ln) N L := by
  obtain ⟨-, -, -, ⟨x1, x2, x3⟩, -, x4⟩ := x
  refine x4.ofI fun a a1 a2 => ?_
  rw [CHp_I, if_neg (by omega), if_neg (by omega), if_neg (by omega), if_neg (by omega), if_neg (by omega)]
section Cheap
variable {h : AH} {q l p N b : Nat} {L : List Act} {Q : Option Value → AH → Prop} {su bh ah hd : Nat → Int32} {ln : Int32}
theorem h100 : ¬ (100 : Int32) = 0 := by decide
theorem rem100 {c : Nat} (hc : c < 2 ^ 31) : nI c - nI c / 100 * 100 = nI (c % 100) := pk_rem (d := 100) hc (by decide) (by decide)
theorem s15 (x : CX h q l p N L) {s c : Nat} {o : Option Nat} (hs : s < N) (hc : c < 2 ^ 31) (ho : hd (c % 100) = oI o) (hox : ∀ y, o = some y → y < N) : WPM 15 [.ref 55, .int (nI s), .int (nI c)] (CHp h q l p su bh ah hd ln) Q ↔ Q none (CHp h q l p (va_up su s (nI c)) (va_up bh s (hd (c % 100))) (hangA ah s o) (va_up hd (c % 100) (nI s)) ln) := by
  obtain ⟨⟨a1, a2, a3, a4, a5, a6, a7, a8, a9, a10, a11, a12⟩, ⟨l1, l2, l3, l4, l5, l6⟩, n, -⟩ := x
  have hr := CHp_r (h := h) n
  have c1 : (nI s).toNatClampNeg = s := nI_clamp (by omega)
  have hm : c % 100 < 100 := Nat.mod_lt _ (by decide)
  have c2 : (nI (c % 100)).toNatClampNeg = c % 100 := nI_clamp (by omega)
  have i1 : inb (nI s) (hL h q) = true := inb_nI (by omega) (by omega)
  have i2 : inb (nI s) (hL h l) = true := inb_nI (by omega) (by omega)
  have i3 : inb (nI s) (hL h p) = true := inb_nI (by omega) (by omega)
  have i4 : inb (nI (c % 100)) 100 = true := inb_nI hm (by decide)
  cases o with
  | none =>
    rw [oI_none] at ho
    simp only [we15, w15_a, w15_b, hr, a1, a3, a4, a6, a7, a8, a9, a10, a11, a12, rem100 hc, h100, c1, c2, i1, i2, i3, i4, ho, show ((-1 : Int32) < 0) from by decide, true_or, or_true, true_implies, not_true_eq_false, not_false_eq_true, false_implies, and_true, true_and]
    rfl
  | some y =>
    rw [oI_some] at ho
    have hy := hox y rfl
    have c3 : (nI y).toNatClampNeg = y := nI_clamp (by omega)
    have i5 : inb (nI y) (hL h p) = true := inb_nI (by omega) (by omega)
    have g0 : ¬ nI y < 0 := nI_pos (by omega)
    simp only [we15, w15_a, w15_b, hr, a1, a3, a4, a6, a7, a8, a9, a10, a11, a12, rem100 hc, h100, c1, c2, c3, i1, i2, i3, i4, i5, ho, g0, true_or, or_true, true_implies, not_true_eq_false, not_false_eq_true, false_implies, and_true, true_and]
    rfl
theorem s16 (x : CX h q l p N L) {s c : Nat} {a0 b0 : Option Nat} (hs : s < N) (hc : c < 2 ^ 31) (hsu : su s = nI c) (ha : ah s = oI a0) (hb : bh s = oI b0) (hax : ∀ y, a0 = some y → y < N ∧ y ≠ s) (hbx : ∀ y, b0 = some y → y < N ∧ y ≠ s) : WPM 16 [.ref 55, .int (nI s)] (CHp h q l p su bh ah hd ln) Q ↔ Q none (CHp h q l p su (offB bh a0 b0) (offA ah a0 b0) (offH hd (c % 100) a0 b0) ln) := by
  obtain ⟨⟨a1, a2, a3, a4, a5, a6, a7, a8, a9, a10, a11, a12⟩, ⟨l1, l2, l3, l4, l5, l6⟩, n, -⟩ := x
  have hr := CHp_r (h := h) n
  have c1 : (nI s).toNatClampNeg = s := nI_clamp (by omega)
  have hm : c % 100 < 100 := Nat.mod_lt _ (by decide)
  have c2 : (nI (c % 100)).toNatClampNeg = c % 100 := nI_clamp (by omega)
  have i1 : inb (nI s) (hL h q) = true := inb_nI (by omega) (by omega)
  have i2 : inb (nI s) (hL h l) = true := inb_nI (by omega) (by omega)
  have i3 : inb (nI s) (hL h p) = true := inb_nI (by omega) (by omega)
  have i4 : inb (nI (c % 100)) 100 = true := inb_nI hm (by decide)
  have m1 : ((-1 : Int32) < 0) := by decide
  cases a0 with
  | none =>
    rw [oI_none] at ha
    cases b0 with
    | none =>
      rw [oI_none] at hb
      simp only [we16, w16_a, w16_b, hr, a1, a3, a4, a6, a7, a8, a9, a10, a11, a12, hsu, rem100 hc, h100, c1, c2, i1, i2, i3, i4, ha, hb, m1, true_or, or_true, true_implies, not_true_eq_false, not_false_eq_true, false_implies, and_true, true_and]
      rfl
    | some y =>
      rw [oI_some] at hb
      obtain ⟨hy, hys⟩ := hbx y rfl
      have c3 : (nI y).toNatClampNeg = y := nI_clamp (by omega)
      have i5 : inb (nI y) (hL h p) = true := inb_nI (by omega) (by omega)
      have g0 : ¬ nI y < 0 := nI_pos (by omega)
      simp only [we16, w16_a, w16_b, hr, a1, a3, a4, a6, a7, a8, a9, a10, a11, a12, hsu, rem100 hc, h100, c1, c2, c3, i1, i2, i3, i4, i5, ha, hb, g0, m1, true_or, or_true, true_implies, not_true_eq_false, not_false_eq_true, false_implies, and_true, true_and]
      rfl
  | some z =>
    rw [oI_some] at ha
    obtain ⟨hz, hzs⟩ := hax z rfl
    have c4 : (nI z).toNatClampNeg = z := nI_clamp (by omega)
    have i6 : inb (nI z) (hL h l) = true := inb_nI (by omega) (by omega)
    have g1 : ¬ nI z < 0 := nI_pos (by omega)
    have hsz : ¬ s = z := Ne.symm hzs
    cases b0 with
    | none =>
      rw [oI_none] at hb
      simp only [we16, w16_a, w16_b, hr, a1, a3, a4, a6, a7, a8, a9, a10, a11, a12, c1, c4, i1, i2, i3, i6, ha, hb, g1, m1, up_at, hsz, if_false, true_or, or_true, true_implies, not_true_eq_false, not_false_eq_true, false_implies, and_true, true_and]
      rfl
    | some y =>
      rw [oI_some] at hb
      obtain ⟨hy, hys⟩ := hbx y rfl
      have c3 : (nI y).toNatClampNeg = y := nI_clamp (by omega)
      have i5 : inb (nI y) (hL h p) = true := inb_nI (by omega) (by omega)
      have g0 : ¬ nI y < 0 := nI_pos (by omega)
      simp only [we16, w16_a, w16_b, hr, a1, a3, a4, a6, a7, a8, a9, a10, a11, a12, c1, c3, c4, i1, i2, i3, i5, i6, ha, hb, g0, g1, m1, up_at, hsz, if_false, true_or, or_true, true_implies, not_true_eq_false, not_false_eq_true, false_implies, and_true, true_and]
      rfl
/-- what hangs, over the rows -/
def HL (N : Nat) (V : Nat → Option Nat) (T : Nat → Prop) (su bh ah hd : Nat → Int32) : Prop := (∀ s, s < N → su s = oI (V s)) ∧ (∀ s c, V s = some c → s < N ∧ c < 2 ^ 24) ∧ Lns hd bh ah (dv V) (fun x => V x ≠ none ∧ ¬ T x)
theorem HL.put (x : CX h q l p N L) {V : Nat → Option Nat} {T : Nat → Prop} {s c : Nat} (hh : HL N V T su bh ah hd) (hs : s < N) (hc : c < 2 ^ 24) (hV : V s = none) (hT' : ¬ T s)
    (k : ∀ su' bh' ah' hd', HL N (va_up V s (some c)) T su' bh' ah' hd' → Q none (CHp h q l p su' bh' ah' hd' ln)) : WPM 15 [.ref 55, .int (nI s), .int (nI c)] (CHp h q l p su bh ah hd ln) Q := by
  obtain ⟨h1, h2, h3⟩ := hh
  obtain ⟨o, ho, hox, hL'⟩ := h3.hang (s := s) (c := c) (fun z => z.1 hV)
  rw [s15 x hs (by omega) ho (fun y hy => by
    have := (hox y hy).1.1
    cases e : V y with
    | none => exact absurd e this
    | some c' => exact (h2 y c' e).1)]
  refine k _ _ _ _ ⟨fun t ht => ?_, fun t c' ht => ?_, ?_⟩
  · rw [up_at, up_at]
    split
    · rfl
    · exact h1 t ht
  · rw [up_at] at ht
    split at ht
    · next w => cases ht; rw [w]; exact ⟨hs, hc⟩
    · exact h2 t c' ht
  · have e1 : dv (va_up V s (some c)) = va_up (dv V) s c := by
      funext t
      unfold dv
      rw [up_at, up_at]
      split <;> rfl
    have e2 : (fun x => va_up V s (some c) x ≠ none ∧ ¬ T x) = (fun x => (V x ≠ none ∧ ¬ T x) ∨ x = s) := by
      funext t
      rw [up_at]
      by_cases w : t = s
      · subst w
        simp [hT']
      · simp [w]
    rw [e1, e2]
    exact hL'
theorem HL.off (x : CX h q l p N L) {V : Nat → Option Nat} {T : Nat → Prop} {s c : Nat} (hh : HL N V T su bh ah hd) (hV : V s = some c) (hT' : ¬ T s)
    (k : ∀ bh' ah' hd', (∀ s, s < N → su s = oI (V s)) → (∀ s c, V s = some c → s < N ∧ c < 2 ^ 24) → Lns hd' bh' ah' (dv V) (fun x => (V x ≠ none ∧ ¬ T x) ∧ x ≠ s) → Q none (CHp h q l p su bh' ah' hd' ln)) : WPM 16 [.ref 55, .int (nI s)] (CHp h q l p su bh ah hd ln) Q := by
  obtain ⟨h1, h2, h3⟩ := hh
  obtain ⟨hs, hc⟩ := h2 s c hV
  obtain ⟨a0, b0, ha, hb, hax, hbx, hL'⟩ := h3.off (s := s) ⟨by rw [hV]; exact Option.some_ne_none _, hT'⟩
  have hsu : su s = nI c := by rw [h1 s hs, hV]; rfl
  have hlt : ∀ y, V y ≠ none → y < N := fun y hy => by
    cases e : V y with
    | none => exact absurd e hy
    | some c' => exact (h2 y c' e).1
  rw [dv_some hV] at hL'
  rw [s16 x hs (by omega) hsu ha hb (fun y hy => ⟨hlt y (hax y hy).1.1, (hax y hy).2⟩) (fun y hy => ⟨hlt y (hbx y hy).1.1, (hbx y hy).2⟩)]
  exact k _ _ _ h1 h2 hL'
/-- the least is taken: none hangs, or s of the least sum -/
theorem s14 (x : CX h q l p N L) {V : Nat → Option Nat} {T : Nat → Prop} {cur : Nat} (hN9 : N ≤ 65536) (hh : HL N V T su bh ah hd) (hcur : cur < 2 ^ 24) (hln : ln = nI (cur % 100)) (hin : ∀ s c, V s = some c → ¬ T s → cur ≤ c ∧ c ≤ cur + 99)
    (k1 : (∀ s, V s ≠ none → T s) → Q (some (.int (-1))) (CHp h q l p su bh ah hd ln))
    (k2 : ∀ s c bh' ah' hd', V s = some c → ¬ T s → (∀ s' c', V s' = some c' → ¬ T s' → c ≤ c') → HL N V (fun y => T y ∨ y = s) su bh' ah' hd' → Q (some (.int (nI s))) (CHp h q l p su bh' ah' hd' (nI (c % 100)))) : WPM 14 [.ref 55] (CHp h q l p su bh ah hd ln) Q := by
  obtain ⟨⟨a1, a2, a3, a4, a5, a6, a7, a8, a9, a10, a11, a12⟩, ⟨l1, l2, l3, l4, l5, l6⟩, n, -⟩ := id x
  have hr := CHp_r (h := h) n
  subst hln
  obtain ⟨h1, h2, ls, h3⟩ := id hh
  have lp : ∀ d st y2, 100 - st = d → st ≤ 100 → (∀ s c, V s = some c → ¬ T s → cur + st ≤ c) → WP 14 2 [.ref 55, .int (nI st), y2, .retAddr 0] [] (CHp h q l p su bh ah hd (nI (cur % 100))) Q := by
    intro d
    induction d with
    | zero =>
      intro st y2 hd' hst hge
      have hle : (100 : Int32) ≤ nI st := nI_le (a := 100) (by omega) (by omega)
      rw [w14_2]
      simp only [w14, hle, true_implies, not_true_eq_false, false_implies, and_true]
      refine k1 fun s hs => ?_
      cases e : V s with
      | none => exact absurd e hs
      | some c =>
        by_cases w : T s
        · exact w
        · have := hge s c e w
          have := (hin s c e w).2
          omega
    | succ d ih =>
      intro st y2 hd' hst hge
      have hle : ¬ (100 : Int32) ≤ nI st := nI_ge (b := 100) (by omega) (by omega)
      have hat : (cur + st) % 100 < 100 := Nat.mod_lt _ (by decide)
      have e1 : nI (cur % 100) + nI st - (nI (cur % 100) + nI st) / 100 * 100 = nI ((cur + st) % 100) := by
        rw [nI_add, rem100 (by omega)]
        congr 1
        omega
      have c1 : (nI ((cur + st) % 100)).toNatClampNeg = (cur + st) % 100 := nI_clamp (by omega)
      have i1 : inb (nI ((cur + st) % 100)) 100 = true := inb_nI hat (by decide)
      obtain ⟨k1', k2', k3', k4'⟩ := h3 _ hat
      rw [w14_2]
      cases e : (ls ((cur + st) % 100)).head? with
      | none =>
        rw [e, oI_none] at k1'
        simp only [w14, hle, hr, a1, a3, a4, a6, h100, e1, c1, i1, k1', show ((-1 : Int32) < 0) from by decide, true_or, or_true, true_implies, not_true_eq_false, not_false_eq_true, false_implies, and_true, true_and, nI_1]
        refine ih (st + 1) _ (by omega) (by omega) fun s c hs ht => ?_
        have g1 := hge s c hs ht
        have g2 := (hin s c hs ht).2
        rcases Nat.eq_or_lt_of_le g1 with w | w
        · have hm : s ∈ ls ((cur + st) % 100) := (k4' s).mpr ⟨⟨by rw [hs]; exact Option.some_ne_none _, ht⟩, by rw [dv_some hs, ← w]⟩
          have : ls ((cur + st) % 100) = [] := List.head?_eq_none_iff.mp e
          rw [this] at hm
          exact absurd hm List.not_mem_nil
        · omega
      | some s =>
        rw [e, oI_some] at k1'
        have hm : s ∈ ls ((cur + st) % 100) := List.mem_of_mem_head? e
        obtain ⟨⟨v1, v2⟩, v3⟩ := (k4' s).mp hm
        obtain ⟨c, hc⟩ : ∃ c, V s = some c := by
          cases e2 : V s with
          | none => exact absurd e2 v1
          | some c => exact ⟨c, rfl⟩
        rw [dv_some hc] at v3
        have g1 := hge s c hc v2
        have g2 := (hin s c hc v2).2
        have hcc : c = cur + st := by omega
        have hsN := (h2 s c hc).1
        have g0 : ¬ nI s < 0 := nI_pos (by omega)
        simp only [w14, hle, hr, a1, a3, a4, a6, h100, e1, c1, i1, k1', g0, true_or, or_true, true_implies, not_true_eq_false, not_false_eq_true, false_implies, and_true, true_and, nI_1]
        refine HL.off x hh hc v2 fun bh' ah' hd' g3 g4 g5 => ?_
        simp only [w14, Option.toList_none, List.nil_append]
        rw [← hcc]
        refine k2 s c bh' ah' hd' hc v2 (fun s' c' hs' ht' => by have := hge s' c' hs' ht'; omega) ⟨g3, g4, ?_⟩
        have e2 : (fun x => V x ≠ none ∧ ¬ (T x ∨ x = s)) = (fun x => (V x ≠ none ∧ ¬ T x) ∧ x ≠ s) := by
          funext t
          simp only [not_or, and_assoc, ne_eq]
        rw [e2]
        exact g5
  rw [we14]
  simp only [w14]
  exact lp 100 0 _ rfl (Nat.zero_le _) (fun s c hs ht => by have := (hin s c hs ht).1; omega)
end Cheap

/-! ===== isEnd; Reach.firstEnd ===== -/
def isEndB (w wi s : Nat) : Bool := if w / 4 % 2 = 1 then decide (s = wi) else decide (s &&& wi = wi)
abbrev isEndP (w wi s : Nat) : Prop := isEndB w wi s = true
theorem isEndP_iff {w wi s : Nat} : isEndP w wi s ↔ (if w / 4 % 2 = 1 then s = wi else s &&& wi = wi) := by
  show isEndB w wi s = true ↔ _
  unfold isEndB
  split
  · exact decide_eq_true_iff
  · exact decide_eq_true_iff
theorem isEndP_sub {w wi s : Nat} (h : isEndP w wi s) : sub wi s := by
  rw [isEndP_iff] at h
  split at h
  · subst h; exact fun _ q => q
  · exact sub_and.mpr h
theorem s142n {w wi s : Nat} (hw : w < 8) (hs : s < 65536) (hwi : wi < 65536) (h : AH) (Q : Option Value → AH → Prop) : WPM 142 [.int (nI s), .int (nI wi), .int (nI w)] h Q ↔ Q (some (.int (if isEndP w wi s then 1 else 0))) h := by
  have h4 : (nI w &&& 4 = 0) ↔ ¬ w / 4 % 2 = 1 := by
    have : ∀ w, w < 8 → ((nI w &&& 4 = 0) ↔ ¬ w / 4 % 2 = 1) := by decide +kernel
    exact this w hw
  have ha : s &&& wi < 65536 := Nat.lt_of_le_of_lt Nat.and_le_left hs
  have e1 : (nI s = nI wi) ↔ s = wi := nI_eq (by omega) (by omega)
  have e2 : (nI (s &&& wi) = nI wi) ↔ s &&& wi = wi := nI_eq (by omega) (by omega)
  have hi := isEndP_iff (w := w) (wi := wi) (s := s)
  by_cases q4 : w / 4 % 2 = 1
  · have z4 : ¬ (nI w &&& 4 = 0) := fun z => (h4.mp z) q4
    rw [if_pos q4] at hi
    by_cases q : s = wi
    · have q' := e1.mpr q
      rw [if_pos (hi.mpr q)]
      simp only [we142, w142, z4, q', true_or, or_true, true_implies, false_implies, not_true_eq_false, not_false_eq_true, true_and, and_true]
    · have q' : ¬ nI s = nI wi := fun z => q (e1.mp z)
      rw [if_neg (fun z => q (hi.mp z))]
      simp only [we142, w142, z4, q', true_or, or_true, true_implies, false_implies, not_true_eq_false, not_false_eq_true, true_and, and_true]
  · have z4 : nI w &&& 4 = 0 := h4.mpr q4
    rw [if_neg q4] at hi
    by_cases q : s &&& wi = wi
    · have q' := e2.mpr q
      rw [if_pos (hi.mpr q)]
      simp only [we142, w142, z4, s141, nI_and, q', if_true, Option.toList_some, List.cons_append, List.nil_append, true_or, or_true, true_implies, false_implies, not_true_eq_false, not_false_eq_true, true_and, and_true]
    · have q' : ¬ nI (s &&& wi) = nI wi := fun z => q (e2.mp z)
      rw [if_neg (fun z => q (hi.mp z))]
      simp only [we142, w142, z4, s141, nI_and, q', if_false, Option.toList_some, List.cons_append, List.nil_append, true_or, or_true, true_implies, false_implies, not_true_eq_false, not_false_eq_true, true_and, and_true]
/-- with c bowls an END can be reached -/
def EndAt (L : List Act) (N w wi c : Nat) : Prop := ∃ s, s < N ∧ Rch L N c s ∧ isEndP w wi s
theorem EndAt.mono {L : List Act} {N w wi c c' : Nat} (hc : c ≤ c') (h : EndAt L N w wi c) : EndAt L N w wi c' := by
  obtain ⟨s, h1, h2, h3⟩ := h
  exact ⟨s, h1, h2.mono hc, h3⟩
theorem EndAt.pc {L : List Act} {N w wi c : Nat} (h : EndAt L N w wi c) : pc wi ≤ c := by
  obtain ⟨s, h1, h2, h3⟩ := h
  exact Nat.le_trans (sub_pc (isEndP_sub h3)) (h2.le (by omega)).2
/-- the least bowls up to m: r -/
def FE (L : List Act) (N w wi m : Nat) (r : Int32) : Prop := (r = -1 ∧ ∀ c, c ≤ m → ¬ EndAt L N w wi c) ∨ ∃ c, r = nI c ∧ c ≤ m ∧ EndAt L N w wi c ∧ ∀ c', c' < c → ¬ EndAt L N w wi c'
section First
variable {h : AH} {B M N w wi m : Nat} {L : List Act} {Q : Option Value → AH → Prop}
theorem i32_10 : ¬ (1 : Int32) = 0 := by decide
/-- the look through the sets -/
theorem first_in {b c : Nat} {l : Nat → Nat} (cw : CW B M h) (rl : RLv h N l) (hok : LvOK L N b l) (hcb : c ≤ b) (hb : b ≤ 14) (hN : N ≤ 16384) (hw : w < 8) (hwi : wi < 16384)
    (k1 : EndAt L N w wi c → Q (some (.int (nI c))) h)
    (k2 : ∀ y, (∀ s, s < N → Rch L N c s → ¬ isEndP w wi s) → WP 58 6 [.ref 47, .int (nI wi), .int (nI w), .int (nI m), .int (nI (c + 1)), .int y] [] h Q) :
    ∀ d x, N - x = d → wi ≤ x → x ≤ 16384 → (∀ s, wi ≤ s → s < x → s < N → Rch L N c s → ¬ isEndP w wi s) → WP 58 21 [.ref 47, .int (nI wi), .int (nI w), .int (nI m), .int (nI c), .int (nI x)] [] h Q := by
  have h47 : hT h 47 = 7 := by simp only [cw.1]
  have d0 := cw.2.1
  have lt := d0.2.1.2.2.2.2.1
  have ll := d0.2.2.1.2.2.2.2.1
  obtain ⟨r5, rL, rv⟩ := rl
  intro d
  induction d with
  | zero =>
    intro x hd hx hx9 hno
    have hle : nI N ≤ nI x := nI_le (by omega) (by omega)
    rw [w58_21]
    simp only [w58, h47, r5, hle, true_implies, not_true_eq_false, false_implies, and_true, nI_1]
    refine k2 _ fun s hs hr he => ?_
    exact hno s (sub_le (isEndP_sub he)) (by omega) hs hr he
  | succ d ih =>
    intro x hd hx hx9 hno
    have hxN : x < N := by omega
    have hle : ¬ nI N ≤ nI x := nI_ge (by omega) (by omega)
    have hcl : (nI x).toNatClampNeg = x := nI_clamp (by omega)
    have hib : inb (nI x) (hL h (hR h 47 2)) = true := inb_nI (by omega) (by omega)
    have hv := rv x hxN
    have hlv := ((hok x hxN).1 c hcb)
    have step : ¬ (Rch L N c x ∧ isEndP w wi x) → WP 58 21 [.ref 47, .int (nI wi), .int (nI w), .int (nI m), .int (nI c), .int (nI (x + 1))] [] h Q := fun hn => by
      refine ih (x + 1) (by omega) (by omega) (by omega) fun s s1 s2 s3 s4 s5 => ?_
      rcases Nat.lt_or_ge s x with q | q
      · exact hno s s1 q s3 s4 s5
      · have : s = x := by omega
        subst this
        exact hn ⟨s4, s5⟩
    rw [w58_21]
    by_cases q1 : l x ≤ c
    · have hlt : ¬ nI c < nI (l x) := nI_nlt q1 (by omega)
      by_cases q2 : isEndP w wi x
      · simp only [w58, h47, r5, hle, hcl, lt, hib, hv.1, hlt, s142n hw (show x < 65536 by omega) (show wi < 65536 by omega), if_pos q2, Option.toList_some, List.cons_append, List.nil_append, true_or, or_true, true_implies, not_true_eq_false, not_false_eq_true, false_implies, and_true, true_and, i32_10]
        exact k1 ⟨x, hxN, hlv.mp q1, q2⟩
      · simp only [w58, h47, r5, hle, hcl, lt, hib, hv.1, hlt, s142n hw (show x < 65536 by omega) (show wi < 65536 by omega), if_neg q2, Option.toList_some, List.cons_append, List.nil_append, true_or, or_true, true_implies, not_true_eq_false, not_false_eq_true, false_implies, and_true, true_and, nI_1]
        exact step fun z => q2 z.2
    · have hlt : nI c < nI (l x) := nI_lt (by omega) (by omega)
      simp only [w58, h47, r5, hle, hcl, lt, hib, hv.1, hlt, true_or, or_true, true_implies, not_true_eq_false, not_false_eq_true, false_implies, and_true, true_and, nI_1]
      exact step fun z => q1 (hlv.mpr z.1)
theorem first_l (ha : ActsOK L) (hn9 : 0 < N ∧ N ≤ 16384) (hm : N ∈ sizes) (hm9 : m ≤ 14) (hw : w < 8) (hwi : wi < 16384)
    (k : ∀ h' r b, FE L N w wi m r → CW B M h' → ActsHold h' N L → b ≤ 14 → RKn h' N L b → CFr (rcI h) (fun _ => False) h h' → hR h' 47 2 = hR h 47 2 → (∀ j, j ≠ 4 → j ≠ 7 → hI h' 47 j = hI h 47 j) → Q (some (.int r)) h') :
    ∀ d c h1 b y, m + 1 - c = d → c ≤ 17 → CW B M h1 → ActsHold h1 N L → b ≤ 14 → RKn h1 N L b → CFr (rcI h) (fun _ => False) h h1 → hR h1 47 2 = hR h 47 2 → (∀ j, j ≠ 4 → j ≠ 7 → hI h1 47 j = hI h 47 j) → (∀ c', c' < c → ¬ EndAt L N w wi c') → WP 58 6 [.ref 47, .int (nI wi), .int (nI w), .int (nI m), .int (nI c), y] [] h1 Q := by
  intro d
  induction d with
  | zero =>
    intro c h1 b y hd hc17 cw hA hb rk cf er ei hno
    have hlt : nI m < nI c := nI_lt (by omega) (by omega)
    rw [w58_6]
    simp only [w58, hlt, true_implies, not_true_eq_false, false_implies, and_true]
    exact k h1 _ b (Or.inl ⟨rfl, fun c' hc' => hno c' (by omega)⟩) cw hA hb rk cf er ei
  | succ d ih =>
    intro c h1 b y hd hc17 cw hA hb rk cf er ei hno
    have hlt : ¬ nI m < nI c := nI_nlt (by omega) (by omega)
    have h47 : hT h1 47 = 7 := by simp only [cw.1]
    rw [w58_6]
    simp only [w58, h47, hlt, true_implies, not_false_eq_true, false_implies, true_and]
    refine s59 cw hA rk ha hn9 hm (by omega) (by omega) fun h2 cw2 hA2 rk2 cf2 er2 ei2 => ?_
    simp only [w58, Option.toList_none, List.nil_append]
    have cf3 : CFr (rcI h) (fun _ => False) h h2 := cf.trans cf2 (fun a ha' q => by unfold rcI at q ⊢; omega) (fun _ _ q => q)
    have er3 : hR h2 47 2 = hR h 47 2 := er2.trans er
    have ei3 : ∀ j, j ≠ 4 → j ≠ 7 → hI h2 47 j = hI h 47 j := fun j j4 j7 => (ei2 j j4 j7).trans (ei j j4 j7)
    obtain ⟨l, rl, hok⟩ := rk2.2
    refine first_in cw2 rl hok (by omega) (by omega) hn9.2 hw hwi (fun he => ?_) (fun y' hne => ?_) (N - wi) wi rfl (Nat.le_refl _) (by omega) (fun s s1 s2 => by omega)
    · exact k h2 _ (max b c) (Or.inr ⟨c, rfl, by omega, he, hno⟩) cw2 hA2 (by omega) rk2 cf3 er3 ei3
    · refine ih (c + 1) h2 (max b c) _ (by omega) (by omega) cw2 hA2 (by omega) rk2 cf3 er3 ei3 fun c' hc' => ?_
      rcases Nat.lt_or_ge c' c with q | q
      · exact hno c' q
      · have : c' = c := by omega
        subst this
        rintro ⟨s, s1, s2, s3⟩
        exact hne s s1 s2 s3
theorem s58 {b : Nat} (cw : CW B M h) (hA : ActsHold h N L) (hb : b ≤ 14) (rk : RKn h N L b) (ha : ActsOK L) (hn9 : 0 < N ∧ N ≤ 16384) (hm : N ∈ sizes) (hm9 : m ≤ 14) (hw : w < 8) (hwi : wi < 16384)
    (k : ∀ h' r b, FE L N w wi m r → CW B M h' → ActsHold h' N L → b ≤ 14 → RKn h' N L b → CFr (rcI h) (fun _ => False) h h' → hR h' 47 2 = hR h 47 2 → (∀ j, j ≠ 4 → j ≠ 7 → hI h' 47 j = hI h 47 j) → Q (some (.int r)) h') : WPM 58 [.ref 47, .int (nI wi), .int (nI w), .int (nI m)] h Q := by
  have hbc : bcI (nI wi) = nI (pc wi) := bc_pc (by omega)
  rw [we58]
  simp only [w58, s218, hbc, Option.toList_some, List.cons_append, List.nil_append]
  exact first_l ha hn9 hm hm9 hw hwi k _ (pc wi) h b _ rfl (by have := pc_le wi; omega) cw hA hb rk CFr.rf rfl (fun _ _ _ => rfl) (fun c' hc' he => by have := he.pc; omega)
end First

/-! ===== Reader: its heap, fail, refuse, begin; one token on ===== -/
abbrev TT : Type := Nat × Nat × Nat × Nat
def nxt (t : Nat → Int32) (len : Nat) (c : TT) : TT := tok t len c.2.2.2
def okT (c : TT) : Prop := c.1 ≤ 11 ∧ c.2.1 ≤ 541 ∧ c.2.2.1 < 2 ^ 31 ∧ c.2.2.2 ≤ 541 ∧ (c.1 = 8 → c.2.2.1 ≤ 99)
theorem nv_lt {t : Nat → Int32} : ∀ m a acc c, acc < c → (∀ i, a ≤ i → i < a + m → isDB (t i) = true) → nv t m a acc < c * 10 ^ m := by
  intro m
  induction m with
  | zero => exact fun a acc c h _ => by show acc < c * 1; omega
  | succ m ih =>
    intro a acc c h hl
    have h1 := (dg_eq (hl a (Nat.le_refl _) (by omega))).2
    have := ih (a + 1) (acc * 10 + dg (t a)) (c * 10) (by omega) (fun i h2 h3 => hl i (by omega) (by omega))
    show nv t m (a + 1) (acc * 10 + dg (t a)) < c * 10 ^ (m + 1)
    rw [Nat.pow_succ, Nat.mul_comm (10 ^ m), ← Nat.mul_assoc]
    exact this
theorem rnT_ok {t : Nat → Int32} {len a : Nat} (ha : a ≤ len) (hl : len ≤ 540) : okT (rnT t len a) := by
  have hsum := rn_sum t (len - a) a
  have hall := rn_all t (len - a) a
  unfold rnT
  generalize rn t (len - a) a = R at hsum hall ⊢
  split
  · next q =>
    have hw : wv t R.2.1 a 0 < 1 * 27 ^ R.2.1 := wv_lt R.2.1 a 0 1 (by decide) (fun i h1 h2' => hall.1 q.1 i h1 (by omega))
    have hp : (27 : Nat) ^ R.2.1 ≤ 27 ^ 6 := Nat.pow_le_pow_right (by decide) q.2
    exact ⟨by have := kOf_le (wv t R.2.1 a 0); show kOf _ ≤ 11; omega, by show a ≤ 541; omega, by show wv t R.2.1 a 0 < _; omega, by show R.1 ≤ 541; omega, fun z => by have := kOf_le (wv t R.2.1 a 0); change kOf _ = 8 at z; omega⟩
  · split
    · next q =>
      have hw : nv t R.2.2 a 0 < 1 * 10 ^ R.2.2 := nv_lt R.2.2 a 0 1 (by decide) (fun i h1 h2' => hall.2 q.1 i h1 (by omega))
      have hp : (10 : Nat) ^ R.2.2 ≤ 10 ^ 2 := Nat.pow_le_pow_right (by decide) q.2
      exact ⟨by show 8 ≤ 11; omega, by show a ≤ 541; omega, by show nv t R.2.2 a 0 < _; omega, by show R.1 ≤ 541; omega, fun _ => by show nv t R.2.2 a 0 ≤ 99; omega⟩
    · exact ⟨by show 11 ≤ 11; omega, by show a ≤ 541; omega, by show 0 < _; decide, by show R.1 ≤ 541; omega, fun _ => Nat.zero_le _⟩
theorem tok_ok {t : Nat → Int32} {len at0 : Nat} (h0 : at0 ≤ 541) (hl : len ≤ 540) : okT (tok t len at0) := by
  have hsk := skB_le t (min len 500 - at0) at0
  have hk : tok t len at0 = if min len 500 ≤ skB t (min len 500 - at0) at0 then (10, min len 500, 0, skB t (min len 500 - at0) at0) else if t (skB t (min len 500 - at0) at0) = 59 then (9, skB t (min len 500 - at0) at0, 0, skB t (min len 500 - at0) at0 + 1) else if isLB (t (skB t (min len 500 - at0) at0)) = true ∨ isDB (t (skB t (min len 500 - at0) at0)) = true then rnT t len (skB t (min len 500 - at0) at0) else (11, skB t (min len 500 - at0) at0, 0, skB t (min len 500 - at0) at0) := rfl
  rw [hk]
  generalize skB t (min len 500 - at0) at0 = a at hsk ⊢
  split
  · exact ⟨by show 10 ≤ 11; omega, by show min len 500 ≤ 541; omega, by show 0 < _; decide, by show a ≤ 541; omega, fun _ => Nat.zero_le _⟩
  · next q =>
    split
    · exact ⟨by show 9 ≤ 11; omega, by show a ≤ 541; omega, by show 0 < _; decide, by show a + 1 ≤ 541; omega, fun _ => Nat.zero_le _⟩
    · split
      · exact rnT_ok (by omega) hl
      · exact ⟨by show 11 ≤ 11; omega, by show a ≤ 541; omega, by show 0 < _; decide, by show a ≤ 541; omega, fun _ => Nat.zero_le _⟩
/-- the heap of reading: the NET kn, the reader r, the tokens g -/
def RHp (h : AH) (kn : Nat) (F : Nat → Nat → Int32) (r g : Nat → Int32) : AH := NHp (setI (setI h 26 r) 27 g) kn F
theorem RHp_t {h : AH} {kn : Nat} {F : Nat → Nat → Int32} {r g : Nat → Int32} (hk : kn + 10 < 26) : RHp h kn F r g = setI (NHp (setI h 26 r) kn F) 27 g := by
  refine ah_ext rfl rfl ?_ rfl rfl rfl rfl
  funext a
  unfold RHp
  rw [hI_setI]
  by_cases q : kn ≤ a ∧ a ≤ kn + 10
  · have e : a = kn + (a - kn) := by omega
    rw [if_neg (by omega), e, NHp_I (by omega), NHp_I (by omega)]
  · rw [NHp_o (by omega), NHp_o (by omega), hI_setI]
theorem RHp_r {h : AH} {kn : Nat} (hk : kn + 10 < 26) : ∀ (F : Nat → Nat → Int32) (r g : Nat → Int32), hT (RHp h kn F r g) = hT h ∧ hL (RHp h kn F r g) = hL h ∧ hR (RHp h kn F r g) = hR h ∧ hI (RHp h kn F r g) 26 = r ∧ hI (RHp h kn F r g) 27 = g ∧ hI (RHp h kn F r g) kn = F 0 ∧ (∀ k v, sI (RHp h kn F r g) 26 k v = RHp h kn F (va_up r k v) g) ∧ (∀ k v, sI (RHp h kn F r g) kn k v = RHp h kn (upF F 0 k v) r g) := by
  intro F r g
  refine ⟨rfl, rfl, rfl, ?_, ?_, ?_, fun k v => ?_, fun k v => ?_⟩
  · unfold RHp
    rw [NHp_o (by omega), hI_setI, if_neg (by decide), hI_setI, if_pos rfl]
  · unfold RHp
    rw [NHp_o (by omega), hI_setI, if_pos rfl]
  · unfold RHp
    exact NHp_I (j := 0) (by decide)
  · rw [sI_as]
    refine ah_ext rfl rfl ?_ rfl rfl rfl rfl
    funext a
    rw [hI_setI]
    unfold RHp
    by_cases q : a = 26
    · rw [if_pos q, q, NHp_o (by omega), NHp_o (by omega), hI_setI, if_neg (by decide), hI_setI, if_pos rfl, hI_setI, if_neg (by decide), hI_setI, if_pos rfl]
    · rw [if_neg q]
      by_cases q2 : kn ≤ a ∧ a ≤ kn + 10
      · have e : a = kn + (a - kn) := by omega
        rw [e, NHp_I (by omega), NHp_I (by omega)]
      · rw [NHp_o (by omega), NHp_o (by omega), hI_setI, hI_setI, hI_setI, hI_setI, if_neg q, if_neg q]
  · exact NHp_s (j := 0) (by decide) k v
/-- what reading needs of the heap -/
def RX (h : AH) (kn : Nat) : Prop := TkX h ∧ (kn = 4 ∨ kn = 15) ∧ F_net kn h ∧ hT h 26 = 8 ∧ hR h 26 0 = 27 ∧ hR h 26 1 = 30 ∧ hT h 30 = 100 ∧ hL h 30 = 60
/-- the tokens stand at c -/
def GT (len : Nat) (g : Nat → Int32) (c : TT) : Prop := g 2 = nI len ∧ g 3 = nI c.2.2.2 ∧ g 4 = nI c.1 ∧ g 5 = nI c.2.1 ∧ (c.1 ≤ 8 → g 6 = nI c.2.2.1) ∧ okT c
section Rd
variable {h : AH} {kn len : Nat} {F : Nat → Nat → Int32} {r g : Nat → Int32} {c : TT} {Q : Option Value → AH → Prop}
theorem RX.tk (x : RX h kn) : TkX (NHp (setI h 26 r) kn F) := by
  obtain ⟨⟨t1, t2, t3, t4, t5, t6, t7, t8⟩, hk, -⟩ := x
  refine ⟨t1, t2, t3, t4, t5, t6, t7, fun j hj => ?_⟩
  rw [NHp_o (by omega), hI_setI, if_neg (by decide)]
  exact t8 j hj
theorem adv (x : RX h kn) (gt : GT len g c) (hl : len ≤ 540) (k : ∀ g', GT len g' (nxt (hI h 3) len c) → Q none (RHp h kn F r g')) : WPM 95 [.ref 27] (RHp h kn F r g) Q := by
  have hk := x.2.1
  obtain ⟨g2, g3, g4, g5, g6, o1, o2, o3, o4, o5⟩ := gt
  rw [RHp_t (by omega)]
  have e3 : hI (NHp (setI h 26 r) kn F) 3 = hI h 3 := by rw [NHp_o (by omega), hI_setI, if_neg (by decide)]
  refine s95 (at0 := c.2.2.2) x.tk g2 g3 o4 hl fun g' ts => ?_
  rw [e3] at ts
  obtain ⟨u1, u2, u3, u4, u5⟩ := ts
  have := k g' ⟨by rw [u1]; exact g2, u2, u3, u4, u5, tok_ok o4 hl⟩
  rw [RHp_t (by omega)] at this
  exact this
theorem s63 (x : RX h kn) (gt : GT len g c) (fk : Nat) : WPM 63 [.ref 26, .int (nI fk)] (RHp h kn F r g) Q ↔ Q (some (.int 0)) (RHp h kn F (va_up (va_up r 3 (nI fk)) 4 (nI c.2.1)) g) := by
  obtain ⟨tk, hk, hf, t1, t2, t3, t4, t5⟩ := x
  have hr := RHp_r (h := h) (kn := kn) (by omega)
  have t27 := tk.1
  have g5 := gt.2.2.2.1
  simp only [we63, w63, hr, t1, t2, t27, g5, true_or, or_true]
theorem s64 (x : RX h kn) (gt : GT len g c) (fk : Nat) : WPM 64 [.ref 26, .int (nI fk)] (RHp h kn F r g) Q ↔ Q (some (.int (-1))) (RHp h kn F (va_up (va_up r 3 (nI fk)) 4 (nI c.2.1)) g) := by
  have hr := RHp_r (h := h) (kn := kn) (by have := x.2.1; omega)
  have t1 := x.2.2.2.1
  simp only [we64, w64, hr, t1, s63 x gt, Option.toList_some, List.cons_append, List.nil_append, true_or, or_true]
/-- the draft: things, names, parts, prices, wished -/
def DrF (F : Nat → Nat → Int32) (n : Nat) (nm P C : Nat → Nat) (wi : Nat) : Prop := n ≤ 14 ∧ F 0 0 = nI n ∧ F 0 2 = nI wi ∧ (∃ R, F 0 1 = nI R ∧ R < 2 ^ n ∧ ∀ k, k < n → R.testBit k = decide (P k = 0)) ∧ ∀ k, k < n → F 1 k = nI (nm k) ∧ nm k < 2 ^ 31 ∧ F 2 k = nI (C k) ∧ C k ≤ 99 ∧ F 3 k = nI (P k)
theorem find_r {n : Nat} {nm P C : Nat → Nat} {wi w : Nat} (x : RX h kn) (d : DrF F n nm P C wi) (hw : w < 2 ^ 31) (k : Q (some (.int (oI (fnd nm w 0 n)))) (RHp h kn F r g)) : WPM 26 [.ref kn, .int (nI w)] (RHp h kn F r g) Q := by
  obtain ⟨d1, d2, d3, d4, d5⟩ := d
  have hr := RHp_r (h := h) (kn := kn) (by have := x.2.1; omega) F r g
  have hf : F_net kn (RHp h kn F r g) := x.2.2.1
  refine s26 hf (by rw [hr.2.2.2.2.2.1]; exact d2) d1 (fun k hk => ?_) hw k
  have e1 : hI (RHp h kn F r g) (kn + 1) = F 1 := NHp_I (j := 1) (by decide)
  rw [e1]
  exact ⟨(d5 k hk).1, (d5 k hk).2.1⟩
theorem fnd_lt {nm : Nat → Nat} {w : Nat} : ∀ d k j, fnd nm w k d = some j → k ≤ j ∧ j < k + d ∧ nm j = w := by
  intro d
  induction d with
  | zero => intro k j h; cases h
  | succ d ih =>
    intro k j h
    change (if nm k = w then some k else fnd nm w (k + 1) d) = some j at h
    split at h
    · next q => cases h; exact ⟨Nat.le_refl _, by omega, q⟩
    · have := ih (k + 1) j h
      exact ⟨by omega, by omega, this.2.2⟩
/-- a price: the fault, or the price and where it stands -/
def rdPr (t : Nat → Int32) (len : Nat) (c : TT) : (Nat × TT) × Option (Nat × TT) :=
  if c.1 = 3 then
    (if (nxt t len c).1 = 8 then
      (if (nxt t len (nxt t len c)).1 = 9 then ((0, c), some ((nxt t len c).2.2.1, nxt t len (nxt t len c))) else ((1, nxt t len (nxt t len c)), none))
     else ((1, nxt t len c), none))
  else if c.1 = 9 then ((0, c), some (1, c)) else ((1, c), none)
theorem kind_eq {a b : Nat} (ha : a ≤ 11) (hb : b ≤ 11) : nI a = nI b ↔ a = b := nI_eq (by omega) (by omega)
theorem s69 (x : RX h kn) (gt : GT len g c) (hl : len ≤ 540)
    (k1 : ∀ g' p c', GT len g' c' → (rdPr (hI h 3) len c).2 = some (p, c') → p ≤ 99 → Q (some (.int (nI p))) (RHp h kn F r g'))
    (k2 : ∀ g' fk c', GT len g' c' → (rdPr (hI h 3) len c).2 = none → (rdPr (hI h 3) len c).1 = (fk, c') → Q (some (.int (-1))) (RHp h kn F (va_up (va_up r 3 (nI fk)) 4 (nI c'.2.1)) g')) : WPM 69 [.ref 26] (RHp h kn F r g) Q := by
  have hk := x.2.1
  have hr := RHp_r (h := h) (kn := kn) (by omega)
  have t1 := x.2.2.2.1
  have t2 := x.2.2.2.2.1
  have t27 := x.1.1
  have o := gt.2.2.2.2.2
  have g4 := gt.2.2.1
  rw [we69]
  by_cases q1 : c.1 = 3
  · have q1' : nI c.1 = 3 := by rw [q1]; rfl
    simp only [w69, hr, t1, t2, t27, g4, q1', true_implies, not_true_eq_false, not_false_eq_true, false_implies, and_true, true_and]
    refine adv x gt hl fun g1 gt1 => ?_
    have g41 := gt1.2.2.1
    have o1 := gt1.2.2.2.2.2
    by_cases q2 : (nxt (hI h 3) len c).1 = 8
    · have q2' : nI (nxt (hI h 3) len c).1 = 8 := by rw [q2]; rfl
      have g6 := gt1.2.2.2.2.1 (by omega)
      simp only [w69, hr, t1, t2, t27, g41, q2', g6, Option.toList_none, List.nil_append, true_implies, not_true_eq_false, not_false_eq_true, false_implies, and_true, true_and]
      refine adv x gt1 hl fun g2 gt2 => ?_
      have g42 := gt2.2.2.1
      have o2 := gt2.2.2.2.2.2
      by_cases q3 : (nxt (hI h 3) len (nxt (hI h 3) len c)).1 = 9
      · have q3' : nI (nxt (hI h 3) len (nxt (hI h 3) len c)).1 = 9 := by rw [q3]; rfl
        simp only [w69, hr, t1, t2, t27, g42, q3', Option.toList_none, List.nil_append, true_or, or_true, true_implies, not_true_eq_false, not_false_eq_true, false_implies, and_true, true_and]
        exact k1 g2 _ _ gt2 (by unfold rdPr; rw [if_pos q1, if_pos q2, if_pos q3]) (o1.2.2.2.2 q2)
      · have q3' : ¬ nI (nxt (hI h 3) len (nxt (hI h 3) len c)).1 = 9 := fun z => q3 ((kind_eq (b := 9) o2.1 (by decide)).mp z)
        simp only [w69, hr, t1, t2, t27, g42, q3', Option.toList_none, List.nil_append, true_or, or_true, true_implies, not_true_eq_false, not_false_eq_true, false_implies, and_true, true_and]
        refine (s64 x gt2 1).mpr ?_
        simp only [w69, Option.toList_some, List.cons_append, List.nil_append, true_or, or_true]
        exact k2 g2 1 _ gt2 (by unfold rdPr; rw [if_pos q1, if_pos q2, if_neg q3]) (by unfold rdPr; rw [if_pos q1, if_pos q2, if_neg q3])
    · have q2' : ¬ nI (nxt (hI h 3) len c).1 = 8 := fun z => q2 ((kind_eq (b := 8) o1.1 (by decide)).mp z)
      simp only [w69, hr, t1, t2, t27, g41, q2', Option.toList_none, List.nil_append, true_or, or_true, true_implies, not_true_eq_false, not_false_eq_true, false_implies, and_true, true_and]
      refine (s64 x gt1 1).mpr ?_
      simp only [w69, Option.toList_some, List.cons_append, List.nil_append, true_or, or_true]
      exact k2 g1 1 _ gt1 (by unfold rdPr; rw [if_pos q1, if_neg q2]) (by unfold rdPr; rw [if_pos q1, if_neg q2])
  · have q1' : ¬ nI c.1 = 3 := fun z => q1 ((kind_eq (b := 3) o.1 (by decide)).mp z)
    by_cases q3 : c.1 = 9
    · have q3' : nI c.1 = 9 := by rw [q3]; rfl
      have n93 : ¬ (9 : Int32) = 3 := by decide
      simp only [w69, hr, t1, t2, t27, g4, q3', n93, true_or, or_true, true_implies, not_true_eq_false, not_false_eq_true, false_implies, and_true, true_and]
      exact k1 g 1 c gt (by unfold rdPr; rw [if_neg q1, if_pos q3]) (by decide)
    · have q3' : ¬ nI c.1 = 9 := fun z => q3 ((kind_eq (b := 9) o.1 (by decide)).mp z)
      simp only [w69, hr, t1, t2, t27, g4, q1', q3', true_or, or_true, true_implies, not_true_eq_false, not_false_eq_true, false_implies, and_true, true_and]
      refine (s64 x gt 1).mpr ?_
      simp only [w69, Option.toList_some, List.cons_append, List.nil_append, true_or, or_true]
      exact k2 g 1 c gt (by unfold rdPr; rw [if_neg q1, if_neg q3]) (by unfold rdPr; rw [if_neg q1, if_neg q3])
end Rd

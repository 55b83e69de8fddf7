/-! ===== Tokens: in numbers, and as the class reads them ===== -/
def isLB (x : Int32) : Bool := decide (97 ≤ x) && decide (x ≤ 122)
def isDB (x : Int32) : Bool := decide (48 ≤ x) && decide (x ≤ 57)
def isBB (x : Int32) : Bool := decide (x = 32) || decide (x = 10)
/-- blanks are passed over -/
def skB (t : Nat → Int32) : Nat → Nat → Nat
  | 0, a => a
  | d + 1, a => if isBB (t a) = true then skB t d (a + 1) else a
/-- a run: its end, its letters, its digits -/
def rn (t : Nat → Int32) : Nat → Nat → Nat × Nat × Nat
  | 0, a => (a, 0, 0)
  | d + 1, a => if isLB (t a) = true then ((rn t d (a + 1)).1, (rn t d (a + 1)).2.1 + 1, (rn t d (a + 1)).2.2) else if isDB (t a) = true then ((rn t d (a + 1)).1, (rn t d (a + 1)).2.1, (rn t d (a + 1)).2.2 + 1) else (a, 0, 0)
def lv (x : Int32) : Nat := x.toNatClampNeg - 96
def dg (x : Int32) : Nat := x.toNatClampNeg - 48
def wv (t : Nat → Int32) : Nat → Nat → Nat → Nat
  | 0, _, acc => acc
  | m + 1, a, acc => wv t m (a + 1) (acc * 27 + lv (t a))
def nv (t : Nat → Int32) : Nat → Nat → Nat → Nat
  | 0, _, acc => acc
  | m + 1, a, acc => nv t m (a + 1) (acc * 10 + dg (t a))
/-- the kept words: raw, make, of, costs, wish, wash, in -/
def kwf (j : Nat) : Nat := ([13172, 256910, 411, 1903978, 459791, 453959, 257] : List Nat).getD j 0
def kOf (v : Nat) : Nat := (fnd kwf v 0 7).getD 7
/-- kind, place, value, where it goes on -/
def tok (t : Nat → Int32) (len at0 : Nat) : Nat × Nat × Nat × Nat :=
  if min len 500 ≤ skB t (min len 500 - at0) at0 then (10, min len 500, 0, skB t (min len 500 - at0) at0)
  else if t (skB t (min len 500 - at0) at0) = 59 then (9, skB t (min len 500 - at0) at0, 0, skB t (min len 500 - at0) at0 + 1)
  else if isLB (t (skB t (min len 500 - at0) at0)) = true ∨ isDB (t (skB t (min len 500 - at0) at0)) = true then
    (if (rn t (len - skB t (min len 500 - at0) at0) (skB t (min len 500 - at0) at0)).2.2 = 0 ∧ (rn t (len - skB t (min len 500 - at0) at0) (skB t (min len 500 - at0) at0)).2.1 ≤ 6 then (kOf (wv t (rn t (len - skB t (min len 500 - at0) at0) (skB t (min len 500 - at0) at0)).2.1 (skB t (min len 500 - at0) at0) 0), skB t (min len 500 - at0) at0, wv t (rn t (len - skB t (min len 500 - at0) at0) (skB t (min len 500 - at0) at0)).2.1 (skB t (min len 500 - at0) at0) 0, (rn t (len - skB t (min len 500 - at0) at0) (skB t (min len 500 - at0) at0)).1)
     else if (rn t (len - skB t (min len 500 - at0) at0) (skB t (min len 500 - at0) at0)).2.1 = 0 ∧ (rn t (len - skB t (min len 500 - at0) at0) (skB t (min len 500 - at0) at0)).2.2 ≤ 2 then (8, skB t (min len 500 - at0) at0, nv t (rn t (len - skB t (min len 500 - at0) at0) (skB t (min len 500 - at0) at0)).2.2 (skB t (min len 500 - at0) at0) 0, (rn t (len - skB t (min len 500 - at0) at0) (skB t (min len 500 - at0) at0)).1)
     else (11, skB t (min len 500 - at0) at0, 0, (rn t (len - skB t (min len 500 - at0) at0) (skB t (min len 500 - at0) at0)).1))
  else (11, skB t (min len 500 - at0) at0, 0, skB t (min len 500 - at0) at0)
theorem rn_sum (t : Nat → Int32) : ∀ d a, (rn t d a).1 = a + (rn t d a).2.1 + (rn t d a).2.2 ∧ (rn t d a).1 ≤ a + d := by
  intro d
  induction d with
  | zero => exact fun a => ⟨rfl, Nat.le_refl _⟩
  | succ d ih =>
    intro a
    have h := ih (a + 1)
    have e : rn t (d + 1) a = if isLB (t a) = true then ((rn t d (a + 1)).1, (rn t d (a + 1)).2.1 + 1, (rn t d (a + 1)).2.2) else if isDB (t a) = true then ((rn t d (a + 1)).1, (rn t d (a + 1)).2.1, (rn t d (a + 1)).2.2 + 1) else (a, 0, 0) := rfl
    rw [e]
    split
    · dsimp only; omega
    · split
      · dsimp only; omega
      · dsimp only; omega
/-- all letters, all digits -/
theorem rn_all (t : Nat → Int32) : ∀ d a, ((rn t d a).2.2 = 0 → ∀ i, a ≤ i → i < (rn t d a).1 → isLB (t i) = true) ∧ ((rn t d a).2.1 = 0 → ∀ i, a ≤ i → i < (rn t d a).1 → isDB (t i) = true) := by
  intro d
  induction d with
  | zero => exact fun a => ⟨fun _ i h1 h2 => absurd h2 (Nat.not_lt.mpr h1), fun _ i h1 h2 => absurd h2 (Nat.not_lt.mpr h1)⟩
  | succ d ih =>
    intro a
    have h := ih (a + 1)
    have e : rn t (d + 1) a = if isLB (t a) = true then ((rn t d (a + 1)).1, (rn t d (a + 1)).2.1 + 1, (rn t d (a + 1)).2.2) else if isDB (t a) = true then ((rn t d (a + 1)).1, (rn t d (a + 1)).2.1, (rn t d (a + 1)).2.2 + 1) else (a, 0, 0) := rfl
    rw [e]
    split
    · next q =>
      refine ⟨fun h0 i h1 h2 => ?_, fun h0 => absurd h0 (Nat.succ_ne_zero _)⟩
      by_cases z : i = a
      · rw [z]; exact q
      · exact h.1 h0 i (by omega) h2
    · split
      · next q =>
        refine ⟨fun h0 => absurd h0 (Nat.succ_ne_zero _), fun h0 i h1 h2 => ?_⟩
        by_cases z : i = a
        · rw [z]; exact q
        · exact h.2 h0 i (by omega) h2
      · exact ⟨fun _ i h1 h2 => absurd h2 (Nat.not_lt.mpr h1), fun _ i h1 h2 => absurd h2 (Nat.not_lt.mpr h1)⟩
theorem lv_eq {x : Int32} (h : isLB x = true) : x - 96 = nI (lv x) ∧ 1 ≤ lv x ∧ lv x ≤ 26 := by
  unfold isLB at h
  rw [Bool.and_eq_true, decide_eq_true_eq, decide_eq_true_eq] at h
  have h0 : ¬ x < 0 := fun z => by
    have := Int32.lt_of_le_of_lt h.1 z
    exact absurd this (by decide)
  obtain ⟨j, hj, rfl⟩ := nI_of h0
  have h1 : 97 ≤ j := (nI_leI (a := 97) (by decide) hj).mp h.1
  have h2 : j ≤ 122 := (nI_leI (b := 122) hj (by decide)).mp h.2
  unfold lv
  rw [nI_clamp hj]
  refine ⟨?_, by omega, by omega⟩
  have : ∀ j, j < 123 → 97 ≤ j → nI j - 96 = nI (j - 96) := by decide +kernel
  exact this j (by omega) h1
theorem dg_eq {x : Int32} (h : isDB x = true) : x - 48 = nI (dg x) ∧ dg x ≤ 9 := by
  unfold isDB at h
  rw [Bool.and_eq_true, decide_eq_true_eq, decide_eq_true_eq] at h
  have h0 : ¬ x < 0 := fun z => by
    have := Int32.lt_of_le_of_lt h.1 z
    exact absurd this (by decide)
  obtain ⟨j, hj, rfl⟩ := nI_of h0
  have h1 : 48 ≤ j := (nI_leI (a := 48) (by decide) hj).mp h.1
  have h2 : j ≤ 57 := (nI_leI (b := 57) hj (by decide)).mp h.2
  unfold dg
  rw [nI_clamp hj]
  refine ⟨?_, by omega⟩
  have : ∀ j, j < 58 → 48 ≤ j → nI j - 48 = nI (j - 48) := by decide +kernel
  exact this j (by omega) h1
section Tok
variable {h : AH} {len : Nat} {Q : Option Value → AH → Prop}
theorem s101 (x : Int32) : WPM 101 [.int x] h Q ↔ Q (some (.int (if isBB x = true then 1 else 0))) h := by
  unfold isBB
  by_cases q1 : x = 32
  · simp [we101, w101, q1]
  · by_cases q2 : x = 10
    · simp [we101, w101, q1, q2]
    · simp [we101, w101, q1, q2]
theorem s102 (x : Int32) : WPM 102 [.int x] h Q ↔ Q (some (.int (if isLB x = true then 1 else 0))) h := by
  unfold isLB
  by_cases q1 : x < 97
  · have q1' : ¬ 97 ≤ x := Int32.not_le.mpr q1
    simp [we102, w102, q1, q1']
  · have q1' : 97 ≤ x := Int32.not_lt.mp q1
    by_cases q2 : 122 < x
    · have q2' : ¬ x ≤ 122 := Int32.not_le.mpr q2
      simp [we102, w102, q1, q1', q2, q2']
    · have q2' : x ≤ 122 := Int32.not_lt.mp q2
      simp [we102, w102, q1, q1', q2, q2']
theorem s103 (x : Int32) : WPM 103 [.int x] h Q ↔ Q (some (.int (if isDB x = true then 1 else 0))) h := by
  unfold isDB
  by_cases q1 : x < 48
  · have q1' : ¬ 48 ≤ x := Int32.not_le.mpr q1
    simp [we103, w103, q1, q1']
  · have q1' : 48 ≤ x := Int32.not_lt.mp q1
    by_cases q2 : 57 < x
    · have q2' : ¬ x ≤ 57 := Int32.not_le.mpr q2
      simp [we103, w103, q1, q1', q2, q2']
    · have q2' : x ≤ 57 := Int32.not_lt.mp q2
      simp [we103, w103, q1, q1', q2, q2']
/-- what reading needs of the heap -/
def TkX (h : AH) : Prop := hT h 27 = 11 ∧ hR h 27 0 = 28 ∧ hR h 27 1 = 3 ∧ hT h 28 = 100 ∧ hL h 28 = 7 ∧ hT h 3 = 101 ∧ hL h 3 = 540 ∧ ∀ j, j < 7 → hI h 28 j = nI (kwf j)
theorem kwf_lt : ∀ j, j < 7 → kwf j < 2 ^ 31 := by decide
theorem s99 {g : Nat → Int32} {v : Nat} (x : TkX h) (hv : v < 2 ^ 31) (k : Q (some (.int (nI (kOf v)))) (setI h 27 g)) : WPM 99 [.ref 27, .int (nI v)] (setI h 27 g) Q := by
  obtain ⟨t1, t2, t3, t4, t5, t6, t7, t8⟩ := x
  have hs1 := hs_setI h 27 g
  have e28 : hI (setI h 27 g) 28 = hI h 28 := by rw [hI_setI, if_neg (by decide)]
  have lp : ∀ d y, 7 - y = d → y ≤ 7 → fnd kwf v 0 7 = fnd kwf v y d → WP 99 2 [.ref 27, .int (nI v), .int (nI y)] [] (setI h 27 g) Q := by
    intro d
    induction d with
    | zero =>
      intro y hd hy he
      have hle : nI 7 ≤ nI y := nI_le (by omega) (by omega)
      have e : kOf v = 7 := by unfold kOf; rw [he]; rfl
      rw [e] at k
      rw [w99_2]
      simp only [w99, hs1, t1, t2, t4, t5, hle, true_or, or_true, true_implies, not_true_eq_false, false_implies, and_true]
      exact k
    | succ d ih =>
      intro y hd hy he
      have hle : ¬ nI 7 ≤ nI y := nI_ge (by omega) (by decide)
      have c1 : (nI y).toNatClampNeg = y := nI_clamp (by omega)
      have i1 : inb (nI y) 7 = true := inb_nI (by omega) (by decide)
      have e1 := t8 y (by omega)
      have hs : fnd kwf v y (d + 1) = if kwf y = v then some y else fnd kwf v (y + 1) d := rfl
      rw [w99_2]
      by_cases q : kwf y = v
      · rw [if_pos q] at hs
        have e : kOf v = y := by unfold kOf; rw [he, hs]; rfl
        rw [e] at k
        have q' : nI (kwf y) = nI v := by rw [q]
        simp only [w99, hs1, e28, t1, t2, t4, t5, hle, c1, i1, e1, q', true_or, or_true, true_implies, not_true_eq_false, not_false_eq_true, false_implies, and_true, true_and]
        exact k
      · rw [if_neg q] at hs
        have q' : ¬ nI (kwf y) = nI v := fun z => q (nI_inj (kwf_lt y (by omega)) hv z)
        simp only [w99, hs1, e28, t1, t2, t4, t5, hle, c1, i1, e1, q', true_or, or_true, true_implies, not_true_eq_false, not_false_eq_true, false_implies, and_true, true_and, nI_1]
        exact ih (y + 1) (by omega) (by omega) (he.trans hs)
  rw [we99]
  simp only [w99]
  exact lp 7 0 rfl (by decide) rfl
theorem wv_lt {t : Nat → Int32} : ∀ m a acc c, acc < c → (∀ i, a ≤ i → i < a + m → isLB (t i) = true) → wv t m a acc < c * 27 ^ m := by
  intro m
  induction m with
  | zero => exact fun a acc c h _ => by show acc < c * 1; omega
  | succ m ih =>
    intro a acc c h hl
    have h1 := (lv_eq (hl a (Nat.le_refl _) (by omega))).2.2
    have := ih (a + 1) (acc * 27 + lv (t a)) (c * 27) (by omega) (fun i h2 h3 => hl i (by omega) (by omega))
    show wv t m (a + 1) (acc * 27 + lv (t a)) < c * 27 ^ (m + 1)
    rw [Nat.pow_succ, Nat.mul_comm (27 ^ m), ← Nat.mul_assoc]
    exact this
theorem s97 {g : Nat → Int32} {a e : Nat} (x : TkX h) (h5 : g 5 = nI a) (h3 : g 3 = nI e) (hae : a ≤ e) (he : e ≤ 540) (hl : ∀ i, a ≤ i → i < e → isLB (hI h 3 i) = true) (k : Q (some (.int (nI (wv (hI h 3) (e - a) a 0)))) (setI h 27 g)) : WPM 97 [.ref 27] (setI h 27 g) Q := by
  obtain ⟨t1, t2, t3, t4, t5, t6, t7, t8⟩ := x
  have hs1 := hs_setI h 27 g
  have e27 : hI (setI h 27 g) 27 = g := by rw [hI_setI, if_pos rfl]
  have e3 : hI (setI h 27 g) 3 = hI h 3 := by rw [hI_setI, if_neg (by decide)]
  have lp : ∀ d i acc, e - i = d → a ≤ i → i ≤ e → wv (hI h 3) (e - a) a 0 = wv (hI h 3) d i acc → WP 97 7 [.ref 27, .int (nI acc), .int (nI i)] [] (setI h 27 g) Q := by
    intro d
    induction d with
    | zero =>
      intro i acc hd hai hi hw
      have hle : nI e ≤ nI i := nI_le (by omega) (by omega)
      rw [hw] at k
      rw [w97_7]
      simp only [w97, hs1, e27, t1, h3, hle, true_or, or_true, true_implies, not_true_eq_false, false_implies, and_true]
      exact k
    | succ d ih =>
      intro i acc hd hai hi hw
      have hle : ¬ nI e ≤ nI i := nI_ge (by omega) (by omega)
      have c1 : (nI i).toNatClampNeg = i := nI_clamp (by omega)
      have i1 : inb (nI i) 540 = true := inb_nI (by omega) (by decide)
      obtain ⟨l1, -, -⟩ := lv_eq (hl i hai (by omega))
      have em : nI acc * 27 = nI (acc * 27) := pk_mul acc 27
      have ez : nI (acc * 27) + hI h 3 i - 96 = nI (acc * 27 + lv (hI h 3 i)) := by rw [Int32.sub_eq_add_neg, Int32.add_assoc, ← Int32.sub_eq_add_neg, l1, nI_add]
      rw [w97_7]
      simp only [w97, hs1, e27, e3, t1, t3, t6, t7, h3, hle, c1, i1, em, ez, Option.toList_some, List.cons_append, List.nil_append, true_or, or_true, true_implies, not_true_eq_false, not_false_eq_true, false_implies, and_true, true_and, nI_1]
      exact ih (i + 1) _ (by omega) (by omega) (by omega) hw
  rw [we97]
  simp only [w97, hs1, e27, t1, h5]
  exact lp (e - a) a 0 rfl (Nat.le_refl _) hae rfl
theorem s98 {g : Nat → Int32} {a e : Nat} (x : TkX h) (h5 : g 5 = nI a) (h3 : g 3 = nI e) (hae : a ≤ e) (he : e ≤ 540) (hl : ∀ i, a ≤ i → i < e → isDB (hI h 3 i) = true) (k : Q (some (.int (nI (nv (hI h 3) (e - a) a 0)))) (setI h 27 g)) : WPM 98 [.ref 27] (setI h 27 g) Q := by
  obtain ⟨t1, t2, t3, t4, t5, t6, t7, t8⟩ := x
  have hs1 := hs_setI h 27 g
  have e27 : hI (setI h 27 g) 27 = g := by rw [hI_setI, if_pos rfl]
  have e3 : hI (setI h 27 g) 3 = hI h 3 := by rw [hI_setI, if_neg (by decide)]
  have lp : ∀ d i acc, e - i = d → a ≤ i → i ≤ e → nv (hI h 3) (e - a) a 0 = nv (hI h 3) d i acc → WP 98 7 [.ref 27, .int (nI acc), .int (nI i)] [] (setI h 27 g) Q := by
    intro d
    induction d with
    | zero =>
      intro i acc hd hai hi hw
      have hle : nI e ≤ nI i := nI_le (by omega) (by omega)
      rw [hw] at k
      rw [w98_7]
      simp only [w98, hs1, e27, t1, h3, hle, true_or, or_true, true_implies, not_true_eq_false, false_implies, and_true]
      exact k
    | succ d ih =>
      intro i acc hd hai hi hw
      have hle : ¬ nI e ≤ nI i := nI_ge (by omega) (by omega)
      have c1 : (nI i).toNatClampNeg = i := nI_clamp (by omega)
      have i1 : inb (nI i) 540 = true := inb_nI (by omega) (by decide)
      obtain ⟨l1, -⟩ := dg_eq (hl i hai (by omega))
      have em : nI acc * 10 = nI (acc * 10) := pk_mul acc 10
      rw [w98_7]
      simp only [w98, hs1, e27, e3, t1, t3, t6, t7, h3, hle, c1, i1, l1, em, nI_add, true_or, or_true, true_implies, not_true_eq_false, not_false_eq_true, false_implies, and_true, true_and, nI_1]
      exact ih (i + 1) _ (by omega) (by omega) (by omega) hw
  rw [we98]
  simp only [w98, hs1, e27, t1, h5]
  exact lp (e - a) a 0 rfl (Nat.le_refl _) hae rfl
end Tok

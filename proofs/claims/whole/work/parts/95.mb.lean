/-! ===== THE REFERENCE: bundles of rows for simp; bits, isIn, isThing, isAsked, isEnd, after ===== -/
theorem zz : (∀ p : Prop, (True → p) = p) ∧ (∀ p : Prop, (False → p) = True) ∧ ((¬ True) = False) ∧ ((¬ False) = True) ∧ (∀ p : Prop, (p ∧ True) = p) ∧ (∀ p : Prop, (True ∧ p) = p) ∧ (∀ p : Prop, (True ∨ p) = True) ∧ (∀ p : Prop, (p ∨ True) = True) ∧ (∀ v : Value, (some v).toList = [v]) ∧ ((none : Option Value).toList = []) ∧ (∀ (a : Value) (l l' : List Value), (a :: l) ++ l' = a :: (l ++ l')) ∧ (∀ l : List Value, [] ++ l = l) ∧ (∀ p : Prop, (False ∧ p) = False) ∧ (∀ p : Prop, (p ∧ False) = False) ∧ (∀ p : Prop, (False ∨ p) = p) ∧ (∀ p : Prop, (p ∨ False) = p) ∧ ((false = true) = False) ∧ ((true = false) = False) := by
  refine ⟨fun p => true_implies p, fun p => false_implies p, not_true_eq_false, not_false_eq_true, fun p => and_true p, fun p => true_and p, fun p => true_or p, fun p => or_true p, fun v => rfl, rfl, fun a l l' => rfl, fun l => rfl, fun p => false_and p, fun p => and_false p, fun p => false_or p, fun p => or_false p, Bool.false_eq_true, Bool.true_eq_false⟩
theorem mz : (0 : Int32).toNatClampNeg = 0 ∧ (1 : Int32).toNatClampNeg = 1 ∧ inb 0 2 = true ∧ inb 1 2 = true ∧ (¬ (1 : Int32) = 0) ∧ (¬ (0 : Int32) = 1) ∧ (¬ (-1 : Int32) = 0) ∧ ((-1 : Int32) < 0) ∧ (¬ (0 : Int32) ≤ -1) ∧ (¬ (20 : Int32) = 0) ∧ (¬ (256 : Int32) = 0) ∧ (¬ (16384 : Int32) = 0) := by decide +kernel
/-- what a call of the reference leaves: rows A, of 67 the fields S; longs J, of 67 the fields T -/
def MO (A S J T : Nat → Prop) (h h' : AH) : Prop := hT h' = hT h ∧ hL h' = hL h ∧ hR h' = hR h ∧ hN h' = hN h ∧ hS h' = hS h ∧ (∀ a k, ¬ A a → ¬ (a = 67 ∧ S k) → hI h' a k = hI h a k) ∧ ∀ a k, ¬ J a → ¬ (a = 67 ∧ T k) → hJ h' a k = hJ h a k
section MOs
variable {A S J T A' S' J' T' : Nat → Prop} {h h1 h2 : AH}
theorem MO.rf : MO A S J T h h := ⟨rfl, rfl, rfl, rfl, rfl, fun _ _ _ _ => rfl, fun _ _ _ _ => rfl⟩
theorem MO.trans (a : MO A S J T h h1) (b : MO A S J T h1 h2) : MO A S J T h h2 := by
  obtain ⟨a1, a2, a3, a4, a5, a6, a7⟩ := a
  obtain ⟨b1, b2, b3, b4, b5, b6, b7⟩ := b
  exact ⟨b1.trans a1, b2.trans a2, b3.trans a3, b4.trans a4, b5.trans a5, fun x k h1 h2 => (b6 x k h1 h2).trans (a6 x k h1 h2), fun x k h1 h2 => (b7 x k h1 h2).trans (a7 x k h1 h2)⟩
theorem MO.mono (a : MO A S J T h h1) (x1 : ∀ x, A x → A' x) (x2 : ∀ x, S x → S' x) (x3 : ∀ x, J x → J' x) (x4 : ∀ x, T x → T' x) : MO A' S' J' T' h h1 := by
  obtain ⟨a1, a2, a3, a4, a5, a6, a7⟩ := a
  exact ⟨a1, a2, a3, a4, a5, fun x k h1 h2 => a6 x k (fun q => h1 (x1 x q)) (fun q => h2 ⟨q.1, x2 k q.2⟩), fun x k h1 h2 => a7 x k (fun q => h1 (x3 x q)) (fun q => h2 ⟨q.1, x4 k q.2⟩)⟩
theorem MO.rI (m : MO A S J T h h1) {a : Nat} (f : Nat → Int32) (ha : A a) : MO A S J T h (setI h1 a f) := by
  refine m.trans ⟨rfl, rfl, rfl, rfl, rfl, fun x k hx _ => ?_, fun _ _ _ _ => rfl⟩
  rw [hI_setI, if_neg (fun q => hx (by rw [q]; exact ha))]
theorem MO.r67 (m : MO A S J T h h1) {g : Nat → Int32} (hg : ∀ k, ¬ S k → g k = hI h1 67 k) : MO A S J T h (setI h1 67 g) := by
  refine m.trans ⟨rfl, rfl, rfl, rfl, rfl, fun x k _ hx => ?_, fun _ _ _ _ => rfl⟩
  rw [hI_setI]
  by_cases q : x = 67
  · subst q
    rw [if_pos rfl]
    exact hg k (fun z => hx ⟨rfl, z⟩)
  · rw [if_neg q]
theorem MO.rJ (m : MO A S J T h h1) {a : Nat} (f : Nat → Int64) (ha : J a) : MO A S J T h (setJ h1 a f) := by
  refine m.trans ⟨rfl, rfl, rfl, rfl, rfl, fun _ _ _ _ => rfl, fun x k hx _ => ?_⟩
  rw [hJ_setJ, if_neg (fun q => hx (by rw [q]; exact ha))]
theorem MO.sJ67 (m : MO A S J T h h1) {j : Nat} (v : Int64) (hj : T j) : MO A S J T h (sJ h1 67 j v) := by
  refine m.trans ⟨rfl, rfl, rfl, rfl, rfl, fun _ _ _ _ => rfl, fun x k _ hx => ?_⟩
  rw [hJ_sJ, if_neg]
  rintro ⟨rfl, rfl⟩
  exact hx ⟨rfl, hj⟩
theorem MO.sI67 (m : MO A S J T h h1) {j : Nat} (v : Int32) (hj : S j) : MO A S J T h (sI h1 67 j v) := by
  refine m.trans ⟨rfl, rfl, rfl, rfl, rfl, fun x k _ hx => ?_, fun _ _ _ _ => rfl⟩
  rw [hI_sI, if_neg]
  rintro ⟨rfl, rfl⟩
  exact hx ⟨rfl, hj⟩
theorem MO.row (m : MO A S J T h h1) {a : Nat} (ha : ¬ A a) (h67 : a ≠ 67) : hI h1 a = hI h a := by
  funext k
  exact m.2.2.2.2.2.1 a k ha (fun q => h67 q.1)
theorem MO.fld (m : MO A S J T h h1) {k : Nat} (ha : ¬ A 67) (hk : ¬ S k) : hI h1 67 k = hI h 67 k := m.2.2.2.2.2.1 67 k ha (fun q => hk q.2)
theorem MO.rowJ (m : MO A S J T h h1) {a : Nat} (ha : ¬ J a) (h67 : a ≠ 67) : hJ h1 a = hJ h a := by
  funext k
  exact m.2.2.2.2.2.2 a k ha (fun q => h67 q.1)
theorem MO.fldJ (m : MO A S J T h h1) {k : Nat} (ha : ¬ J 67) (hk : ¬ T k) : hJ h1 67 k = hJ h 67 k := m.2.2.2.2.2.2 67 k ha (fun q => hk q.2)
theorem MO.ms (m : MO A S J T h h1) (x : MS0 h) : MS0 h1 := MS0_of (fun a _ => ⟨by rw [m.1], by rw [m.2.1]⟩) (fun a k _ _ => by rw [m.2.2.1]) x
end MOs
/-! numbers -/
theorem sdf0 {a s : Nat} (ha : a < 65536) : (nI (sdf a s) = 0) ↔ s &&& a = a := by
  have h1 : sdf a s < 65536 := Nat.lt_of_le_of_lt (sdf_le _ _) ha
  rw [show (0 : Int32) = nI 0 from nI_0.symm, nI_eq (by omega) (by decide), ← sub_sdf, sub_and]
theorem mtb1 {s x : Nat} (hs : s < 2 ^ 31) (hx : x < 31) : ((nI s >>> (nI x &&& 31)) &&& 1 = 1) ↔ s.testBit x = true := by
  rw [nI_shr_bit hs hx]
  cases s.testBit x <;> decide +kernel
theorem mtb0 {s x : Nat} (hs : s < 2 ^ 31) (hx : x < 31) : ((nI s >>> (nI x &&& 31)) &&& 1 = 0) ↔ ¬ s.testBit x = true := by
  rw [nI_shr_bit hs hx]
  cases s.testBit x <;> decide +kernel
theorem wy1 : ∀ w, w < 8 → ((nI w &&& 1 = 0) ↔ ¬ w % 2 = 1) := by decide +kernel
theorem wy1' : ∀ w, w < 8 → ((nI w &&& 1 = 1) ↔ w % 2 = 1) := by decide +kernel
theorem wy2 : ∀ w, w < 8 → ((nI w &&& 2 = 0) ↔ ¬ w / 2 % 2 = 1) := by decide +kernel
theorem wy4 : ∀ w, w < 8 → ((nI w &&& 4 = 0) ↔ ¬ w / 4 % 2 = 1) := by decide +kernel
section Mb
variable {h : AH} {n w wi b : Nat} {P C : Nat → Nat} {Q : Option Value → AH → Prop}
theorem bits_l (x0 : Int32) : ∀ d v m, v < 65536 → pc v = d → (WP 152 4 [.int x0, .int (nI m), .int (nI v)] [] h Q ↔ Q (some (.int (nI (m + d)))) h) := by
  intro d
  induction d with
  | zero =>
    intro v m hv hd
    have h0 : v = 0 := by
      rcases Nat.eq_zero_or_pos v with q | q
      · exact q
      · have := pc_pos (v := v) (by omega) hv
        omega
    subst h0
    rw [w152_4]
    simp only [w152, nI_0, zz, Nat.add_zero]
  | succ d ih =>
    intro v m hv hd
    have h0 : v ≠ 0 := fun q => by rw [q, pc_0] at hd; omega
    have hz : ¬ nI v = 0 := nI_ne0 (by omega) (by omega)
    have hp := pc_pred h0 hv
    have e1 : nI v - 1 = nI (v - 1) := pk_sub (a := v) (b := 1) (by omega)
    rw [w152_4]
    simp only [w152, hz, e1, nI_and, nI_1, zz]
    rw [ih _ _ (Nat.lt_of_le_of_lt Nat.and_le_left hv) (by omega), show m + 1 + d = m + (d + 1) by omega]
theorem s152 {s : Nat} (hs : s < 65536) : WPM 152 [.int (nI s)] h Q ↔ Q (some (.int (nI (pc s)))) h := by
  rw [we152]
  simp only [w152]
  rw [← nI_0, bits_l (nI s) (pc s) s 0 hs rfl, Nat.zero_add]
theorem s150 (v l u : Int32) : WPM 150 [.int v, .int l, .int u] h Q ↔ Q (some (.int (if l ≤ v ∧ v ≤ u then 1 else 0))) h := by
  by_cases q1 : v < l
  · have q2 : ¬ l ≤ v := Int32.not_le.mpr q1
    simp only [we150, w150, q1, q2, zz, if_false]
  · have q2 : l ≤ v := Int32.not_lt.mp q1
    by_cases q3 : u < v
    · have q4 : ¬ v ≤ u := Int32.not_le.mpr q3
      simp only [we150, w150, q1, q2, q3, q4, zz, if_false]
    · have q4 : v ≤ u := Int32.not_lt.mp q3
      simp only [we150, w150, q1, q2, q3, q4, zz, if_true]
theorem s169 (ms : MS0 h) (k : Int32) : WPM 169 [.ref 67, .int k] h Q ↔ Q (some (.int (if 0 ≤ k ∧ k ≤ hI h 72 0 - 1 then 1 else 0))) h := by
  by_cases q : 0 ≤ k ∧ k ≤ hI h 72 0 - 1
  · simp only [we169, w169, ms, mz, s150, if_pos q, zz]
  · simp only [we169, w169, ms, mz, s150, if_neg q, zz]
theorem s182 (ms : MS0 h) (v u : Int32) : WPM 182 [.ref 67, .int v, .int u] h Q ↔ Q (some (.int (if (0 ≤ v ∧ v ≤ 7) ∧ (1 ≤ u ∧ u ≤ 14) ∧ 0 < hI h 72 0 then 1 else 0))) h := by
  by_cases q1 : 0 ≤ v ∧ v ≤ 7
  · by_cases q2 : 1 ≤ u ∧ u ≤ 14
    · by_cases q3 : 0 < hI h 72 0
      · have q4 : ¬ hI h 72 0 ≤ 0 := Int32.not_le.mpr q3
        rw [if_pos ⟨q1, q2, q3⟩]
        simp only [we182, w182, ms, mz, s150, if_pos q1, if_pos q2, q4, zz]
      · have q4 : hI h 72 0 ≤ 0 := Int32.not_lt.mp q3
        rw [if_neg (fun z => q3 z.2.2)]
        simp only [we182, w182, ms, mz, s150, if_pos q1, if_pos q2, q4, zz]
    · rw [if_neg (fun z => q2 z.2.1)]
      simp only [we182, w182, ms, mz, s150, if_pos q1, if_neg q2, zz]
  · rw [if_neg (fun z => q1 z.1)]
    simp only [we182, w182, ms, mz, s150, if_neg q1, zz]
/-- the reference's NET -/
def MNt (h : AH) (n : Nat) (P : Nat → Nat) (wi : Nat) : Prop := hI h 72 0 = nI n ∧ hI h 73 0 = nI wi ∧ ∀ x, x < n → hI h 70 x = nI (P x)
theorem MNt.mo {A S J T : Nat → Prop} {h1 : AH} (nt : MNt h n P wi) (m : MO A S J T h h1) (h70 : ¬ A 70) (h72 : ¬ A 72) (h73 : ¬ A 73) : MNt h1 n P wi := by
  unfold MNt
  rw [m.row h70 (by decide), m.row h72 (by decide), m.row h73 (by decide)]
  exact nt
theorem s179 {s : Nat} (ms : MS0 h) (h24 : hI h 67 24 = nI w) (hw : w < 8) (h73 : hI h 73 0 = nI wi) (hs : s < 65536) (hwi : wi < 65536) : WPM 179 [.ref 67, .int (nI s)] h Q ↔ Q (some (.int (if isEndP w wi s then 1 else 0))) h := by
  have e1 : (nI s = nI wi) ↔ s = wi := nI_eq (by omega) (by omega)
  have e2 := sdf0 (a := wi) (s := s) hwi
  have hi := isEndP_iff (w := w) (wi := wi) (s := s)
  have hw4 := wy4 w hw
  by_cases q4 : w / 4 % 2 = 1
  · rw [if_pos q4] at hi
    by_cases q : s = wi
    · rw [if_pos (hi.mpr q)]
      simp only [we179, w179, ms, mz, h24, h73, hw4, q4, e1, q, zz]
    · rw [if_neg (fun z => q (hi.mp z))]
      simp only [we179, w179, ms, mz, h24, h73, hw4, q4, e1, q, zz]
  · rw [if_neg q4] at hi
    by_cases q : s &&& wi = wi
    · rw [if_pos (hi.mpr q)]
      simp only [we179, w179, ms, mz, h24, h73, hw4, q4, nI_sdf, e2, q, zz]
    · rw [if_neg (fun z => q (hi.mp z))]
      simp only [we179, w179, ms, mz, h24, h73, hw4, q4, nI_sdf, e2, q, zz]
/-! after: MAKE, WASH, MADE IN -/
theorem s_lt {n s : Nat} (hn : n ≤ 14) (hs : s < 2 ^ n) : s < 16384 := Nat.lt_of_lt_of_le hs (p2_le (n := 14) hn)
theorem after_mk {x s : Nat} (ms : MS0 h) (nt : MNt h n P wi) (po : PartsOK n P) (h25 : hI h 67 25 = nI b) (hb9 : b < 65536) (hx : x < n) (hs : s < 2 ^ n) : WPM 178 [.ref 67, .int (nI s), .int (nI x)] h Q ↔ Q (some (.int (oI (if s &&& P x = P x ∧ ¬ s.testBit x = true ∧ pc s < b then some (s ||| 2 ^ x) else none)))) h := by
  obtain ⟨n0, n1, n2⟩ := nt
  have hn := po.1
  have hs6 := s_lt hn hs
  have hPx := s_lt hn (po.lt hx)
  have c1 : (nI x).toNatClampNeg = x := nI_clamp (by omega)
  have i1 : inb (nI x) 28 = true := inb_nI (by omega) (by decide)
  have g20 : ¬ (20 : Int32) ≤ nI x := nI_ge (b := 20) (a := x) (by omega) (by decide)
  have lt1 : nI x < nI n := nI_lt hx (by omega)
  have e1 := sdf0 (a := P x) (s := s) (by omega)
  have e2 := mtb1 (s := s) (x := x) (by omega) (by omega)
  have hbits := fun Q : Option Value → AH → Prop => s152 (Q := Q) (h := h) (s := s) (by omega)
  have e3 : (nI (pc s) < nI b) ↔ pc s < b := nI_ltI (by have := pc_le s; omega) (by omega)
  have pw : (1 : Int32) <<< (nI x &&& 31) = nI (2 ^ x) := nI_pow x (by omega)
  have m0 := n2 x hx
  by_cases q1 : s &&& P x = P x
  · by_cases q2 : s.testBit x = true
    · rw [if_neg (fun z => z.2.1 q2)]
      simp only [we178, w178_a, w178_b, ms, mz, c1, i1, g20, n0, lt1, m0, nI_sdf, e1, e2, q1, q2, zz, oI_none]
    · by_cases q3 : pc s < b
      · rw [if_pos ⟨q1, q2, q3⟩]
        simp only [we178, w178_a, w178_b, ms, mz, c1, i1, g20, n0, lt1, m0, nI_sdf, e1, e2, hbits, e3, h25, pw, nI_or, q1, q2, q3, zz, oI_some]
      · rw [if_neg (fun z => q3 z.2.2)]
        simp only [we178, w178_a, w178_b, ms, mz, c1, i1, g20, n0, lt1, m0, nI_sdf, e1, e2, hbits, e3, h25, q1, q2, q3, zz, oI_none]
  · rw [if_neg (fun z => q1 z.1)]
    by_cases q2 : s.testBit x = true
    · simp only [we178, w178_a, w178_b, ms, mz, c1, i1, g20, n0, lt1, m0, nI_sdf, e1, e2, q1, q2, zz, oI_none]
    · simp only [we178, w178_a, w178_b, ms, mz, c1, i1, g20, n0, lt1, m0, nI_sdf, e1, e2, q1, q2, zz, oI_none]
theorem after_wa {x s : Nat} (ms : MS0 h) (nt : MNt h n P wi) (po : PartsOK n P) (h24 : hI h 67 24 = nI w) (hw : w < 8) (hx : x < n) (hs : s < 2 ^ n) : WPM 178 [.ref 67, .int (nI s), .int (nI (20 + x))] h Q ↔ Q (some (.int (oI (if s.testBit x = true ∧ ¬ (w / 2 % 2 = 1 ∧ ¬ s &&& P x = P x) then some (sdf s (2 ^ x)) else none)))) h := by
  obtain ⟨n0, n1, n2⟩ := nt
  have hn := po.1
  have hs6 := s_lt hn hs
  have hPx := s_lt hn (po.lt hx)
  have c1 : (nI x).toNatClampNeg = x := nI_clamp (by omega)
  have i1 : inb (nI x) 28 = true := inb_nI (by omega) (by decide)
  have g20 : (20 : Int32) ≤ nI (20 + x) := nI_le (a := 20) (b := 20 + x) (by omega) (by omega)
  have g100 : ¬ (100 : Int32) ≤ nI (20 + x) := nI_ge (b := 100) (a := 20 + x) (by omega) (by decide)
  have es : nI (20 + x) - 20 = nI x := by
    have := pk_sub (a := 20 + x) (b := 20) (by omega)
    rw [show 20 + x - 20 = x by omega] at this
    exact this
  have lt1 : nI x < nI n := nI_lt hx (by omega)
  have e1 := sdf0 (a := P x) (s := s) (by omega)
  have e2 := mtb1 (s := s) (x := x) (by omega) (by omega)
  have hw2 := wy2 w hw
  have pw : (1 : Int32) <<< (nI x &&& 31) = nI (2 ^ x) := nI_pow x (by omega)
  have m0 := n2 x hx
  by_cases q2 : s.testBit x = true
  · by_cases q3 : w / 2 % 2 = 1
    · by_cases q1 : s &&& P x = P x
      · rw [if_pos ⟨q2, fun z => z.2 q1⟩]
        simp only [we178, w178_a, w178_b, w178_c, ms, mz, c1, i1, g20, g100, es, n0, lt1, m0, nI_sdf, e1, e2, h24, hw2, pw, q1, q2, q3, zz, oI_some]
      · rw [if_neg (fun z => z.2 ⟨q3, q1⟩)]
        simp only [we178, w178_a, w178_b, w178_c, ms, mz, c1, i1, g20, g100, es, n0, lt1, m0, nI_sdf, e1, e2, h24, hw2, pw, q1, q2, q3, zz, oI_none]
    · rw [if_pos ⟨q2, fun z => q3 z.1⟩]
      by_cases q1 : s &&& P x = P x
      · simp only [we178, w178_a, w178_b, w178_c, ms, mz, c1, i1, g20, g100, es, n0, lt1, m0, nI_sdf, e1, e2, h24, hw2, pw, q1, q2, q3, zz, oI_some]
      · simp only [we178, w178_a, w178_b, w178_c, ms, mz, c1, i1, g20, g100, es, n0, lt1, m0, nI_sdf, e1, e2, h24, hw2, pw, q1, q2, q3, zz, oI_some]
  · rw [if_neg (fun z => q2 z.1)]
    by_cases q1 : s &&& P x = P x
    · simp only [we178, w178_a, w178_b, w178_c, ms, mz, c1, i1, g20, g100, es, n0, lt1, m0, nI_sdf, e1, e2, q1, q2, zz, oI_none]
    · simp only [we178, w178_a, w178_b, w178_c, ms, mz, c1, i1, g20, g100, es, n0, lt1, m0, nI_sdf, e1, e2, q1, q2, zz, oI_none]
theorem num_in {x y : Nat} (hx : x < 14) (hy : y < 14) : (20 : Int32) ≤ nI (100 + 20 * x + y) ∧ (100 : Int32) ≤ nI (100 + 20 * x + y) ∧ nI (100 + 20 * x + y) - 100 = nI (20 * x + y) ∧ nI (20 * x + y) / 20 = nI x ∧ nI (20 * x + y) - nI x * 20 = nI y := by
  refine ⟨nI_le (a := 20) (by omega) (by omega), nI_le (a := 100) (by omega) (by omega), ?_, ?_, ?_⟩
  · have := pk_sub (a := 100 + 20 * x + y) (b := 100) (by omega)
    rw [show 100 + 20 * x + y - 100 = 20 * x + y by omega] at this
    exact this
  · have := pk_div (a := 20 * x + y) (d := 20) (by omega) (by decide) (by decide)
    rw [show (20 * x + y) / 20 = x by omega] at this
    exact this
  · have h1 := pk_mul x 20
    have h2 := pk_sub (a := 20 * x + y) (b := x * 20) (by omega)
    rw [show 20 * x + y - x * 20 = y by omega, ← h1] at h2
    exact h2
theorem after_in {x y s : Nat} (ms : MS0 h) (nt : MNt h n P wi) (po : PartsOK n P) (h24 : hI h 67 24 = nI w) (hw : w < 8) (hx : x < n) (hy : y < 14) (hs : s < 2 ^ n) : WPM 178 [.ref 67, .int (nI s), .int (nI (100 + 20 * x + y))] h Q ↔ Q (some (.int (oI (if w % 2 = 1 ∧ s &&& P x = P x ∧ ¬ s.testBit x = true ∧ (P x).testBit y = true ∧ ¬ (w / 2 % 2 = 1 ∧ ¬ s &&& P y = P y) then some (sdf s (2 ^ y) ||| 2 ^ x) else none)))) h := by
  obtain ⟨n0, n1, n2⟩ := nt
  have hn := po.1
  have hs6 := s_lt hn hs
  have hPx := s_lt hn (po.lt hx)
  have c1 : (nI x).toNatClampNeg = x := nI_clamp (by omega)
  have i1 : inb (nI x) 28 = true := inb_nI (by omega) (by decide)
  have c2 : (nI y).toNatClampNeg = y := nI_clamp (by omega)
  have i2 : inb (nI y) 28 = true := inb_nI (by omega) (by decide)
  obtain ⟨g20, g100, g1, g2, g3⟩ := num_in (x := x) (y := y) (by omega) hy
  have lt1 : nI x < nI n := nI_lt hx (by omega)
  have e1 := sdf0 (a := P x) (s := s) (by omega)
  have e2 := mtb1 (s := s) (x := x) (by omega) (by omega)
  have e4 := mtb0 (s := P x) (x := y) (by omega) (by omega)
  have hw2 := wy2 w hw
  have hw1 := wy1 w hw
  have pw : (1 : Int32) <<< (nI x &&& 31) = nI (2 ^ x) := nI_pow x (by omega)
  have pw2 : (1 : Int32) <<< (nI y &&& 31) = nI (2 ^ y) := nI_pow y (by omega)
  have m0 := n2 x hx
  by_cases q0 : w % 2 = 1
  · by_cases q1 : s &&& P x = P x
    · by_cases q2 : s.testBit x = true
      · rw [if_neg (fun z => z.2.2.1 q2)]
        simp only [we178, w178_a, w178_b, w178_c, w178_d, ms, mz, c1, i1, g20, g100, g1, g2, g3, n0, lt1, m0, nI_sdf, e1, e2, h24, hw1, q0, q1, q2, zz, oI_none]
      · by_cases q3 : (P x).testBit y = true
        · have hyx : y < n := by
            have : y < x := by
              rcases Nat.lt_or_ge y x with q | q
              · exact q
              · rw [Nat.testBit_lt_two_pow (Nat.lt_of_lt_of_le (po.2 x hx).1 (p2_le q))] at q3
                cases q3
            omega
          have m1 := n2 y hyx
          have hPy := s_lt hn (po.lt hyx)
          have e5 := sdf0 (a := P y) (s := s) (by omega)
          by_cases q4 : w / 2 % 2 = 1
          · by_cases q5 : s &&& P y = P y
            · rw [if_pos ⟨q0, q1, q2, q3, fun z => z.2 q5⟩]
              simp only [we178, w178_a, w178_b, w178_c, w178_d, ms, mz, c1, i1, c2, i2, g20, g100, g1, g2, g3, n0, lt1, m0, m1, nI_sdf, nI_or, e1, e2, e4, e5, h24, hw1, hw2, pw, pw2, q0, q1, q2, q3, q4, q5, zz, oI_some]
            · rw [if_neg (fun z => z.2.2.2.2 ⟨q4, q5⟩)]
              simp only [we178, w178_a, w178_b, w178_c, w178_d, ms, mz, c1, i1, c2, i2, g20, g100, g1, g2, g3, n0, lt1, m0, m1, nI_sdf, nI_or, e1, e2, e4, e5, h24, hw1, hw2, pw, pw2, q0, q1, q2, q3, q4, q5, zz, oI_none]
          · rw [if_pos ⟨q0, q1, q2, q3, fun z => q4 z.1⟩]
            simp only [we178, w178_a, w178_b, w178_c, w178_d, ms, mz, c1, i1, c2, i2, g20, g100, g1, g2, g3, n0, lt1, m0, m1, nI_sdf, nI_or, e1, e2, e4, h24, hw1, hw2, pw, pw2, q0, q1, q2, q3, q4, zz, oI_some]
        · rw [if_neg (fun z => q3 z.2.2.2.1)]
          simp only [we178, w178_a, w178_b, w178_c, w178_d, ms, mz, c1, i1, g20, g100, g1, g2, g3, n0, lt1, m0, nI_sdf, e1, e2, e4, h24, hw1, q0, q1, q2, q3, zz, oI_none]
    · rw [if_neg (fun z => q1 z.2.1)]
      by_cases q2 : s.testBit x = true
      · simp only [we178, w178_a, w178_b, w178_c, w178_d, ms, mz, c1, i1, g20, g100, g1, g2, g3, n0, lt1, m0, nI_sdf, e1, e2, h24, hw1, q0, q1, q2, zz, oI_none]
      · simp only [we178, w178_a, w178_b, w178_c, w178_d, ms, mz, c1, i1, g20, g100, g1, g2, g3, n0, lt1, m0, nI_sdf, e1, e2, h24, hw1, q0, q1, q2, zz, oI_none]
  · rw [if_neg (fun z => q0 z.1)]
    by_cases q1 : s &&& P x = P x
    · by_cases q2 : s.testBit x = true
      · simp only [we178, w178_a, w178_b, w178_c, w178_d, ms, mz, c1, i1, g20, g100, g1, g2, g3, n0, lt1, m0, nI_sdf, e1, e2, h24, hw1, q0, q1, q2, zz, oI_none]
      · simp only [we178, w178_a, w178_b, w178_c, w178_d, ms, mz, c1, i1, g20, g100, g1, g2, g3, n0, lt1, m0, nI_sdf, e1, e2, h24, hw1, q0, q1, q2, zz, oI_none]
    · by_cases q2 : s.testBit x = true
      · simp only [we178, w178_a, w178_b, w178_c, w178_d, ms, mz, c1, i1, g20, g100, g1, g2, g3, n0, lt1, m0, nI_sdf, e1, e2, h24, hw1, q0, q1, q2, zz, oI_none]
      · simp only [we178, w178_a, w178_b, w178_c, w178_d, ms, mz, c1, i1, g20, g100, g1, g2, g3, n0, lt1, m0, nI_sdf, e1, e2, h24, hw1, q0, q1, q2, zz, oI_none]
/-- of THINGS that are none now -/
theorem after_no {p x : Nat} (ms : MS0 h) (h72 : hI h 72 0 = nI n) (hn : n ≤ 14) (hx : n ≤ x) (hx14 : x < 14) (hp : p = x ∨ p = 20 + x ∨ ∃ y, y < 14 ∧ p = 100 + 20 * x + y) (s : Int32) : WPM 178 [.ref 67, .int s, .int (nI p)] h Q ↔ Q (some (.int (-1))) h := by
  have lt1 : ¬ nI x < nI n := nI_nlt hx (by omega)
  rcases hp with rfl | rfl | ⟨y, hy, rfl⟩
  · have g20 : ¬ (20 : Int32) ≤ nI p := nI_ge (b := 20) (a := p) (by omega) (by decide)
    simp only [we178, w178_a, w178_b, ms, mz, g20, h72, lt1, zz]
  · have g20 : (20 : Int32) ≤ nI (20 + x) := nI_le (a := 20) (b := 20 + x) (by omega) (by omega)
    have g100 : ¬ (100 : Int32) ≤ nI (20 + x) := nI_ge (b := 100) (a := 20 + x) (by omega) (by decide)
    have es : nI (20 + x) - 20 = nI x := by
      have := pk_sub (a := 20 + x) (b := 20) (by omega)
      rw [show 20 + x - 20 = x by omega] at this
      exact this
    simp only [we178, w178_a, w178_b, ms, mz, g20, g100, es, h72, lt1, zz]
  · obtain ⟨g20, g100, g1, g2, g3⟩ := num_in (x := x) (y := y) (by omega) hy
    simp only [we178, w178_a, w178_b, ms, mz, g20, g100, g1, g2, h72, lt1, zz]
end Mb

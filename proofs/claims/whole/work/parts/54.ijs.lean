/-! ===== frames with longs; stores of references; sums ===== -/
/-- only ints of A, longs of J -/
def OnlyIJ (A J : Nat → Prop) (h h' : AH) : Prop := hT h' = hT h ∧ hL h' = hL h ∧ hR h' = hR h ∧ hN h' = hN h ∧ hS h' = hS h ∧ (∀ a, ¬ A a → hI h' a = hI h a) ∧ ∀ a, ¬ J a → hJ h' a = hJ h a
theorem OnlyIJ.rf {A J : Nat → Prop} {h : AH} : OnlyIJ A J h h := ⟨rfl, rfl, rfl, rfl, rfl, fun _ _ => rfl, fun _ _ => rfl⟩
theorem OnlyIJ.trans {A J : Nat → Prop} {h h1 h2 : AH} (a : OnlyIJ A J h h1) (b : OnlyIJ A J h1 h2) : OnlyIJ A J h h2 := by
  obtain ⟨a1, a2, a3, a4, a5, a6, a7⟩ := a
  obtain ⟨b1, b2, b3, b4, b5, b6, b7⟩ := b
  exact ⟨b1.trans a1, b2.trans a2, b3.trans a3, b4.trans a4, b5.trans a5, fun x hx => (b6 x hx).trans (a6 x hx), fun x hx => (b7 x hx).trans (a7 x hx)⟩
theorem OnlyIJ.mono {A J A1 J1 : Nat → Prop} {h h1 : AH} (a : OnlyIJ A J h h1) (hA : ∀ x, A x → A1 x) (hJ' : ∀ x, J x → J1 x) : OnlyIJ A1 J1 h h1 := by
  obtain ⟨a1, a2, a3, a4, a5, a6, a7⟩ := a
  exact ⟨a1, a2, a3, a4, a5, fun x hx => a6 x (fun q => hx (hA x q)), fun x hx => a7 x (fun q => hx (hJ' x q))⟩
theorem OnlyI.ij {A J : Nat → Prop} {h h1 : AH} (o : OnlyI A h h1) : OnlyIJ A J h h1 := ⟨o.1, o.2.1, o.2.2.2.1, o.2.2.2.2.1, o.2.2.2.2.2.1, o.2.2.2.2.2.2, fun a _ => by rw [o.2.2.1]⟩
theorem OnlyIJ.sI {A J : Nat → Prop} {h h1 : AH} (a : OnlyIJ A J h h1) {x k : Nat} (v : Int32) (hx : A x) : OnlyIJ A J h (sI h1 x k v) := a.trans (OnlyI.sI (A := A) OnlyI.rf v hx).ij
theorem OnlyIJ.sJ {A J : Nat → Prop} {h h1 : AH} (a : OnlyIJ A J h h1) {x k : Nat} (v : Int64) (hx : J x) : OnlyIJ A J h (sJ h1 x k v) := by
  refine a.trans ⟨rfl, rfl, rfl, rfl, rfl, fun _ _ => rfl, fun y hy => ?_⟩
  have : y ≠ x := fun q => hy (by rw [q]; exact hx)
  rw [hJ_sJ_o this]
theorem OnlyIJ.fr {A J : Nat → Prop} {h h' : AH} (o : OnlyIJ A J h h') : Fr A J h h' := by
  obtain ⟨e1, e2, e3, e4, e5, e6, e7⟩ := o
  exact ⟨by rw [e4]; exact Nat.le_refl _, by rw [e5]; exact Nat.le_refl _, fun a _ => ⟨by rw [e1], by rw [e2], e6 a, e7 a⟩, fun a k _ _ => by rw [e3]⟩
theorem CFr.ofIJ {A J A' J' : Nat → Prop} {h h' : AH} (o : OnlyIJ A' J' h h') (hA : ∀ a, A' a → A a ∨ a = hR h 31 0 ∨ a = hR h 31 1 ∨ a = hR h 31 2) (hJ' : ∀ a, J' a → J a ∨ a = hR h 31 3) : CFr A J h h' := by
  have e3 := o.2.2.1
  refine ⟨o.fr.mono hA hJ', ?_⟩
  unfold sN
  rw [e3, o.2.1]
  exact ⟨Or.inl rfl, Or.inl rfl, Or.inl rfl, Or.inl rfl, Or.inl rfl, Or.inl rfl, rfl, rfl, fun _ => Or.inr rfl, fun _ => Or.inr rfl, Nat.le_refl _, Nat.le_refl _⟩
theorem CW.ofIJ {A' J' : Nat → Prop} {B M : Nat} {h h' : AH} (o : OnlyIJ A' J' h h') (w : CW B M h) : CW B M h' := by
  obtain ⟨w1, w2, w3⟩ := w
  obtain ⟨e1, e2, e3, e4, e5, e6, e7⟩ := id o
  refine ⟨o.fr.cs w2.1 w1, ?_, ?_⟩
  · unfold DY at w2 ⊢
    rw [e1, e2, e3, e4]
    exact w2
  · unfold Rm at w3 ⊢
    rw [e2, e3, e4, e5]
    exact w3
/-- the fields that hold a row of the desk for a while -/
def fldR (a k : Nat) : Bool := dynR a k && !(a == 31 || a == 2 || (a == 47 && k == 2) || (a == 50 && k == 6))
theorem fldR_ne {a k : Nat} (hd : fldR a k = true) {b j : Nat} (hb : (b == 31 || b == 2 || (b == 47 && j == 2) || (b == 50 && j == 6)) = true) : ¬ (b = a ∧ j = k) := by
  rintro ⟨rfl, rfl⟩
  unfold fldR at hd
  rw [hb] at hd
  simp at hd
theorem fldR_dyn {a k : Nat} (hd : fldR a k = true) : dynR a k = true := by
  unfold fldR at hd
  rw [Bool.and_eq_true] at hd
  exact hd.1
theorem CFr.setR {A J : Nat → Prop} {h : AH} {a k v : Nat} (hd : fldR a k = true) : CFr A J h (sR h a k v) := by
  have q0 : hR (sR h a k v) 31 0 = hR h 31 0 := by rw [hR_sR, if_neg (fldR_ne hd (by decide))]
  have q3 : hR (sR h a k v) 31 3 = hR h 31 3 := by rw [hR_sR, if_neg (fldR_ne hd (by decide))]
  refine ⟨Fr.sR (fldR_dyn hd), Or.inl ?_, Or.inl ?_, Or.inl ?_, Or.inl ?_, Or.inl ?_, Or.inl ?_, ?_, ?_, fun _ => Or.inr ?_, fun _ => Or.inr ?_, (by rw [q0]; exact Nat.le_refl _), (by rw [q3]; exact Nat.le_refl _)⟩ <;> rw [hR_sR, if_neg (fldR_ne hd (by decide))]
theorem CW.setR {B M : Nat} {h : AH} {a k v : Nat} (hd : fldR a k = true) (w : CW B M h) : CW B M (sR h a k v) := by
  obtain ⟨w1, w2, w3⟩ := w
  have e0 : hR (sR h a k v) 31 0 = hR h 31 0 := by rw [hR_sR, if_neg (fldR_ne hd (by decide))]
  have e1 : hR (sR h a k v) 31 1 = hR h 31 1 := by rw [hR_sR, if_neg (fldR_ne hd (by decide))]
  have e2 : hR (sR h a k v) 31 2 = hR h 31 2 := by rw [hR_sR, if_neg (fldR_ne hd (by decide))]
  have e3 : hR (sR h a k v) 31 3 = hR h 31 3 := by rw [hR_sR, if_neg (fldR_ne hd (by decide))]
  have e4 : hR (sR h a k v) 47 2 = hR h 47 2 := by rw [hR_sR, if_neg (fldR_ne hd (by decide))]
  have e5 : hR (sR h a k v) 50 6 = hR h 50 6 := by rw [hR_sR, if_neg (fldR_ne hd (by decide))]
  refine ⟨(Fr.sR (AI := fun _ => False) (AJ := fun _ => False) (fldR_dyn hd)).cs w2.1 w1, ?_, ?_⟩
  · unfold DY at w2 ⊢
    rw [e0, e1, e2, e3, e4, e5]
    exact w2
  · unfold Rm at w3 ⊢
    rw [e0, e1, e2, e3, e4, e5]
    exact w3
theorem nodup_len (N : Nat) (l : List Nat) (h1 : l.Nodup) (h2 : ∀ x, x ∈ l → x < N) : l.length ≤ N := by
  have := List.Nodup.length_le_of_subset h1 (l₂ := List.range N) (fun x hx => List.mem_range.mpr (h2 x hx))
  simp at this
  exact this
/-- sums -/
def sm (f : Nat → Nat) : Nat → Nat
  | 0 => 0
  | n + 1 => sm f n + f n
theorem sm_congr {f g : Nat → Nat} : ∀ n, (∀ i, i < n → f i = g i) → sm f n = sm g n
  | 0, _ => rfl
  | n + 1, h => by
    show sm f n + f n = sm g n + g n
    rw [sm_congr n (fun i hi => h i (by omega)), h n (by omega)]
theorem sm_zero {f : Nat → Nat} : ∀ n, (∀ i, i < n → f i = 0) → sm f n = 0
  | 0, _ => rfl
  | n + 1, h => by
    show sm f n + f n = 0
    rw [sm_zero n (fun i hi => h i (by omega)), h n (by omega)]
theorem sm_up {f g : Nat → Nat} {j : Nat} : ∀ n, j < n → (∀ i, i < n → i ≠ j → g i = f i) → sm g n + f j = sm f n + g j
  | 0, h, _ => absurd h (Nat.not_lt_zero _)
  | n + 1, h, e => by
    show sm g n + g n + f j = sm f n + f n + g j
    by_cases q : j = n
    · subst q
      have := sm_congr (f := g) (g := f) j (fun i hi => e i (by omega) (by omega))
      omega
    · have := sm_up n (by omega) (fun i hi hij => e i (by omega) hij)
      have := e n (by omega) (fun z => q z.symm)
      omega
theorem sm_pos {f : Nat → Nat} {n : Nat} : 0 < sm f n ↔ ∃ i, i < n ∧ 0 < f i := by
  induction n with
  | zero => exact ⟨fun h => absurd h (Nat.lt_irrefl 0), fun ⟨i, h, _⟩ => absurd h (Nat.not_lt_zero _)⟩
  | succ n ih =>
    show 0 < sm f n + f n ↔ _
    constructor
    · intro h
      by_cases q : 0 < f n
      · exact ⟨n, by omega, q⟩
      · obtain ⟨i, h1, h2⟩ := ih.mp (by omega)
        exact ⟨i, by omega, h2⟩
    · rintro ⟨i, h1, h2⟩
      by_cases q : i = n
      · subst q; omega
      · have := ih.mpr ⟨i, by omega, h2⟩
        omega
theorem lN_toI {n : Nat} (h : n < 2 ^ 62) : (lN n).toInt = (n : Int) := lg_ofNat_toInt (by omega)
theorem lN_ltI {a b : Nat} (ha : a < 2 ^ 62) (hb : b < 2 ^ 62) : lN a < lN b ↔ a < b := by
  rw [Int64.lt_iff_toInt_lt, lN_toI ha, lN_toI hb]
  omega
theorem lN_eqI {a b : Nat} (ha : a < 2 ^ 62) (hb : b < 2 ^ 62) : lN a = lN b ↔ a = b := by
  constructor
  · intro h
    have := congrArg Int64.toInt h
    rw [lN_toI ha, lN_toI hb] at this
    omega
  · intro h
    rw [h]
/-! what is apart from the rows that grow: never as one heap of hypotheses -/
def farA (a : Nat) : Bool := decide (a < 100) && !(a == 32 || a == 33 || a == 34 || a == 35 || a == 48 || a == 54)
theorem farA_iff {a : Nat} : farA a = true ↔ a < 100 ∧ a ≠ 32 ∧ a ≠ 33 ∧ a ≠ 34 ∧ a ≠ 35 ∧ a ≠ 48 ∧ a ≠ 54 := by
  unfold farA
  simp only [Bool.and_eq_true, decide_eq_true_eq, Bool.not_eq_true', Bool.or_eq_false_iff, beq_eq_false_iff_ne, and_assoc]
theorem CW.far {B M : Nat} {h : AH} (w : CW B M h) {a : Nat} (ha : farA a = true) : a ≠ hR h 31 0 ∧ a ≠ hR h 31 1 ∧ a ≠ hR h 31 2 ∧ a ≠ hR h 31 3 ∧ a ≠ hR h 47 2 ∧ a ≠ hR h 50 6 := by
  obtain ⟨h1, h2, h3, h4, h5, h6, h7⟩ := farA_iff.mp ha
  obtain ⟨o0, o1, o2, o3, o4, o5⟩ := w.2.1.2.2.2.2.1
  clear w ha
  refine ⟨?_, ?_, ?_, ?_, ?_, ?_⟩
  · clear o1 o2 o3 o4 o5; omega
  · clear o0 o2 o3 o4 o5; omega
  · clear o1 o0 o3 o4 o5; omega
  · clear o1 o2 o0 o4 o5; omega
  · clear o1 o2 o3 o0 o5; omega
  · clear o1 o2 o3 o4 o0; omega
theorem CW.nact {B M : Nat} {h : AH} (w : CW B M h) : (hR h 31 0 < 36 ∨ 41 < hR h 31 0) ∧ (hR h 31 1 < 36 ∨ 41 < hR h 31 1) ∧ (hR h 31 2 < 36 ∨ 41 < hR h 31 2) ∧ (hR h 31 3 < 36 ∨ 41 < hR h 31 3) ∧ (hR h 47 2 < 36 ∨ 41 < hR h 47 2) ∧ (hR h 50 6 < 36 ∨ 41 < hR h 50 6) := by
  obtain ⟨o0, o1, o2, o3, o4, o5⟩ := w.2.1.2.2.2.2.1
  clear w
  refine ⟨?_, ?_, ?_, ?_, ?_, ?_⟩
  · clear o1 o2 o3 o4 o5; omega
  · clear o0 o2 o3 o4 o5; omega
  · clear o1 o0 o3 o4 o5; omega
  · clear o1 o2 o0 o4 o5; omega
  · clear o1 o2 o3 o0 o5; omega
  · clear o1 o2 o3 o4 o0; omega
theorem CW.ap {B M : Nat} {h : AH} (w : CW B M h) : hR h 31 0 ≠ hR h 31 1 ∧ hR h 31 0 ≠ hR h 31 2 ∧ hR h 31 0 ≠ hR h 31 3 ∧ hR h 31 0 ≠ hR h 47 2 ∧ hR h 31 0 ≠ hR h 50 6 ∧ hR h 31 1 ≠ hR h 31 2 ∧ hR h 31 1 ≠ hR h 31 3 ∧ hR h 31 1 ≠ hR h 47 2 ∧ hR h 31 1 ≠ hR h 50 6 ∧ hR h 31 2 ≠ hR h 31 3 ∧ hR h 31 2 ≠ hR h 47 2 ∧ hR h 31 2 ≠ hR h 50 6 ∧ hR h 31 3 ≠ hR h 47 2 ∧ hR h 31 3 ≠ hR h 50 6 ∧ hR h 47 2 ≠ hR h 50 6 := w.2.1.2.2.2.2.2
theorem CW.bl {B M : Nat} {h : AH} (w : CW B M h) : hR h 31 0 < hN h ∧ hR h 31 1 < hN h ∧ hR h 31 2 < hN h ∧ hR h 31 3 < hN h ∧ hR h 47 2 < hN h ∧ hR h 50 6 < hN h := w.2.1.2.2.2.1
theorem CW.tg {B M : Nat} {h : AH} (w : CW B M h) : hT h (hR h 31 0) = 100 ∧ hT h (hR h 31 1) = 100 ∧ hT h (hR h 31 2) = 100 ∧ hT h (hR h 31 3) = 103 ∧ hT h (hR h 47 2) = 101 ∧ hT h (hR h 50 6) = 100 := w.2.1.2.1
theorem CW.ln {B M : Nat} {h : AH} (w : CW B M h) : hL h (hR h 31 0) ≤ 65536 ∧ hL h (hR h 31 1) ≤ 65536 ∧ hL h (hR h 31 2) ≤ 65536 ∧ hL h (hR h 31 3) ≤ 65536 ∧ hL h (hR h 47 2) ≤ 65536 ∧ hL h (hR h 50 6) ≤ 65536 := w.2.1.2.2.1
theorem CW.c100 {B M : Nat} {h : AH} (w : CW B M h) : 100 ≤ hN h := w.2.1.1
theorem kn_far {kn j : Nat} (h : kn = 4 ∨ kn = 15) (hj : j ≤ 10) : farA (kn + j) = true := by
  rw [farA_iff]
  omega

/-! ===== how much room the searches take: each row grows only to a new length ===== -/
def sizes : List Nat := [1, 2, 4, 8, 16, 32, 64, 128, 256, 512, 1024, 2048, 4096, 8192, 16384, 32768, 3, 9, 27, 81, 243, 729, 2187, 6561]
def sumTo (l : List Nat) (n : Nat) : Nat := (l.filter (fun x => decide (x ≤ n))).sum
def cntTo (l : List Nat) (n : Nat) : Nat := (l.filter (fun x => decide (x ≤ n))).length
theorem sumTo_cons (x : Nat) (l : List Nat) (n : Nat) : sumTo (x :: l) n = (if x ≤ n then x else 0) + sumTo l n := by
  unfold sumTo
  by_cases hx : x ≤ n
  · simp [hx]
  · simp [hx]
theorem cntTo_cons (x : Nat) (l : List Nat) (n : Nat) : cntTo (x :: l) n = (if x ≤ n then 1 else 0) + cntTo l n := by
  unfold cntTo
  by_cases hx : x ≤ n
  · simp [hx, Nat.add_comm]
  · simp [hx]
theorem sumTo_mono (l : List Nat) {n m : Nat} (h : n ≤ m) : sumTo l n ≤ sumTo l m := by
  induction l with
  | nil => exact Nat.le_refl _
  | cons x l ih =>
    rw [sumTo_cons, sumTo_cons]
    split <;> split <;> omega
theorem cntTo_mono (l : List Nat) {n m : Nat} (h : n ≤ m) : cntTo l n ≤ cntTo l m := by
  induction l with
  | nil => exact Nat.le_refl _
  | cons x l ih =>
    rw [cntTo_cons, cntTo_cons]
    split <;> split <;> omega
theorem sumTo_add (l : List Nat) {n s : Nat} (hm : s ∈ l) (h : n < s) : sumTo l n + s ≤ sumTo l s := by
  induction l with
  | nil => cases hm
  | cons x l ih =>
    rw [sumTo_cons, sumTo_cons]
    rcases List.mem_cons.mp hm with q | q
    · subst q
      have := sumTo_mono l (Nat.le_of_lt h)
      rw [if_neg (by omega), if_pos (Nat.le_refl _)]
      omega
    · have := ih q
      split <;> split <;> omega
theorem cntTo_add (l : List Nat) {n s : Nat} (hm : s ∈ l) (h : n < s) : cntTo l n + 1 ≤ cntTo l s := by
  induction l with
  | nil => cases hm
  | cons x l ih =>
    rw [cntTo_cons, cntTo_cons]
    rcases List.mem_cons.mp hm with q | q
    · subst q
      have := cntTo_mono l (Nat.le_of_lt h)
      rw [if_neg (by omega), if_pos (Nat.le_refl _)]
      omega
    · have := ih q
      split <;> split <;> omega
def Tt (n : Nat) : Nat := sumTo sizes n
def Uu (n : Nat) : Nat := cntTo sizes n
theorem Tt_mono {n m : Nat} (h : n ≤ m) : Tt n ≤ Tt m := sumTo_mono _ h
theorem Uu_mono {n m : Nat} (h : n ≤ m) : Uu n ≤ Uu m := cntTo_mono _ h
theorem Tt_add {n s : Nat} (hm : s ∈ sizes) (h : n < s) : Tt n + s ≤ Tt s := sumTo_add _ hm h
theorem Uu_add {n s : Nat} (hm : s ∈ sizes) (h : n < s) : Uu n + 1 ≤ Uu s := cntTo_add _ hm h
theorem sumTo_le (l : List Nat) (n : Nat) : sumTo l n ≤ l.sum := by
  induction l with
  | nil => exact Nat.le_refl _
  | cons x l ih =>
    rw [sumTo_cons, List.sum_cons]
    split <;> omega
theorem Tt_le (n : Nat) : Tt n ≤ 75375 := Nat.le_trans (sumTo_le sizes n) (by decide)
theorem Uu_le (n : Nat) : Uu n ≤ 24 := by
  have := List.length_filter_le (fun x => decide (x ≤ n)) sizes
  exact this
/-- the rows that never grow beyond 2 to the 14 -/
def sizes1 : List Nat := [1, 2, 4, 8, 16, 32, 64, 128, 256, 512, 1024, 2048, 4096, 8192, 16384]
def Ts (n : Nat) : Nat := sumTo sizes1 n
theorem Ts_mono {n m : Nat} (h : n ≤ m) : Ts n ≤ Ts m := sumTo_mono _ h
theorem Ts_add {n s : Nat} (hm : s ∈ sizes1) (h : n < s) : Ts n + s ≤ Ts s := sumTo_add _ hm h
theorem Ts_le (n : Nat) : Ts n ≤ 32767 := Nat.le_trans (sumTo_le sizes1 n) (by decide)
theorem s1_s {x : Nat} (hm : x ∈ sizes1) : x ∈ sizes := by
  have : ∀ x ∈ sizes1, x ∈ sizes := by decide
  exact this x hm
theorem pow_sizes1 {n : Nat} (h : n ≤ 14) : 2 ^ n ∈ sizes1 := by
  have : ∀ n, n < 15 → 2 ^ n ∈ sizes1 := by decide
  exact this n (by omega)
theorem pow_sizes {n : Nat} (h : n ≤ 15) : 2 ^ n ∈ sizes := by
  have : ∀ n, n < 16 → 2 ^ n ∈ sizes := by decide
  exact this n (by omega)
theorem pow3_sizes {n : Nat} (h : n ≤ 8) : 3 ^ n ∈ sizes := by
  have : ∀ n, n < 9 → 3 ^ n ∈ sizes := by decide
  exact this n (by omega)
/-- the room taken -/
def Rm (B M : Nat) (h : AH) : Prop :=
  hS h ≤ B + Tt (hL h (hR h 31 0)) + Ts (hL h (hR h 31 1)) + Ts (hL h (hR h 31 2)) + Ts (hL h (hR h 31 3)) + Ts (hL h (hR h 47 2)) + 2 * hL h (hR h 50 6) ∧
  hN h ≤ M + Uu (hL h (hR h 31 0)) + Uu (hL h (hR h 31 1)) + Uu (hL h (hR h 31 2)) + Uu (hL h (hR h 31 3)) + Uu (hL h (hR h 47 2)) + hL h (hR h 50 6)
theorem Rm.same {B M : Nat} {h h' : AH} (r : Rm B M h) (e0 : hL h' (hR h' 31 0) = hL h (hR h 31 0)) (e1 : hL h' (hR h' 31 1) = hL h (hR h 31 1)) (e2 : hL h' (hR h' 31 2) = hL h (hR h 31 2)) (e3 : hL h' (hR h' 31 3) = hL h (hR h 31 3)) (e4 : hL h' (hR h' 47 2) = hL h (hR h 47 2)) (e5 : hL h' (hR h' 50 6) = hL h (hR h 50 6)) (en : hN h' ≤ hN h) (es : hS h' ≤ hS h) : Rm B M h' := by
  unfold Rm at r ⊢
  rw [e0, e1, e2, e3, e4, e5]
  exact ⟨by omega, by omega⟩
/-- a reference that was or a new one -/
def sN (h h' : AH) (a k : Nat) : Prop := hR h' a k = hR h a k ∨ hN h ≤ hR h' a k
/-- the class's world: all that stands, and the room -/
def CW (B M : Nat) (h : AH) : Prop := CS0 h ∧ DY h ∧ Rm B M h
/-- what a search leaves -/
def CFr (A J : Nat → Prop) (h h' : AH) : Prop :=
  Fr (fun a => A a ∨ a = hR h 31 0 ∨ a = hR h 31 1 ∨ a = hR h 31 2) (fun a => J a ∨ a = hR h 31 3) h h' ∧
  sN h h' 31 0 ∧ sN h h' 31 1 ∧ sN h h' 31 2 ∧ sN h h' 31 3 ∧ sN h h' 47 2 ∧ sN h h' 50 6 ∧ hR h' 2 2 = hR h 2 2 ∧ hR h' 2 3 = hR h 2 3 ∧ (47 < hN h → A 47 ∨ hR h' 47 2 = hR h 47 2) ∧ (50 < hN h → A 50 ∨ hR h' 50 6 = hR h 50 6) ∧ hL h (hR h 31 0) ≤ hL h' (hR h' 31 0) ∧ hL h (hR h 31 3) ≤ hL h' (hR h' 31 3)
theorem Fr.le0 {A J : Nat → Prop} {h h1 : AH} (f : Fr A J h h1) (d : DY h) (e : hR h1 31 0 = hR h 31 0) : hL h (hR h 31 0) ≤ hL h1 (hR h1 31 0) := by
  rw [e, (f.2.2.1 _ d.2.2.2.1.1).2.1]
  exact Nat.le_refl _
theorem Fr.le3 {A J : Nat → Prop} {h h1 : AH} (f : Fr A J h h1) (d : DY h) (e : hR h1 31 3 = hR h 31 3) : hL h (hR h 31 3) ≤ hL h1 (hR h1 31 3) := by
  rw [e, (f.2.2.1 _ d.2.2.2.1.2.2.2.1).2.1]
  exact Nat.le_refl _
theorem CFr.rf {A J : Nat → Prop} {h : AH} : CFr A J h h := ⟨Fr.rf, Or.inl rfl, Or.inl rfl, Or.inl rfl, Or.inl rfl, Or.inl rfl, Or.inl rfl, rfl, rfl, fun _ => Or.inr rfl, fun _ => Or.inr rfl, Nat.le_refl _, Nat.le_refl _⟩
theorem sN.trans {h h1 h2 : AH} {a k : Nat} (x : sN h h1 a k) (y : sN h1 h2 a k) (hn : hN h ≤ hN h1) : sN h h2 a k := by
  rcases y with y | y
  · rcases x with x | x
    · exact Or.inl (y.trans x)
    · exact Or.inr (by omega)
  · exact Or.inr (by omega)
theorem CFr.trans {A A1 J J1 : Nat → Prop} {h h1 h2 : AH} (x : CFr A J h h1) (y : CFr A1 J1 h1 h2) (hA : ∀ a, a < hN h → A1 a → A a) (hJ' : ∀ a, a < hN h → J1 a → J a) : CFr A J h h2 := by
  obtain ⟨x1, x2, x3, x4, x5, x6, x7, x8, x9, x10, x11, x12, x13⟩ := x
  obtain ⟨y1, y2, y3, y4, y5, y6, y7, y8, y9, y10, y11, y12, y13⟩ := y
  have hn := x1.1
  refine ⟨?_, x2.trans y2 hn, x3.trans y3 hn, x4.trans y4 hn, x5.trans y5 hn, x6.trans y6 hn, x7.trans y7 hn, y8.trans x8, y9.trans x9, fun z => ?_, fun z => ?_, Nat.le_trans x12 y12, Nat.le_trans x13 y13⟩
  rotate_left
  · rcases y10 (by omega) with q | q
    · exact Or.inl (hA 47 z q)
    · exact (x10 z).imp id (q.trans ·)
  · rcases y11 (by omega) with q | q
    · exact Or.inl (hA 50 z q)
    · exact (x11 z).imp id (q.trans ·)
  obtain ⟨a1, a2, a3, a4⟩ := x1
  obtain ⟨b1, b2, b3, b4⟩ := y1
  refine ⟨Nat.le_trans a1 b1, Nat.le_trans a2 b2, fun a ha => ?_, fun a k ha hk => (b4 a k (by omega) hk).trans (a4 a k ha hk)⟩
  obtain ⟨p1, p2, p3, p4⟩ := a3 a ha
  obtain ⟨q1, q2, q3, q4⟩ := b3 a (by omega)
  refine ⟨q1.trans p1, q2.trans p2, fun z => (q3 ?_).trans (p3 z), fun z => (q4 ?_).trans (p4 z)⟩
  · rintro (w | w | w | w)
    · exact z (Or.inl (hA a ha w))
    · rcases x2 with e | e
      · exact z (Or.inr (Or.inl (by omega)))
      · omega
    · rcases x3 with e | e
      · exact z (Or.inr (Or.inr (Or.inl (by omega))))
      · omega
    · rcases x4 with e | e
      · exact z (Or.inr (Or.inr (Or.inr (by omega))))
      · omega
  · rintro (w | w)
    · exact z (Or.inl (hJ' a ha w))
    · rcases x5 with e | e
      · exact z (Or.inr (by omega))
      · omega
theorem CFr.trans' {A J : Nat → Prop} {h h1 h2 : AH} (x : CFr A J h h1) (y : CFr A J h1 h2) : CFr A J h h2 := x.trans y (fun _ _ q => q) (fun _ _ q => q)
theorem CFr.mono {A A1 J J1 : Nat → Prop} {h h1 : AH} (x : CFr A J h h1) (hA : ∀ a, A a → A1 a) (hJ' : ∀ a, J a → J1 a) : CFr A1 J1 h h1 :=
  ⟨x.1.mono (fun a q => q.imp (hA a) id) (fun a q => q.imp (hJ' a) id), x.2.1, x.2.2.1, x.2.2.2.1, x.2.2.2.2.1, x.2.2.2.2.2.1, x.2.2.2.2.2.2.1, x.2.2.2.2.2.2.2.1, x.2.2.2.2.2.2.2.2.1, fun z => (x.2.2.2.2.2.2.2.2.2.1 z).imp (hA 47) id, fun z => (x.2.2.2.2.2.2.2.2.2.2.1 z).imp (hA 50) id, x.2.2.2.2.2.2.2.2.2.2.2⟩
/-- only ints change, and no rows -/
theorem CFr.ofI {A J A' : Nat → Prop} {h h' : AH} (o : OnlyI A' h h') (hA : ∀ a, A' a → A a) : CFr A J h h' := by
  have e4 := o.2.2.2.1
  refine ⟨(OnlyI.fr o).mono (fun a q => Or.inl (hA a q)) (fun a q => Or.inr q), ?_⟩
  unfold sN
  rw [e4, o.2.1]
  exact ⟨Or.inl rfl, Or.inl rfl, Or.inl rfl, Or.inl rfl, Or.inl rfl, Or.inl rfl, rfl, rfl, fun _ => Or.inr rfl, fun _ => Or.inr rfl, Nat.le_refl _, Nat.le_refl _⟩
theorem CW.ofI {A' : Nat → Prop} {B M : Nat} {h h' : AH} (o : OnlyI A' h h') (w : CW B M h) : CW B M h' := by
  obtain ⟨w1, w2, w3⟩ := w
  obtain ⟨e1, e2, e3, e4, e5, e6, e7⟩ := id o
  refine ⟨(OnlyI.fr (AJ := fun _ => False) o).cs w2.1 w1, ?_, ?_⟩
  · unfold DY at w2 ⊢
    rw [e1, e2, e4, e5]
    exact w2
  · unfold Rm at w3 ⊢
    rw [e2, e4, e5, e6]
    exact w3

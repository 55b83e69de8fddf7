/-! ===== rows asked for, with the room ===== -/
theorem len_old {A J : Nat → Prop} {h h' : AH} {a k : Nat} (f : Fr A J h h') (hb : hR h a k < hN h) (e : hR h' a k = hR h a k) : hL h' (hR h' a k) = hL h (hR h a k) := by
  rw [e]; exact (f.2.2.1 _ hb).2.1
theorem Rm.grow0 {A J : Nat → Prop} {B M n : Nat} {h h' : AH} (r : Rm B M h) (d : DY h) (f : Fr A J h h') (e1 : hR h' 31 1 = hR h 31 1) (e2 : hR h' 31 2 = hR h 31 2) (e3 : hR h' 31 3 = hR h 31 3) (e4 : hR h' 47 2 = hR h 47 2) (e5 : hR h' 50 6 = hR h 50 6) (eo : (hN h' = hN h ∧ hR h' 31 0 = hR h 31 0 ∧ hS h' = hS h) ∨ (hN h' = hN h + 1 ∧ hL h (hR h 31 0) < n ∧ hR h' 31 0 = hN h ∧ hL h' (hN h) = n ∧ hS h' = hS h + n)) : (n ∈ sizes → Rm B M h') ∧ Rm (B + if hL h (hR h 31 0) < n then n else 0) (M + if hL h (hR h 31 0) < n then 1 else 0) h' := by
  obtain ⟨-, -, -, ⟨b0, b1, b2, b3, b4, b5⟩, -, -⟩ := d
  unfold Rm at r ⊢
  rw [len_old f b1 e1, len_old f b2 e2, len_old f b3 e3, len_old f b4 e4, len_old f b5 e5]
  rcases eo with ⟨x1, x2, x3⟩ | ⟨x1, x2, x3, x4, x5⟩
  · rw [len_old f b0 x2]
    split
    · exact ⟨fun _ => ⟨by omega, by omega⟩, by omega, by omega⟩
    · exact ⟨fun _ => ⟨by omega, by omega⟩, by omega, by omega⟩
  · rw [x3, x4, if_pos x2, if_pos x2]
    have t0 := Tt_mono (Nat.le_of_lt x2)
    have u0 := Uu_mono (Nat.le_of_lt x2)
    refine ⟨fun hm => ?_, by omega, by omega⟩
    have t1 := Tt_add hm x2
    have u1 := Uu_add hm x2
    exact ⟨by omega, by omega⟩
theorem Rm.grow1 {A J : Nat → Prop} {B M n : Nat} {h h' : AH} (r : Rm B M h) (d : DY h) (f : Fr A J h h') (e0 : hR h' 31 0 = hR h 31 0) (e2 : hR h' 31 2 = hR h 31 2) (e3 : hR h' 31 3 = hR h 31 3) (e4 : hR h' 47 2 = hR h 47 2) (e5 : hR h' 50 6 = hR h 50 6) (eo : (hN h' = hN h ∧ hR h' 31 1 = hR h 31 1 ∧ hS h' = hS h) ∨ (hN h' = hN h + 1 ∧ hL h (hR h 31 1) < n ∧ hR h' 31 1 = hN h ∧ hL h' (hN h) = n ∧ hS h' = hS h + n)) : (n ∈ sizes1 → Rm B M h') ∧ Rm (B + if hL h (hR h 31 1) < n then n else 0) (M + if hL h (hR h 31 1) < n then 1 else 0) h' := by
  obtain ⟨-, -, -, ⟨b0, b1, b2, b3, b4, b5⟩, -, -⟩ := d
  unfold Rm at r ⊢
  rw [len_old f b0 e0, len_old f b2 e2, len_old f b3 e3, len_old f b4 e4, len_old f b5 e5]
  rcases eo with ⟨x1, x2, x3⟩ | ⟨x1, x2, x3, x4, x5⟩
  · rw [len_old f b1 x2]
    split
    · exact ⟨fun _ => ⟨by omega, by omega⟩, by omega, by omega⟩
    · exact ⟨fun _ => ⟨by omega, by omega⟩, by omega, by omega⟩
  · rw [x3, x4, if_pos x2, if_pos x2]
    have t0 := Ts_mono (Nat.le_of_lt x2)
    have u0 := Uu_mono (Nat.le_of_lt x2)
    refine ⟨fun hm => ?_, by omega, by omega⟩
    have t1 := Ts_add hm x2
    have u1 := Uu_add (s1_s hm) x2
    exact ⟨by omega, by omega⟩
theorem Rm.grow2 {A J : Nat → Prop} {B M n : Nat} {h h' : AH} (r : Rm B M h) (d : DY h) (f : Fr A J h h') (e0 : hR h' 31 0 = hR h 31 0) (e1 : hR h' 31 1 = hR h 31 1) (e3 : hR h' 31 3 = hR h 31 3) (e4 : hR h' 47 2 = hR h 47 2) (e5 : hR h' 50 6 = hR h 50 6) (eo : (hN h' = hN h ∧ hR h' 31 2 = hR h 31 2 ∧ hS h' = hS h) ∨ (hN h' = hN h + 1 ∧ hL h (hR h 31 2) < n ∧ hR h' 31 2 = hN h ∧ hL h' (hN h) = n ∧ hS h' = hS h + n)) : (n ∈ sizes1 → Rm B M h') ∧ Rm (B + if hL h (hR h 31 2) < n then n else 0) (M + if hL h (hR h 31 2) < n then 1 else 0) h' := by
  obtain ⟨-, -, -, ⟨b0, b1, b2, b3, b4, b5⟩, -, -⟩ := d
  unfold Rm at r ⊢
  rw [len_old f b0 e0, len_old f b1 e1, len_old f b3 e3, len_old f b4 e4, len_old f b5 e5]
  rcases eo with ⟨x1, x2, x3⟩ | ⟨x1, x2, x3, x4, x5⟩
  · rw [len_old f b2 x2]
    split
    · exact ⟨fun _ => ⟨by omega, by omega⟩, by omega, by omega⟩
    · exact ⟨fun _ => ⟨by omega, by omega⟩, by omega, by omega⟩
  · rw [x3, x4, if_pos x2, if_pos x2]
    have t0 := Ts_mono (Nat.le_of_lt x2)
    have u0 := Uu_mono (Nat.le_of_lt x2)
    refine ⟨fun hm => ?_, by omega, by omega⟩
    have t1 := Ts_add hm x2
    have u1 := Uu_add (s1_s hm) x2
    exact ⟨by omega, by omega⟩
theorem Rm.grow3 {A J : Nat → Prop} {B M n : Nat} {h h' : AH} (r : Rm B M h) (d : DY h) (f : Fr A J h h') (e0 : hR h' 31 0 = hR h 31 0) (e1 : hR h' 31 1 = hR h 31 1) (e2 : hR h' 31 2 = hR h 31 2) (e4 : hR h' 47 2 = hR h 47 2) (e5 : hR h' 50 6 = hR h 50 6) (eo : (hN h' = hN h ∧ hR h' 31 3 = hR h 31 3 ∧ hS h' = hS h) ∨ (hN h' = hN h + 1 ∧ hL h (hR h 31 3) < n ∧ hR h' 31 3 = hN h ∧ hL h' (hN h) = n ∧ hS h' = hS h + n)) : (n ∈ sizes1 → Rm B M h') ∧ Rm (B + if hL h (hR h 31 3) < n then n else 0) (M + if hL h (hR h 31 3) < n then 1 else 0) h' := by
  obtain ⟨-, -, -, ⟨b0, b1, b2, b3, b4, b5⟩, -, -⟩ := d
  unfold Rm at r ⊢
  rw [len_old f b0 e0, len_old f b1 e1, len_old f b2 e2, len_old f b4 e4, len_old f b5 e5]
  rcases eo with ⟨x1, x2, x3⟩ | ⟨x1, x2, x3, x4, x5⟩
  · rw [len_old f b3 x2]
    split
    · exact ⟨fun _ => ⟨by omega, by omega⟩, by omega, by omega⟩
    · exact ⟨fun _ => ⟨by omega, by omega⟩, by omega, by omega⟩
  · rw [x3, x4, if_pos x2, if_pos x2]
    have t0 := Ts_mono (Nat.le_of_lt x2)
    have u0 := Uu_mono (Nat.le_of_lt x2)
    refine ⟨fun hm => ?_, by omega, by omega⟩
    have t1 := Ts_add hm x2
    have u1 := Uu_add (s1_s hm) x2
    exact ⟨by omega, by omega⟩
theorem Rm.grow4 {A J : Nat → Prop} {B M n : Nat} {h h' : AH} (r : Rm B M h) (d : DY h) (f : Fr A J h h') (e0 : hR h' 31 0 = hR h 31 0) (e1 : hR h' 31 1 = hR h 31 1) (e2 : hR h' 31 2 = hR h 31 2) (e3 : hR h' 31 3 = hR h 31 3) (e5 : hR h' 50 6 = hR h 50 6) (eo : (hN h' = hN h ∧ hR h' 47 2 = hR h 47 2 ∧ hS h' = hS h) ∨ (hN h' = hN h + 1 ∧ hL h (hR h 47 2) < n ∧ hR h' 47 2 = hN h ∧ hL h' (hN h) = n ∧ hS h' = hS h + n)) : (n ∈ sizes1 → Rm B M h') ∧ Rm (B + if hL h (hR h 47 2) < n then n else 0) (M + if hL h (hR h 47 2) < n then 1 else 0) h' := by
  obtain ⟨-, -, -, ⟨b0, b1, b2, b3, b4, b5⟩, -, -⟩ := d
  unfold Rm at r ⊢
  rw [len_old f b0 e0, len_old f b1 e1, len_old f b2 e2, len_old f b3 e3, len_old f b5 e5]
  rcases eo with ⟨x1, x2, x3⟩ | ⟨x1, x2, x3, x4, x5⟩
  · rw [len_old f b4 x2]
    split
    · exact ⟨fun _ => ⟨by omega, by omega⟩, by omega, by omega⟩
    · exact ⟨fun _ => ⟨by omega, by omega⟩, by omega, by omega⟩
  · rw [x3, x4, if_pos x2, if_pos x2]
    have t0 := Ts_mono (Nat.le_of_lt x2)
    have u0 := Uu_mono (Nat.le_of_lt x2)
    refine ⟨fun hm => ?_, by omega, by omega⟩
    have t1 := Ts_add hm x2
    have u1 := Uu_add (s1_s hm) x2
    exact ⟨by omega, by omega⟩
theorem row0w {B M n : Nat} {h : AH} {Q : Option Value → AH → Prop} (w : CW B M h) (hm : n ∈ sizes) (k : ∀ h1, CW B M h1 → CFr (fun _ => False) (fun _ => False) h h1 → n ≤ hL h1 (hR h1 31 0) → (∀ a j, a < hN h → ¬ (a = 31 ∧ j = 0) → hR h1 a j = hR h a j) → Q (some (.ref (hR h1 31 0))) h1) : WPM 18 [.ref 31, .int (nI n)] h Q := by
  have hn : n ≤ 65536 := by
    have : ∀ x ∈ sizes, x ≤ 65536 := by decide
    exact this n hm
  obtain ⟨w1, w2, w3⟩ := w
  have w100 := w2.1
  refine row0 w1 w2 hn fun h1 c1 d1 g1 f1 e1 en es eo => ?_
  have en9 : sN h h1 31 0 := by
    rcases eo with ⟨-, x2, -⟩ | ⟨-, -, x3, -⟩
    · exact Or.inl x2
    · exact Or.inr (by omega)
  have mo9 : hL h (hR h 31 0) ≤ hL h1 (hR h1 31 0) := by
    rcases eo with ⟨-, x2, -⟩ | ⟨-, x2, -⟩
    · exact f1.le0 w2 x2
    · omega
  have cf : CFr (fun _ => False) (fun _ => False) h h1 := ⟨f1.mono (fun _ q => q.elim) (fun _ q => q.elim), en9, Or.inl (e1 31 1 (by omega) (by decide)), Or.inl (e1 31 2 (by omega) (by decide)), Or.inl (e1 31 3 (by omega) (by decide)), Or.inl (e1 47 2 (by omega) (by decide)), Or.inl (e1 50 6 (by omega) (by decide)), e1 2 2 (by omega) (by decide), e1 2 3 (by omega) (by decide), fun _ => Or.inr (e1 47 2 (by omega) (by decide)), fun _ => Or.inr (e1 50 6 (by omega) (by decide)), mo9, f1.le3 w2 (e1 31 3 (by omega) (by decide))⟩
  have rg := w3.grow0 w2 f1 (e1 31 1 (by omega) (by decide)) (e1 31 2 (by omega) (by decide)) (e1 31 3 (by omega) (by decide)) (e1 47 2 (by omega) (by decide)) (e1 50 6 (by omega) (by decide)) eo
  exact k h1 ⟨c1, d1, rg.1 hm⟩ cf g1 e1
theorem row0o {B M n : Nat} {h : AH} {Q : Option Value → AH → Prop} (w : CW B M h) (hn : n ≤ 65536) (k : ∀ h1, CW (B + if hL h (hR h 31 0) < n then n else 0) (M + if hL h (hR h 31 0) < n then 1 else 0) h1 → CFr (fun _ => False) (fun _ => False) h h1 → n ≤ hL h1 (hR h1 31 0) → (∀ a j, a < hN h → ¬ (a = 31 ∧ j = 0) → hR h1 a j = hR h a j) → Q (some (.ref (hR h1 31 0))) h1) : WPM 18 [.ref 31, .int (nI n)] h Q := by
  obtain ⟨w1, w2, w3⟩ := w
  have w100 := w2.1
  refine row0 w1 w2 hn fun h1 c1 d1 g1 f1 e1 en es eo => ?_
  have en9 : sN h h1 31 0 := by
    rcases eo with ⟨-, x2, -⟩ | ⟨-, -, x3, -⟩
    · exact Or.inl x2
    · exact Or.inr (by omega)
  have mo9 : hL h (hR h 31 0) ≤ hL h1 (hR h1 31 0) := by
    rcases eo with ⟨-, x2, -⟩ | ⟨-, x2, -⟩
    · exact f1.le0 w2 x2
    · omega
  have cf : CFr (fun _ => False) (fun _ => False) h h1 := ⟨f1.mono (fun _ q => q.elim) (fun _ q => q.elim), en9, Or.inl (e1 31 1 (by omega) (by decide)), Or.inl (e1 31 2 (by omega) (by decide)), Or.inl (e1 31 3 (by omega) (by decide)), Or.inl (e1 47 2 (by omega) (by decide)), Or.inl (e1 50 6 (by omega) (by decide)), e1 2 2 (by omega) (by decide), e1 2 3 (by omega) (by decide), fun _ => Or.inr (e1 47 2 (by omega) (by decide)), fun _ => Or.inr (e1 50 6 (by omega) (by decide)), mo9, f1.le3 w2 (e1 31 3 (by omega) (by decide))⟩
  have rg := w3.grow0 w2 f1 (e1 31 1 (by omega) (by decide)) (e1 31 2 (by omega) (by decide)) (e1 31 3 (by omega) (by decide)) (e1 47 2 (by omega) (by decide)) (e1 50 6 (by omega) (by decide)) eo
  exact k h1 ⟨c1, d1, rg.2⟩ cf g1 e1
theorem row1w {B M n : Nat} {h : AH} {Q : Option Value → AH → Prop} (w : CW B M h) (hm : n ∈ sizes1) (k : ∀ h1, CW B M h1 → CFr (fun _ => False) (fun _ => False) h h1 → n ≤ hL h1 (hR h1 31 1) → (∀ a j, a < hN h → ¬ (a = 31 ∧ j = 1) → hR h1 a j = hR h a j) → Q (some (.ref (hR h1 31 1))) h1) : WPM 19 [.ref 31, .int (nI n)] h Q := by
  have hn : n ≤ 65536 := by
    have : ∀ x ∈ sizes1, x ≤ 65536 := by decide
    exact this n hm
  obtain ⟨w1, w2, w3⟩ := w
  have w100 := w2.1
  refine row1 w1 w2 hn fun h1 c1 d1 g1 f1 e1 en es eo => ?_
  have en9 : sN h h1 31 1 := by
    rcases eo with ⟨-, x2, -⟩ | ⟨-, -, x3, -⟩
    · exact Or.inl x2
    · exact Or.inr (by omega)
  have cf : CFr (fun _ => False) (fun _ => False) h h1 := ⟨f1.mono (fun _ q => q.elim) (fun _ q => q.elim), Or.inl (e1 31 0 (by omega) (by decide)), en9, Or.inl (e1 31 2 (by omega) (by decide)), Or.inl (e1 31 3 (by omega) (by decide)), Or.inl (e1 47 2 (by omega) (by decide)), Or.inl (e1 50 6 (by omega) (by decide)), e1 2 2 (by omega) (by decide), e1 2 3 (by omega) (by decide), fun _ => Or.inr (e1 47 2 (by omega) (by decide)), fun _ => Or.inr (e1 50 6 (by omega) (by decide)), f1.le0 w2 (e1 31 0 (by omega) (by decide)), f1.le3 w2 (e1 31 3 (by omega) (by decide))⟩
  have rg := w3.grow1 w2 f1 (e1 31 0 (by omega) (by decide)) (e1 31 2 (by omega) (by decide)) (e1 31 3 (by omega) (by decide)) (e1 47 2 (by omega) (by decide)) (e1 50 6 (by omega) (by decide)) eo
  exact k h1 ⟨c1, d1, rg.1 hm⟩ cf g1 e1
theorem row1o {B M n : Nat} {h : AH} {Q : Option Value → AH → Prop} (w : CW B M h) (hn : n ≤ 65536) (k : ∀ h1, CW (B + if hL h (hR h 31 1) < n then n else 0) (M + if hL h (hR h 31 1) < n then 1 else 0) h1 → CFr (fun _ => False) (fun _ => False) h h1 → n ≤ hL h1 (hR h1 31 1) → (∀ a j, a < hN h → ¬ (a = 31 ∧ j = 1) → hR h1 a j = hR h a j) → Q (some (.ref (hR h1 31 1))) h1) : WPM 19 [.ref 31, .int (nI n)] h Q := by
  obtain ⟨w1, w2, w3⟩ := w
  have w100 := w2.1
  refine row1 w1 w2 hn fun h1 c1 d1 g1 f1 e1 en es eo => ?_
  have en9 : sN h h1 31 1 := by
    rcases eo with ⟨-, x2, -⟩ | ⟨-, -, x3, -⟩
    · exact Or.inl x2
    · exact Or.inr (by omega)
  have cf : CFr (fun _ => False) (fun _ => False) h h1 := ⟨f1.mono (fun _ q => q.elim) (fun _ q => q.elim), Or.inl (e1 31 0 (by omega) (by decide)), en9, Or.inl (e1 31 2 (by omega) (by decide)), Or.inl (e1 31 3 (by omega) (by decide)), Or.inl (e1 47 2 (by omega) (by decide)), Or.inl (e1 50 6 (by omega) (by decide)), e1 2 2 (by omega) (by decide), e1 2 3 (by omega) (by decide), fun _ => Or.inr (e1 47 2 (by omega) (by decide)), fun _ => Or.inr (e1 50 6 (by omega) (by decide)), f1.le0 w2 (e1 31 0 (by omega) (by decide)), f1.le3 w2 (e1 31 3 (by omega) (by decide))⟩
  have rg := w3.grow1 w2 f1 (e1 31 0 (by omega) (by decide)) (e1 31 2 (by omega) (by decide)) (e1 31 3 (by omega) (by decide)) (e1 47 2 (by omega) (by decide)) (e1 50 6 (by omega) (by decide)) eo
  exact k h1 ⟨c1, d1, rg.2⟩ cf g1 e1
theorem row2w {B M n : Nat} {h : AH} {Q : Option Value → AH → Prop} (w : CW B M h) (hm : n ∈ sizes1) (k : ∀ h1, CW B M h1 → CFr (fun _ => False) (fun _ => False) h h1 → n ≤ hL h1 (hR h1 31 2) → (∀ a j, a < hN h → ¬ (a = 31 ∧ j = 2) → hR h1 a j = hR h a j) → Q (some (.ref (hR h1 31 2))) h1) : WPM 20 [.ref 31, .int (nI n)] h Q := by
  have hn : n ≤ 65536 := by
    have : ∀ x ∈ sizes1, x ≤ 65536 := by decide
    exact this n hm
  obtain ⟨w1, w2, w3⟩ := w
  have w100 := w2.1
  refine row2 w1 w2 hn fun h1 c1 d1 g1 f1 e1 en es eo => ?_
  have en9 : sN h h1 31 2 := by
    rcases eo with ⟨-, x2, -⟩ | ⟨-, -, x3, -⟩
    · exact Or.inl x2
    · exact Or.inr (by omega)
  have cf : CFr (fun _ => False) (fun _ => False) h h1 := ⟨f1.mono (fun _ q => q.elim) (fun _ q => q.elim), Or.inl (e1 31 0 (by omega) (by decide)), Or.inl (e1 31 1 (by omega) (by decide)), en9, Or.inl (e1 31 3 (by omega) (by decide)), Or.inl (e1 47 2 (by omega) (by decide)), Or.inl (e1 50 6 (by omega) (by decide)), e1 2 2 (by omega) (by decide), e1 2 3 (by omega) (by decide), fun _ => Or.inr (e1 47 2 (by omega) (by decide)), fun _ => Or.inr (e1 50 6 (by omega) (by decide)), f1.le0 w2 (e1 31 0 (by omega) (by decide)), f1.le3 w2 (e1 31 3 (by omega) (by decide))⟩
  have rg := w3.grow2 w2 f1 (e1 31 0 (by omega) (by decide)) (e1 31 1 (by omega) (by decide)) (e1 31 3 (by omega) (by decide)) (e1 47 2 (by omega) (by decide)) (e1 50 6 (by omega) (by decide)) eo
  exact k h1 ⟨c1, d1, rg.1 hm⟩ cf g1 e1
theorem row2o {B M n : Nat} {h : AH} {Q : Option Value → AH → Prop} (w : CW B M h) (hn : n ≤ 65536) (k : ∀ h1, CW (B + if hL h (hR h 31 2) < n then n else 0) (M + if hL h (hR h 31 2) < n then 1 else 0) h1 → CFr (fun _ => False) (fun _ => False) h h1 → n ≤ hL h1 (hR h1 31 2) → (∀ a j, a < hN h → ¬ (a = 31 ∧ j = 2) → hR h1 a j = hR h a j) → Q (some (.ref (hR h1 31 2))) h1) : WPM 20 [.ref 31, .int (nI n)] h Q := by
  obtain ⟨w1, w2, w3⟩ := w
  have w100 := w2.1
  refine row2 w1 w2 hn fun h1 c1 d1 g1 f1 e1 en es eo => ?_
  have en9 : sN h h1 31 2 := by
    rcases eo with ⟨-, x2, -⟩ | ⟨-, -, x3, -⟩
    · exact Or.inl x2
    · exact Or.inr (by omega)
  have cf : CFr (fun _ => False) (fun _ => False) h h1 := ⟨f1.mono (fun _ q => q.elim) (fun _ q => q.elim), Or.inl (e1 31 0 (by omega) (by decide)), Or.inl (e1 31 1 (by omega) (by decide)), en9, Or.inl (e1 31 3 (by omega) (by decide)), Or.inl (e1 47 2 (by omega) (by decide)), Or.inl (e1 50 6 (by omega) (by decide)), e1 2 2 (by omega) (by decide), e1 2 3 (by omega) (by decide), fun _ => Or.inr (e1 47 2 (by omega) (by decide)), fun _ => Or.inr (e1 50 6 (by omega) (by decide)), f1.le0 w2 (e1 31 0 (by omega) (by decide)), f1.le3 w2 (e1 31 3 (by omega) (by decide))⟩
  have rg := w3.grow2 w2 f1 (e1 31 0 (by omega) (by decide)) (e1 31 1 (by omega) (by decide)) (e1 31 3 (by omega) (by decide)) (e1 47 2 (by omega) (by decide)) (e1 50 6 (by omega) (by decide)) eo
  exact k h1 ⟨c1, d1, rg.2⟩ cf g1 e1
theorem row3w {B M n : Nat} {h : AH} {Q : Option Value → AH → Prop} (w : CW B M h) (hm : n ∈ sizes1) (k : ∀ h1, CW B M h1 → CFr (fun _ => False) (fun _ => False) h h1 → n ≤ hL h1 (hR h1 31 3) → (∀ a j, a < hN h → ¬ (a = 31 ∧ j = 3) → hR h1 a j = hR h a j) → Q (some (.ref (hR h1 31 3))) h1) : WPM 21 [.ref 31, .int (nI n)] h Q := by
  have hn : n ≤ 65536 := by
    have : ∀ x ∈ sizes1, x ≤ 65536 := by decide
    exact this n hm
  obtain ⟨w1, w2, w3⟩ := w
  have w100 := w2.1
  refine row3 w1 w2 hn fun h1 c1 d1 g1 f1 e1 en es eo => ?_
  have en9 : sN h h1 31 3 := by
    rcases eo with ⟨-, x2, -⟩ | ⟨-, -, x3, -⟩
    · exact Or.inl x2
    · exact Or.inr (by omega)
  have mo9 : hL h (hR h 31 3) ≤ hL h1 (hR h1 31 3) := by
    rcases eo with ⟨-, x2, -⟩ | ⟨-, x2, -⟩
    · exact f1.le3 w2 x2
    · omega
  have cf : CFr (fun _ => False) (fun _ => False) h h1 := ⟨f1.mono (fun _ q => q.elim) (fun _ q => q.elim), Or.inl (e1 31 0 (by omega) (by decide)), Or.inl (e1 31 1 (by omega) (by decide)), Or.inl (e1 31 2 (by omega) (by decide)), en9, Or.inl (e1 47 2 (by omega) (by decide)), Or.inl (e1 50 6 (by omega) (by decide)), e1 2 2 (by omega) (by decide), e1 2 3 (by omega) (by decide), fun _ => Or.inr (e1 47 2 (by omega) (by decide)), fun _ => Or.inr (e1 50 6 (by omega) (by decide)), f1.le0 w2 (e1 31 0 (by omega) (by decide)), mo9⟩
  have rg := w3.grow3 w2 f1 (e1 31 0 (by omega) (by decide)) (e1 31 1 (by omega) (by decide)) (e1 31 2 (by omega) (by decide)) (e1 47 2 (by omega) (by decide)) (e1 50 6 (by omega) (by decide)) eo
  exact k h1 ⟨c1, d1, rg.1 hm⟩ cf g1 e1
theorem row3o {B M n : Nat} {h : AH} {Q : Option Value → AH → Prop} (w : CW B M h) (hn : n ≤ 65536) (k : ∀ h1, CW (B + if hL h (hR h 31 3) < n then n else 0) (M + if hL h (hR h 31 3) < n then 1 else 0) h1 → CFr (fun _ => False) (fun _ => False) h h1 → n ≤ hL h1 (hR h1 31 3) → (∀ a j, a < hN h → ¬ (a = 31 ∧ j = 3) → hR h1 a j = hR h a j) → Q (some (.ref (hR h1 31 3))) h1) : WPM 21 [.ref 31, .int (nI n)] h Q := by
  obtain ⟨w1, w2, w3⟩ := w
  have w100 := w2.1
  refine row3 w1 w2 hn fun h1 c1 d1 g1 f1 e1 en es eo => ?_
  have en9 : sN h h1 31 3 := by
    rcases eo with ⟨-, x2, -⟩ | ⟨-, -, x3, -⟩
    · exact Or.inl x2
    · exact Or.inr (by omega)
  have mo9 : hL h (hR h 31 3) ≤ hL h1 (hR h1 31 3) := by
    rcases eo with ⟨-, x2, -⟩ | ⟨-, x2, -⟩
    · exact f1.le3 w2 x2
    · omega
  have cf : CFr (fun _ => False) (fun _ => False) h h1 := ⟨f1.mono (fun _ q => q.elim) (fun _ q => q.elim), Or.inl (e1 31 0 (by omega) (by decide)), Or.inl (e1 31 1 (by omega) (by decide)), Or.inl (e1 31 2 (by omega) (by decide)), en9, Or.inl (e1 47 2 (by omega) (by decide)), Or.inl (e1 50 6 (by omega) (by decide)), e1 2 2 (by omega) (by decide), e1 2 3 (by omega) (by decide), fun _ => Or.inr (e1 47 2 (by omega) (by decide)), fun _ => Or.inr (e1 50 6 (by omega) (by decide)), f1.le0 w2 (e1 31 0 (by omega) (by decide)), mo9⟩
  have rg := w3.grow3 w2 f1 (e1 31 0 (by omega) (by decide)) (e1 31 1 (by omega) (by decide)) (e1 31 2 (by omega) (by decide)) (e1 47 2 (by omega) (by decide)) (e1 50 6 (by omega) (by decide)) eo
  exact k h1 ⟨c1, d1, rg.2⟩ cf g1 e1
/-- what stands of the levels -/
def RLv (h : AH) (N : Nat) (l : Nat → Nat) : Prop := hI h 47 5 = nI N ∧ N ≤ hL h (hR h 47 2) ∧ ∀ x, x < N → hI h (hR h 47 2) x = nI (l x) ∧ l x < 128
def rcI (h : AH) (x : Nat) : Prop := x = 47 ∨ x = hR h 47 2
theorem s60c {h : AH} {B M N b : Nat} {L : List Act} {l0 : Nat → Nat} {Q : Option Value → AH → Prop} (w : CW B M h) (hA : ActsHold h N L) (rl : RLv h N l0) (ha : ActsOK L) (hn9 : 0 < N ∧ N ≤ 16384) (hm : N ∈ sizes) (hb : b + 1 < 99) (hok : LvOK L N b l0)
    (k : ∀ h' l', CW B M h' → ActsHold h' N L → RLv h' N l' → LvOK L N (b + 1) l' → CFr (rcI h) (fun _ => False) h h' → hR h' 47 2 = hR h 47 2 → (∀ j, j ≠ 4 → hI h' 47 j = hI h 47 j) → Q none h') : WPM 60 [.ref 47, .int (nI (b + 1))] h Q := by
  obtain ⟨w1, w2, w3⟩ := w
  have w100 := w2.1
  refine s60 ⟨w1, w2, hA, rl.1, rl.2.1, rl.2.2⟩ ha hn9 hb hok fun h' l' x1 x2 x3 => ?_
  obtain ⟨y1, y2, y3, y4, y5⟩ := x3
  obtain ⟨z1, z2, z3, z4, z5, z6⟩ := x1
  have eo : (hN h' = hN h ∧ hR h' 31 0 = hR h 31 0 ∧ hS h' = hS h) ∨ (hN h' = hN h + 1 ∧ hL h (hR h 31 0) < N ∧ hR h' 31 0 = hN h ∧ hL h' (hN h) = N ∧ hS h' = hS h + N) := by
    rcases y5 with ⟨q1, q2, q3⟩ | ⟨q1, q2, q3, q4, q5⟩
    · exact Or.inl ⟨q2, q1, q3⟩
    · exact Or.inr ⟨q2, q1, q4, by rw [← q4]; exact q5, q3⟩
  have rg := (w3.grow0 w2 y1 (y2 31 1 (by omega) (by decide) (by decide)) (y2 31 2 (by omega) (by decide) (by decide)) (y2 31 3 (by omega) (by decide) (by decide)) (y2 47 2 (by omega) (by decide) (by decide)) (y2 50 6 (by omega) (by decide) (by decide)) eo).1 hm
  have mo9 : hL h (hR h 31 0) ≤ hL h' (hR h' 31 0) := by
    rcases eo with ⟨-, q, -⟩ | ⟨-, q, q2, q3, -⟩
    · exact y1.le0 w2 q
    · rw [q2, q3]
      exact Nat.le_of_lt q
  refine k h' l' ⟨z1, z2, rg⟩ z3 ⟨z4, z5, z6⟩ x2 ⟨y1.mono (fun a q => ?_) (fun _ q => q.elim), ?_, Or.inl (y2 31 1 (by omega) (by decide) (by decide)), Or.inl (y2 31 2 (by omega) (by decide) (by decide)), Or.inl (y2 31 3 (by omega) (by decide) (by decide)), Or.inl (y2 47 2 (by omega) (by decide) (by decide)), Or.inl (y2 50 6 (by omega) (by decide) (by decide)), y2 2 2 (by omega) (by decide) (by decide), y2 2 3 (by omega) (by decide) (by decide), fun _ => Or.inl (Or.inl rfl), fun _ => Or.inr (y2 50 6 (by omega) (by decide) (by decide)), mo9, y1.le3 w2 (y2 31 3 (by omega) (by decide) (by decide))⟩ (y2 47 2 (by omega) (by decide) (by decide)) y3
  · rcases q with q | q | q
    · exact Or.inl (Or.inl q)
    · exact Or.inl (Or.inr q)
    · exact Or.inr (Or.inl q)
  · rcases eo with ⟨-, q, -⟩ | ⟨-, -, q, -⟩
    · exact Or.inl q
    · exact Or.inr (by omega)
/-- the levels up to b are known -/
def RKn (h : AH) (N : Nat) (L : List Act) (b : Nat) : Prop := hI h 47 7 = nI b ∧ ∃ l, RLv h N l ∧ LvOK L N b l
theorem RLv.ofI {h h' : AH} {N : Nat} {l : Nat → Nat} (e5 : hI h' 47 5 = hI h 47 5) (eL : hL h' (hR h' 47 2) = hL h (hR h 47 2)) (eI : hI h' (hR h' 47 2) = hI h (hR h 47 2)) (r : RLv h N l) : RLv h' N l := by
  obtain ⟨r1, r2, r3⟩ := r
  exact ⟨by rw [e5]; exact r1, by rw [eL]; exact r2, by rw [eI]; exact r3⟩
theorem ActsHold.ofI {h h' : AH} {N : Nat} {L : List Act} (e : ∀ a, 36 ≤ a → a ≤ 41 → hI h' a = hI h a) (r : ActsHold h N L) : ActsHold h' N L := by
  obtain ⟨x1, x2, x3⟩ := r
  refine ⟨by rw [e 36 (by omega) (by omega)]; exact x1, fun j a hj => ?_, by rw [e 36 (by omega) (by omega)]; exact x3⟩
  have := x2 j a hj
  unfold actHeld at this ⊢
  rw [e 37 (by omega) (by omega), e 38 (by omega) (by omega), e 39 (by omega) (by omega), e 40 (by omega) (by omega), e 41 (by omega) (by omega)]
  exact this
theorem widenTo_l {h : AH} {B M N m : Nat} {L : List Act} {Q : Option Value → AH → Prop} (ha : ActsOK L) (hn9 : 0 < N ∧ N ≤ 16384) (hm : N ∈ sizes) (hm9 : m < 98) (b0 : Nat)
    (k : ∀ h', CW B M h' → ActsHold h' N L → RKn h' N L (max b0 m) → CFr (rcI h) (fun _ => False) h h' → hR h' 47 2 = hR h 47 2 → (∀ j, j ≠ 4 → j ≠ 7 → hI h' 47 j = hI h 47 j) → Q none h') :
    ∀ d b h1, m - b = d → b0 ≤ b → b ≤ max b0 m → CW B M h1 → ActsHold h1 N L → RKn h1 N L b → CFr (rcI h) (fun _ => False) h h1 → hR h1 47 2 = hR h 47 2 → (∀ j, j ≠ 4 → j ≠ 7 → hI h1 47 j = hI h 47 j) → b < 98 → WP 59 7 [.ref 47, .int (nI m), .int (nI (b + 1))] [] h1 Q := by
  intro d
  induction d with
  | zero =>
    intro b h1 hd hb0 hb1 w hA rk cf er ei hb9
    have hle : nI m < nI (b + 1) := nI_lt (by omega) (by omega)
    have hbm : b = max b0 m := by omega
    subst hbm
    rw [w59_7]
    simp only [w59, hle, true_implies, not_true_eq_false, false_implies, and_true]
    exact k h1 w hA rk cf er ei
  | succ d ih =>
    intro b h1 hd hb0 hb1 w hA rk cf er ei hb9
    have hle : ¬ nI m < nI (b + 1) := nI_nlt (by omega) (by omega)
    obtain ⟨rk1, l, rk2, rk3⟩ := rk
    have hT47 : hT h1 47 = 7 := by simp only [w.1]
    rw [w59_7]
    simp only [w59, hT47, hle, true_implies, not_false_eq_true, false_implies, true_and]
    refine s60c w hA rk2 ha hn9 hm (by omega) rk3 fun h2 l' w2 hA2 rk2' rk3' cf2 er2 ei2 => ?_
    have hT47' : hT h2 47 = 7 := by simp only [w2.1]
    simp only [w59, hT47', Option.toList_none, List.nil_append, nI_1]
    have o : OnlyI (fun a => a = 47) h2 (sI h2 47 7 (nI (b + 1))) := OnlyI.sI (A := fun a => a = 47) OnlyI.rf _ rfl
    have d2 := w2.2.1
    have hlv : hR h2 47 2 ≠ 47 := by
      have := d2.2.2.2.2.1.2.2.2.2.1
      omega
    refine ih (b + 1) _ (by omega) (by omega) (by omega) (w2.ofI o) (hA2.ofI fun a q1 q2 => o.2.2.2.2.2.2 a (by omega)) ⟨by rw [hI_sI, if_pos ⟨rfl, rfl⟩], l', RLv.ofI (h := h2) (by rw [hI_sI, if_neg (by decide)]) rfl (o.2.2.2.2.2.2 _ hlv) rk2', rk3'⟩ ?_ ?_ ?_ (by omega)
    · refine (cf.trans cf2 (fun a ha' q => ?_) (fun _ _ q => q)).trans' (CFr.ofI o fun a q => Or.inl q)
      unfold rcI at q ⊢
      omega
    · exact er2.trans er
    · intro j j4 j7
      rw [hI_sI, if_neg (fun q => j7 q.2)]
      exact (ei2 j j4).trans (ei j j4 j7)
theorem s59 {h : AH} {B M N b m : Nat} {L : List Act} {Q : Option Value → AH → Prop} (w : CW B M h) (hA : ActsHold h N L) (rk : RKn h N L b) (ha : ActsOK L) (hn9 : 0 < N ∧ N ≤ 16384) (hm : N ∈ sizes) (hm9 : m < 98) (hb9 : b < 98)
    (k : ∀ h', CW B M h' → ActsHold h' N L → RKn h' N L (max b m) → CFr (rcI h) (fun _ => False) h h' → hR h' 47 2 = hR h 47 2 → (∀ j, j ≠ 4 → j ≠ 7 → hI h' 47 j = hI h 47 j) → Q none h') : WPM 59 [.ref 47, .int (nI m)] h Q := by
  have hT47 : hT h 47 = 7 := by simp only [w.1]
  have hk := rk.1
  rw [we59]
  simp only [w59, hT47, hk, nI_1]
  exact widenTo_l ha hn9 hm hm9 b k _ b h rfl (by omega) (by omega) w hA rk CFr.rf rfl (fun _ _ _ => rfl) hb9


/-! ===== a row of the Desk, asked for ===== -/
theorem row0 {h : AH} {n : Nat} {Q : Option Value → AH → Prop} (hc : CS0 h) (hd : DY h) (hn : n ≤ 65536) (k : ∀ h1, CS0 h1 → DY h1 → n ≤ hL h1 (hR h1 31 0) → Fr (fun _ => False) (fun _ => False) h h1 → (∀ a j, a < hN h → ¬ (a = 31 ∧ j = 0) → hR h1 a j = hR h a j) → hN h1 ≤ hN h + 1 → hS h1 = hS h + (if hL h (hR h 31 0) < n then n else 0) → ((hN h1 = hN h ∧ hR h1 31 0 = hR h 31 0 ∧ hS h1 = hS h) ∨ (hN h1 = hN h + 1 ∧ hL h (hR h 31 0) < n ∧ hR h1 31 0 = hN h ∧ hL h1 (hN h) = n ∧ hS h1 = hS h + n)) → Q (some (.ref (hR h1 31 0))) h1) : WPM 18 [.ref 31, .int (nI n)] h Q := by
  have hd0 := hd
  obtain ⟨d1, ⟨t0, t1, t2, t3, t4, t5⟩, ⟨l0, l1, l2, l3, l4, l5⟩, ⟨b0, b1, b2, b3, b4, b5⟩, ⟨o0, o1, o2, o3, o4, o5⟩, ⟨n1, n2, n3, n4, n5, n6, n7, n8, n9, n10, n11, n12, n13, n14, n15⟩⟩ := hd
  have h31 : hT h 31 = 3 := by simp only [hc]
  rw [s18 h31 t0 (by omega) (by omega) d1]
  by_cases hlt : hL h (hR h 31 0) < n
  · rw [if_pos hlt]
    have f1 : Fr (fun _ => False) (fun _ => False) h (sR (nw h 100 n n) 31 0 (hN h)) := (Fr.nw 100 n n).trans (Fr.sR (by decide))
    have x1 : ¬ (31 = hN h) := by omega
    have x2 : ¬ (47 = hN h) := by omega
    have x3 : ¬ (50 = hN h) := by omega
    have eR : ∀ a j, a < hN h → ¬ (a = 31 ∧ j = 0) → hR (sR (nw h 100 n n) 31 0 (hN h)) a j = hR h a j := fun a j ha hj => by
      have hne : ¬ a = hN h := by omega
      rw [hR_sR, if_neg hj, hR_nw, if_neg hne]
    have e0 : hR (sR (nw h 100 n n) 31 0 (hN h)) 31 0 = hN h := by rw [hR_sR, if_pos ⟨rfl, rfl⟩]
    have eT : ∀ a, hT (sR (nw h 100 n n) 31 0 (hN h)) a = if a = hN h then 100 else hT h a := fun a => rfl
    have eL : ∀ a, hL (sR (nw h 100 n n) 31 0 (hN h)) a = if a = hN h then n else hL h a := fun a => rfl
    have eN : hN (sR (nw h 100 n n) 31 0 (hN h)) = hN h + 1 := rfl
    have eS : hS (sR (nw h 100 n n) 31 0 (hN h)) = hS h + n := rfl
    have y0 : ¬ hR h 31 0 = hN h := by omega
    have y1 : ¬ hR h 31 1 = hN h := by omega
    have y2 : ¬ hR h 31 2 = hN h := by omega
    have y3 : ¬ hR h 31 3 = hN h := by omega
    have y4 : ¬ hR h 47 2 = hN h := by omega
    have y5 : ¬ hR h 50 6 = hN h := by omega
    generalize sR (nw h 100 n n) 31 0 (hN h) = h1 at f1 eR e0 eT eL eN eS ⊢
    have r0 := e0
    have r1 := eR 31 1 (by omega) (by decide)
    have r2 := eR 31 2 (by omega) (by decide)
    have r3 := eR 31 3 (by omega) (by decide)
    have r4 := eR 47 2 (by omega) (by decide)
    have r5 := eR 50 6 (by omega) (by decide)
    rw [← e0]
    refine k h1 (f1.cs d1 hc) ?_ (by rw [e0, eL, if_pos rfl]; exact Nat.le_refl _) f1 eR (by omega) (by rw [eS, if_pos hlt]) (Or.inr ⟨eN, hlt, e0, by rw [eL, if_pos rfl], eS⟩)
    unfold DY
    rw [r0, r1, r2, r3, r4, r5, eN]
    simp only [eT, eL, y0, y1, y2, y3, y4, y5, if_true, if_false]
    refine ⟨by omega, ⟨trivial, t1, t2, t3, t4, t5⟩, ⟨by omega, by omega, by omega, by omega, by omega, by omega⟩, ⟨by omega, by omega, by omega, by omega, by omega, by omega⟩, ⟨by omega, by omega, by omega, by omega, by omega, by omega⟩, ⟨by omega, by omega, by omega, by omega, by omega, by omega, by omega, by omega, by omega, by omega, by omega, by omega, by omega, by omega, by omega⟩⟩
  · rw [if_neg hlt]
    exact k h hc hd0 (by omega) Fr.rf (fun _ _ _ _ => rfl) (by omega) (by rw [if_neg hlt, Nat.add_zero]) (Or.inl ⟨rfl, rfl, rfl⟩)
theorem row1 {h : AH} {n : Nat} {Q : Option Value → AH → Prop} (hc : CS0 h) (hd : DY h) (hn : n ≤ 65536) (k : ∀ h1, CS0 h1 → DY h1 → n ≤ hL h1 (hR h1 31 1) → Fr (fun _ => False) (fun _ => False) h h1 → (∀ a j, a < hN h → ¬ (a = 31 ∧ j = 1) → hR h1 a j = hR h a j) → hN h1 ≤ hN h + 1 → hS h1 = hS h + (if hL h (hR h 31 1) < n then n else 0) → ((hN h1 = hN h ∧ hR h1 31 1 = hR h 31 1 ∧ hS h1 = hS h) ∨ (hN h1 = hN h + 1 ∧ hL h (hR h 31 1) < n ∧ hR h1 31 1 = hN h ∧ hL h1 (hN h) = n ∧ hS h1 = hS h + n)) → Q (some (.ref (hR h1 31 1))) h1) : WPM 19 [.ref 31, .int (nI n)] h Q := by
  have hd0 := hd
  obtain ⟨d1, ⟨t0, t1, t2, t3, t4, t5⟩, ⟨l0, l1, l2, l3, l4, l5⟩, ⟨b0, b1, b2, b3, b4, b5⟩, ⟨o0, o1, o2, o3, o4, o5⟩, ⟨n1, n2, n3, n4, n5, n6, n7, n8, n9, n10, n11, n12, n13, n14, n15⟩⟩ := hd
  have h31 : hT h 31 = 3 := by simp only [hc]
  rw [s19 h31 t1 (by omega) (by omega) d1]
  by_cases hlt : hL h (hR h 31 1) < n
  · rw [if_pos hlt]
    have f1 : Fr (fun _ => False) (fun _ => False) h (sR (nw h 100 n n) 31 1 (hN h)) := (Fr.nw 100 n n).trans (Fr.sR (by decide))
    have x1 : ¬ (31 = hN h) := by omega
    have x2 : ¬ (47 = hN h) := by omega
    have x3 : ¬ (50 = hN h) := by omega
    have eR : ∀ a j, a < hN h → ¬ (a = 31 ∧ j = 1) → hR (sR (nw h 100 n n) 31 1 (hN h)) a j = hR h a j := fun a j ha hj => by
      have hne : ¬ a = hN h := by omega
      rw [hR_sR, if_neg hj, hR_nw, if_neg hne]
    have e0 : hR (sR (nw h 100 n n) 31 1 (hN h)) 31 1 = hN h := by rw [hR_sR, if_pos ⟨rfl, rfl⟩]
    have eT : ∀ a, hT (sR (nw h 100 n n) 31 1 (hN h)) a = if a = hN h then 100 else hT h a := fun a => rfl
    have eL : ∀ a, hL (sR (nw h 100 n n) 31 1 (hN h)) a = if a = hN h then n else hL h a := fun a => rfl
    have eN : hN (sR (nw h 100 n n) 31 1 (hN h)) = hN h + 1 := rfl
    have eS : hS (sR (nw h 100 n n) 31 1 (hN h)) = hS h + n := rfl
    have y0 : ¬ hR h 31 0 = hN h := by omega
    have y1 : ¬ hR h 31 1 = hN h := by omega
    have y2 : ¬ hR h 31 2 = hN h := by omega
    have y3 : ¬ hR h 31 3 = hN h := by omega
    have y4 : ¬ hR h 47 2 = hN h := by omega
    have y5 : ¬ hR h 50 6 = hN h := by omega
    generalize sR (nw h 100 n n) 31 1 (hN h) = h1 at f1 eR e0 eT eL eN eS ⊢
    have r0 := eR 31 0 (by omega) (by decide)
    have r1 := e0
    have r2 := eR 31 2 (by omega) (by decide)
    have r3 := eR 31 3 (by omega) (by decide)
    have r4 := eR 47 2 (by omega) (by decide)
    have r5 := eR 50 6 (by omega) (by decide)
    rw [← e0]
    refine k h1 (f1.cs d1 hc) ?_ (by rw [e0, eL, if_pos rfl]; exact Nat.le_refl _) f1 eR (by omega) (by rw [eS, if_pos hlt]) (Or.inr ⟨eN, hlt, e0, by rw [eL, if_pos rfl], eS⟩)
    unfold DY
    rw [r0, r1, r2, r3, r4, r5, eN]
    simp only [eT, eL, y0, y1, y2, y3, y4, y5, if_true, if_false]
    refine ⟨by omega, ⟨t0, trivial, t2, t3, t4, t5⟩, ⟨by omega, by omega, by omega, by omega, by omega, by omega⟩, ⟨by omega, by omega, by omega, by omega, by omega, by omega⟩, ⟨by omega, by omega, by omega, by omega, by omega, by omega⟩, ⟨by omega, by omega, by omega, by omega, by omega, by omega, by omega, by omega, by omega, by omega, by omega, by omega, by omega, by omega, by omega⟩⟩
  · rw [if_neg hlt]
    exact k h hc hd0 (by omega) Fr.rf (fun _ _ _ _ => rfl) (by omega) (by rw [if_neg hlt, Nat.add_zero]) (Or.inl ⟨rfl, rfl, rfl⟩)
theorem row2 {h : AH} {n : Nat} {Q : Option Value → AH → Prop} (hc : CS0 h) (hd : DY h) (hn : n ≤ 65536) (k : ∀ h1, CS0 h1 → DY h1 → n ≤ hL h1 (hR h1 31 2) → Fr (fun _ => False) (fun _ => False) h h1 → (∀ a j, a < hN h → ¬ (a = 31 ∧ j = 2) → hR h1 a j = hR h a j) → hN h1 ≤ hN h + 1 → hS h1 = hS h + (if hL h (hR h 31 2) < n then n else 0) → ((hN h1 = hN h ∧ hR h1 31 2 = hR h 31 2 ∧ hS h1 = hS h) ∨ (hN h1 = hN h + 1 ∧ hL h (hR h 31 2) < n ∧ hR h1 31 2 = hN h ∧ hL h1 (hN h) = n ∧ hS h1 = hS h + n)) → Q (some (.ref (hR h1 31 2))) h1) : WPM 20 [.ref 31, .int (nI n)] h Q := by
  have hd0 := hd
  obtain ⟨d1, ⟨t0, t1, t2, t3, t4, t5⟩, ⟨l0, l1, l2, l3, l4, l5⟩, ⟨b0, b1, b2, b3, b4, b5⟩, ⟨o0, o1, o2, o3, o4, o5⟩, ⟨n1, n2, n3, n4, n5, n6, n7, n8, n9, n10, n11, n12, n13, n14, n15⟩⟩ := hd
  have h31 : hT h 31 = 3 := by simp only [hc]
  rw [s20 h31 t2 (by omega) (by omega) d1]
  by_cases hlt : hL h (hR h 31 2) < n
  · rw [if_pos hlt]
    have f1 : Fr (fun _ => False) (fun _ => False) h (sR (nw h 100 n n) 31 2 (hN h)) := (Fr.nw 100 n n).trans (Fr.sR (by decide))
    have x1 : ¬ (31 = hN h) := by omega
    have x2 : ¬ (47 = hN h) := by omega
    have x3 : ¬ (50 = hN h) := by omega
    have eR : ∀ a j, a < hN h → ¬ (a = 31 ∧ j = 2) → hR (sR (nw h 100 n n) 31 2 (hN h)) a j = hR h a j := fun a j ha hj => by
      have hne : ¬ a = hN h := by omega
      rw [hR_sR, if_neg hj, hR_nw, if_neg hne]
    have e0 : hR (sR (nw h 100 n n) 31 2 (hN h)) 31 2 = hN h := by rw [hR_sR, if_pos ⟨rfl, rfl⟩]
    have eT : ∀ a, hT (sR (nw h 100 n n) 31 2 (hN h)) a = if a = hN h then 100 else hT h a := fun a => rfl
    have eL : ∀ a, hL (sR (nw h 100 n n) 31 2 (hN h)) a = if a = hN h then n else hL h a := fun a => rfl
    have eN : hN (sR (nw h 100 n n) 31 2 (hN h)) = hN h + 1 := rfl
    have eS : hS (sR (nw h 100 n n) 31 2 (hN h)) = hS h + n := rfl
    have y0 : ¬ hR h 31 0 = hN h := by omega
    have y1 : ¬ hR h 31 1 = hN h := by omega
    have y2 : ¬ hR h 31 2 = hN h := by omega
    have y3 : ¬ hR h 31 3 = hN h := by omega
    have y4 : ¬ hR h 47 2 = hN h := by omega
    have y5 : ¬ hR h 50 6 = hN h := by omega
    generalize sR (nw h 100 n n) 31 2 (hN h) = h1 at f1 eR e0 eT eL eN eS ⊢
    have r0 := eR 31 0 (by omega) (by decide)
    have r1 := eR 31 1 (by omega) (by decide)
    have r2 := e0
    have r3 := eR 31 3 (by omega) (by decide)
    have r4 := eR 47 2 (by omega) (by decide)
    have r5 := eR 50 6 (by omega) (by decide)
    rw [← e0]
    refine k h1 (f1.cs d1 hc) ?_ (by rw [e0, eL, if_pos rfl]; exact Nat.le_refl _) f1 eR (by omega) (by rw [eS, if_pos hlt]) (Or.inr ⟨eN, hlt, e0, by rw [eL, if_pos rfl], eS⟩)
    unfold DY
    rw [r0, r1, r2, r3, r4, r5, eN]
    simp only [eT, eL, y0, y1, y2, y3, y4, y5, if_true, if_false]
    refine ⟨by omega, ⟨t0, t1, trivial, t3, t4, t5⟩, ⟨by omega, by omega, by omega, by omega, by omega, by omega⟩, ⟨by omega, by omega, by omega, by omega, by omega, by omega⟩, ⟨by omega, by omega, by omega, by omega, by omega, by omega⟩, ⟨by omega, by omega, by omega, by omega, by omega, by omega, by omega, by omega, by omega, by omega, by omega, by omega, by omega, by omega, by omega⟩⟩
  · rw [if_neg hlt]
    exact k h hc hd0 (by omega) Fr.rf (fun _ _ _ _ => rfl) (by omega) (by rw [if_neg hlt, Nat.add_zero]) (Or.inl ⟨rfl, rfl, rfl⟩)
theorem row3 {h : AH} {n : Nat} {Q : Option Value → AH → Prop} (hc : CS0 h) (hd : DY h) (hn : n ≤ 65536) (k : ∀ h1, CS0 h1 → DY h1 → n ≤ hL h1 (hR h1 31 3) → Fr (fun _ => False) (fun _ => False) h h1 → (∀ a j, a < hN h → ¬ (a = 31 ∧ j = 3) → hR h1 a j = hR h a j) → hN h1 ≤ hN h + 1 → hS h1 = hS h + (if hL h (hR h 31 3) < n then n else 0) → ((hN h1 = hN h ∧ hR h1 31 3 = hR h 31 3 ∧ hS h1 = hS h) ∨ (hN h1 = hN h + 1 ∧ hL h (hR h 31 3) < n ∧ hR h1 31 3 = hN h ∧ hL h1 (hN h) = n ∧ hS h1 = hS h + n)) → Q (some (.ref (hR h1 31 3))) h1) : WPM 21 [.ref 31, .int (nI n)] h Q := by
  have hd0 := hd
  obtain ⟨d1, ⟨t0, t1, t2, t3, t4, t5⟩, ⟨l0, l1, l2, l3, l4, l5⟩, ⟨b0, b1, b2, b3, b4, b5⟩, ⟨o0, o1, o2, o3, o4, o5⟩, ⟨n1, n2, n3, n4, n5, n6, n7, n8, n9, n10, n11, n12, n13, n14, n15⟩⟩ := hd
  have h31 : hT h 31 = 3 := by simp only [hc]
  rw [s21 h31 t3 (by omega) (by omega) d1]
  by_cases hlt : hL h (hR h 31 3) < n
  · rw [if_pos hlt]
    have f1 : Fr (fun _ => False) (fun _ => False) h (sR (nw h 103 n n) 31 3 (hN h)) := (Fr.nw 103 n n).trans (Fr.sR (by decide))
    have x1 : ¬ (31 = hN h) := by omega
    have x2 : ¬ (47 = hN h) := by omega
    have x3 : ¬ (50 = hN h) := by omega
    have eR : ∀ a j, a < hN h → ¬ (a = 31 ∧ j = 3) → hR (sR (nw h 103 n n) 31 3 (hN h)) a j = hR h a j := fun a j ha hj => by
      have hne : ¬ a = hN h := by omega
      rw [hR_sR, if_neg hj, hR_nw, if_neg hne]
    have e0 : hR (sR (nw h 103 n n) 31 3 (hN h)) 31 3 = hN h := by rw [hR_sR, if_pos ⟨rfl, rfl⟩]
    have eT : ∀ a, hT (sR (nw h 103 n n) 31 3 (hN h)) a = if a = hN h then 103 else hT h a := fun a => rfl
    have eL : ∀ a, hL (sR (nw h 103 n n) 31 3 (hN h)) a = if a = hN h then n else hL h a := fun a => rfl
    have eN : hN (sR (nw h 103 n n) 31 3 (hN h)) = hN h + 1 := rfl
    have eS : hS (sR (nw h 103 n n) 31 3 (hN h)) = hS h + n := rfl
    have y0 : ¬ hR h 31 0 = hN h := by omega
    have y1 : ¬ hR h 31 1 = hN h := by omega
    have y2 : ¬ hR h 31 2 = hN h := by omega
    have y3 : ¬ hR h 31 3 = hN h := by omega
    have y4 : ¬ hR h 47 2 = hN h := by omega
    have y5 : ¬ hR h 50 6 = hN h := by omega
    generalize sR (nw h 103 n n) 31 3 (hN h) = h1 at f1 eR e0 eT eL eN eS ⊢
    have r0 := eR 31 0 (by omega) (by decide)
    have r1 := eR 31 1 (by omega) (by decide)
    have r2 := eR 31 2 (by omega) (by decide)
    have r3 := e0
    have r4 := eR 47 2 (by omega) (by decide)
    have r5 := eR 50 6 (by omega) (by decide)
    rw [← e0]
    refine k h1 (f1.cs d1 hc) ?_ (by rw [e0, eL, if_pos rfl]; exact Nat.le_refl _) f1 eR (by omega) (by rw [eS, if_pos hlt]) (Or.inr ⟨eN, hlt, e0, by rw [eL, if_pos rfl], eS⟩)
    unfold DY
    rw [r0, r1, r2, r3, r4, r5, eN]
    simp only [eT, eL, y0, y1, y2, y3, y4, y5, if_true, if_false]
    refine ⟨by omega, ⟨t0, t1, t2, trivial, t4, t5⟩, ⟨by omega, by omega, by omega, by omega, by omega, by omega⟩, ⟨by omega, by omega, by omega, by omega, by omega, by omega⟩, ⟨by omega, by omega, by omega, by omega, by omega, by omega⟩, ⟨by omega, by omega, by omega, by omega, by omega, by omega, by omega, by omega, by omega, by omega, by omega, by omega, by omega, by omega, by omega⟩⟩
  · rw [if_neg hlt]
    exact k h hc hd0 (by omega) Fr.rf (fun _ _ _ _ => rfl) (by omega) (by rw [if_neg hlt, Nat.add_zero]) (Or.inl ⟨rfl, rfl, rfl⟩)

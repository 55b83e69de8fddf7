/-! ===== Reach.open, turnTo ===== -/
def lv0 (x : Nat) : Nat := if x = 0 then 0 else 99
theorem LvOK.zero (L : List Act) {N : Nat} (hN0 : 0 < N) (hN : N ≤ 16384) : LvOK L N 0 lv0 := by
  intro x hx
  by_cases h0 : x = 0
  · subst h0
    refine ⟨fun c hc => ?_, Or.inl (Nat.le_refl _)⟩
    exact ⟨fun _ => Rch.z L N c, fun _ => Nat.zero_le _⟩
  · have e : lv0 x = 99 := if_neg h0
    refine ⟨fun c hc => ?_, Or.inr e⟩
    rw [e]
    refine ⟨fun q => by omega, fun q => ?_⟩
    have := (q.le hN0).2
    have := pc_pos h0 (by omega)
    omega
theorem level_grow {B M N : Nat} {h : AH} (w : CW B M h) (hlt : hL h (hR h 47 2) < N) (hm : N ∈ sizes1) :
    ∃ h1, h1 = sR (nw h 101 N N) 47 2 (hN h) ∧ CW B M h1 ∧ CFr (fun a => a = 47) (fun _ => False) h h1 ∧ hR h1 47 2 = hN h ∧ hL h1 (hN h) = N ∧ hT h1 (hN h) = 101 := by
  have hn : N ≤ 65536 := by
    have : ∀ x ∈ sizes1, x ≤ 65536 := by decide
    exact this N hm
  obtain ⟨hc, hd, hr⟩ := w
  have hd0 := hd
  obtain ⟨d1, ⟨t0, t1, t2, t3, t4, t5⟩, ⟨l0, l1, l2, l3, l4, l5⟩, ⟨b0, b1, b2, b3, b4, b5⟩, ⟨o0, o1, o2, o3, o4, o5⟩, ⟨n1, n2, n3, n4, n5, n6, n7, n8, n9, n10, n11, n12, n13, n14, n15⟩⟩ := hd
  have f1 : Fr (fun _ => False) (fun _ => False) h (sR (nw h 101 N N) 47 2 (hN h)) := (Fr.nw 101 N N).trans (Fr.sR (by decide))
  have x1 : ¬ (31 = hN h) := by omega
  have x2 : ¬ (47 = hN h) := by omega
  have x3 : ¬ (50 = hN h) := by omega
  have eR : ∀ a j, a < hN h → ¬ (a = 47 ∧ j = 2) → hR (sR (nw h 101 N N) 47 2 (hN h)) a j = hR h a j := fun a j ha hj => by
    have hne : ¬ a = hN h := by omega
    rw [hR_sR, if_neg hj, hR_nw, if_neg hne]
  have e0 : hR (sR (nw h 101 N N) 47 2 (hN h)) 47 2 = hN h := by rw [hR_sR, if_pos ⟨rfl, rfl⟩]
  have eT : ∀ a, hT (sR (nw h 101 N N) 47 2 (hN h)) a = if a = hN h then 101 else hT h a := fun a => rfl
  have eL : ∀ a, hL (sR (nw h 101 N N) 47 2 (hN h)) a = if a = hN h then N else hL h a := fun a => rfl
  have eN : hN (sR (nw h 101 N N) 47 2 (hN h)) = hN h + 1 := rfl
  have eS : hS (sR (nw h 101 N N) 47 2 (hN h)) = hS h + N := rfl
  have y0 : ¬ hR h 31 0 = hN h := by omega
  have y1 : ¬ hR h 31 1 = hN h := by omega
  have y2 : ¬ hR h 31 2 = hN h := by omega
  have y3 : ¬ hR h 31 3 = hN h := by omega
  have y5 : ¬ hR h 50 6 = hN h := by omega
  refine ⟨_, rfl, ?_⟩
  generalize sR (nw h 101 N N) 47 2 (hN h) = h1 at f1 eR e0 eT eL eN eS ⊢
  have r0 := eR 31 0 (by omega) (by decide)
  have r1 := eR 31 1 (by omega) (by decide)
  have r2 := eR 31 2 (by omega) (by decide)
  have r3 := eR 31 3 (by omega) (by decide)
  have r5 := eR 50 6 (by omega) (by decide)
  have rg := (hr.grow4 hd0 f1 r0 r1 r2 r3 r5 (Or.inr ⟨eN, hlt, e0, by rw [eL, if_pos rfl], eS⟩)).1 hm
  refine ⟨⟨f1.cs d1 hc, ?_, rg⟩, ⟨f1.mono (fun _ q => q.elim) (fun _ q => q.elim), Or.inl r0, Or.inl r1, Or.inl r2, Or.inl r3, Or.inr (by omega), Or.inl r5, eR 2 2 (by omega) (by decide), eR 2 3 (by omega) (by decide), fun _ => Or.inl rfl, fun _ => Or.inr r5, f1.le0 hd0 r0, f1.le3 hd0 r3⟩, e0, by rw [eL, if_pos rfl], by rw [eT, if_pos rfl]⟩
  unfold DY
  rw [e0, r0, r1, r2, r3, r5, eN]
  simp only [eT, eL, y0, y1, y2, y3, y5, if_true, if_false]
  refine ⟨by omega, ⟨t0, t1, t2, t3, trivial, t5⟩, ⟨by omega, by omega, by omega, by omega, by omega, by omega⟩, ⟨by omega, by omega, by omega, by omega, by omega, by omega⟩, ⟨by omega, by omega, by omega, by omega, by omega, by omega⟩, ⟨by omega, by omega, by omega, by omega, by omega, by omega, by omega, by omega, by omega, by omega, by omega, by omega, by omega, by omega, by omega⟩⟩
theorem i8_0 : (0 : Int32).toInt8.toInt32 = 0 := by decide
theorem i8_99 : (99 : Int32).toInt8.toInt32 = nI 99 := by decide
theorem cl_0 : (0 : Int32).toNatClampNeg = 0 := by decide
/-- the loop that forgets -/
theorem open_l {h : AH} {kn lv N : Nat} {Q : Option Value → AH → Prop} (h47 : hT h 47 = 7) (hlv : lv ≠ 47) (hr : hR h 47 2 = lv) (ht : hT h lv = 101) (hl : N ≤ hL h lv ∧ hL h lv < 2 ^ 31) (hN0 : 0 < N ∧ N ≤ 16384) (h5 : hI h 47 5 = nI N)
    (k : ∀ h', OnlyI (fun a => a = 47 ∨ a = lv) h h' → (∀ j, j ≠ 7 → hI h' 47 j = hI h 47 j) → hI h' 47 7 = 0 → (∀ x, x < N → hI h' lv x = nI (lv0 x)) → Q none h') :
    ∀ d x h1, N - x = d → 0 < x → x ≤ N → OnlyI (fun a => a = lv) h h1 → (∀ y, 0 < y → y < x → hI h1 lv y = nI 99) → WP 57 32 [.ref 47, .ref kn, .int (nI x)] [] h1 Q := by
  intro d
  induction d with
  | zero =>
    intro x h1 hd hx hxN o hy
    obtain ⟨e1, e2, e3, e4, e5, e6, e7⟩ := id o
    have a1 : hT h1 47 = 7 := by rw [e1]; exact h47
    have a2 : hI h1 47 5 = nI N := by rw [e7 47 (Ne.symm hlv)]; exact h5
    have a3 : hR h1 47 2 = lv := by rw [e4]; exact hr
    have a4 : hT h1 lv = 101 := by rw [e1]; exact ht
    have a5 : inb 0 (hL h1 lv) = true := by rw [e2]; exact inb_nI (k := 0) (by omega) hl.2
    have hle : nI N ≤ nI x := nI_le (by omega) (by omega)
    have hx9 : x = N := by omega
    rw [w57_32]
    simp only [w57, a1, a2, a3, a4, a5, hle, i8_0, cl_0, hs_sI, true_implies, not_true_eq_false, false_implies, and_true]
    have o1 : OnlyI (fun a => a = 47 ∨ a = lv) h (sI h1 lv 0 0) := (OnlyI.mono o (fun a q => Or.inr q)).sI 0 (Or.inr rfl)
    refine k _ (o1.sI 0 (Or.inl rfl)) (fun j hj => ?_) (by rw [hI_sI, if_pos ⟨rfl, rfl⟩]) fun y hy9 => ?_
    · rw [hI_sI, if_neg (fun q => hj q.2), hI_sI, if_neg (fun q => hlv q.1.symm), e7 47 (Ne.symm hlv)]
    · rw [hI_sI, if_neg (fun q => hlv q.1), hI_sI]
      by_cases q : y = 0
      · subst q
        rw [if_pos ⟨rfl, rfl⟩]
        rfl
      · rw [if_neg (fun w => q w.2), hy y (by omega) (by omega)]
        show _ = nI (if y = 0 then 0 else 99)
        rw [if_neg q]
  | succ d ih =>
    intro x h1 hd hx hxN o hy
    obtain ⟨e1, e2, e3, e4, e5, e6, e7⟩ := id o
    have a1 : hT h1 47 = 7 := by rw [e1]; exact h47
    have a2 : hI h1 47 5 = nI N := by rw [e7 47 (Ne.symm hlv)]; exact h5
    have a3 : hR h1 47 2 = lv := by rw [e4]; exact hr
    have a4 : hT h1 lv = 101 := by rw [e1]; exact ht
    have hle : ¬ nI N ≤ nI x := nI_ge (by omega) (by omega)
    have hcl : (nI x).toNatClampNeg = x := nI_clamp (by omega)
    have hib : inb (nI x) (hL h1 lv) = true := by rw [e2]; exact inb_nI (by omega) hl.2
    rw [w57_32]
    simp only [w57, a1, a2, a3, a4, hle, hcl, hib, i8_99, true_implies, not_false_eq_true, false_implies, true_and, nI_1]
    refine ih (x + 1) _ (by omega) (by omega) (by omega) (o.sI _ rfl) fun y y0 y1 => ?_
    rw [hI_sI]
    by_cases q : y = x
    · rw [if_pos ⟨rfl, q⟩]
    · rw [if_neg (fun w => q w.2)]
      exact hy y y0 (by omega)
theorem s57 {h : AH} {B M kn n : Nat} {P : Nat → Nat} {Q : Option Value → AH → Prop} (w : CW B M h) (hp : NetP h kn n P)
    (k : ∀ h', CW B M h' → CFr (rcI h) (fun _ => False) h h' → (∀ j, j ≠ 5 → j ≠ 7 → hI h' 47 j = hI h 47 j) → (∀ L, RKn h' (2 ^ n) L 0) → Q none h') : WPM 57 [.ref 47, .ref kn] h Q := by
  have hn14 := hp.2.2.1
  have hm : 2 ^ n ∈ sizes1 := pow_sizes1 (by omega)
  have hN0 : 0 < 2 ^ n := Nat.pow_pos (by decide)
  have hN9 : 2 ^ n ≤ 16384 := Nat.pow_le_pow_right (n := 2) (by decide) hn14
  have hpw : (1 : Int32) <<< (nI n &&& 31) = nI (2 ^ n) := nI_pow n (by omega)
  obtain ⟨N, eN⟩ : ∃ N, N = 2 ^ n := ⟨_, rfl⟩
  rw [← eN] at hm hN0 hN9 hpw k
  have h47 : hT h 47 = 7 := by simp only [w.1]
  have hkt : hT h kn = 4 := hp.1.1
  have hk0 := hp.2.1
  have o0 : OnlyI (fun a => a = 47) h (sI h 47 5 (nI N)) := OnlyI.sI (A := fun a => a = 47) OnlyI.rf _ rfl
  have w1 : CW B M (sI h 47 5 (nI N)) := w.ofI o0
  have cf1 : CFr (rcI h) (fun _ => False) h (sI h 47 5 (nI N)) := CFr.ofI o0 (fun a q => Or.inl q)
  have h5 : hI (sI h 47 5 (nI N)) 47 5 = nI N := by rw [hI_sI, if_pos ⟨rfl, rfl⟩]
  have hj : ∀ j, j ≠ 5 → hI (sI h 47 5 (nI N)) 47 j = hI h 47 j := fun j q => by rw [hI_sI, if_neg (fun z => q z.2)]
  have h47' : hT (sI h 47 5 (nI N)) 47 = 7 := by simp only [w1.1]
  have d1 := w1.2.1
  have hw : w.2.1 = w.2.1 := rfl
  have hlT : hT (sI h 47 5 (nI N)) (hR (sI h 47 5 (nI N)) 47 2) = 101 := d1.2.1.2.2.2.2.1
  have hlL := d1.2.2.1.2.2.2.2.1
  have hlB := d1.2.2.2.1.2.2.2.2.1
  have hlO := d1.2.2.2.2.1.2.2.2.2.1
  have h100 := d1.1
  rw [we57]
  simp only [w57, s25 hp.1, h47, hkt, hk0, hpw, Option.toList_some, List.cons_append, List.nil_append]
  have er9 : hR (sI h 47 5 (nI N)) 47 2 = hR h 47 2 := rfl
  generalize sI h 47 5 (nI N) = h1 at *
  have fin : ∀ h2, CW B M h2 → CFr (rcI h) (fun _ => False) h h2 → hI h2 47 5 = nI N → (∀ j, j ≠ 5 → hI h2 47 j = hI h 47 j) → N ≤ hL h2 (hR h2 47 2) → (hR h2 47 2 = hR h 47 2 ∨ hN h ≤ hR h2 47 2) → WP 57 32 [.ref 47, .ref kn, .int (nI 1)] [] h2 Q := fun h2 w2 cf2 g5 gj gl gr => by
    have d2 := w2.2.1
    refine open_l (lv := hR h2 47 2) (N := N) (h := h2) (by simp only [w2.1]) (by have := d2.2.2.2.2.1.2.2.2.2.1; omega) rfl d2.2.1.2.2.2.2.1 ⟨gl, by have := d2.2.2.1.2.2.2.2.1; omega⟩ ⟨hN0, hN9⟩ g5 (fun h' o j7 e7 ev => ?_) (N - 1) 1 h2 rfl (by omega) (by omega) OnlyI.rf (fun y y0 y1 => by omega)
    refine k h' (w2.ofI o) ?_ (fun j q5 q7 => (j7 j q7).trans (gj j q5)) fun L => ⟨by rw [e7]; rfl, lv0, ⟨by rw [j7 5 (by decide)]; exact g5, by rw [o.2.1, o.2.2.2.1]; exact gl, fun x hx => by rw [o.2.2.2.1]; exact ⟨ev x hx, by unfold lv0; split <;> omega⟩⟩, LvOK.zero L hN0 hN9⟩
    refine cf2.trans (A1 := fun a => a = 47 ∨ a = hR h2 47 2) (J1 := fun _ => False) (CFr.ofI o fun a q => q) (fun a ha q => ?_) (fun _ _ q => q)
    unfold rcI
    omega
  by_cases hlt : hL h1 (hR h1 47 2) < N
  · have hle : ¬ nI N ≤ nI (hL h1 (hR h1 47 2)) := nI_ge hlt (by omega)
    have hcl : (nI N).toNatClampNeg = N := nI_clamp (by omega)
    have hz : (0 : Int32) ≤ nI N := nI_le (a := 0) (Nat.zero_le _) (by omega)
    have hN6 : N ≤ 1048576 := by omega
    obtain ⟨h2, e2, w2, cf2, r2, l2, t2⟩ := level_grow w1 hlt hm
    have h47n : hT (nw h1 101 N N) 47 = 7 := by
      have hne : ¬ 47 = hN h1 := by omega
      rw [hT_nw, if_neg hne]; exact h47'
    simp only [w57, h47', h5, hlT, hle, hcl, hz, hN6, h47n, true_or, or_true, true_implies, not_false_eq_true, false_implies, true_and]
    rw [← e2]
    have f47 : hI h2 47 = hI h1 47 := by
      have hne : ¬ 47 = hN h1 := by omega
      rw [e2]
      show hI (nw h1 101 N N) 47 = _
      rw [hI_nw, if_neg hne]
    exact fin h2 w2 (cf1.trans cf2 (fun _ _ q => Or.inl q) (fun _ _ q => q)) (by rw [f47]; exact h5) (fun j q => by rw [f47]; exact hj j q) (by rw [r2, l2]; exact Nat.le_refl _) (Or.inr (by rw [r2]; exact cf1.1.1))
  · have hle : nI N ≤ nI (hL h1 (hR h1 47 2)) := nI_le (by omega) (by omega)
    simp only [w57, h47', h5, hlT, hle, true_or, or_true, true_implies, not_true_eq_false, false_implies, and_true]
    exact fin h1 w1 cf1 h5 hj (by omega) (Or.inl er9)

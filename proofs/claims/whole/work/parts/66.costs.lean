/-! ===== Cheapest.open, search ===== -/
theorem CHp_id {h : AH} {q l p : Nat} : CHp h q l p (hI h q) (hI h l) (hI h p) (hI h 56) (hI h 55 3) = h := by
  refine ah_ext rfl rfl ?_ rfl rfl rfl rfl
  funext a
  rw [CHp_I]
  by_cases e1 : a = q
  · rw [if_pos e1, e1]
  · rw [if_neg e1]
    by_cases e2 : a = l
    · rw [if_pos e2, e2]
    · rw [if_neg e2]
      by_cases e3 : a = p
      · rw [if_pos e3, e3]
      · rw [if_neg e3]
        by_cases e4 : a = 56
        · rw [if_pos e4, e4]
        · rw [if_neg e4]
          by_cases e5 : a = 55
          · rw [if_pos e5, e5]
            funext j
            rw [up_at]
            split
            · next w => rw [w]
            · rfl
          · rw [if_neg e5]
section Costs
variable {h : AH} {B M q l p N b kn n w wi : Nat} {L : List Act} {P C : Nat → Nat} {on : Option Nat} {Q : Option Value → AH → Prop}
theorem copen_2 (x : CX h q l p N L) {su bh ah : Nat → Int32} {ln : Int32} (k : ∀ hd, (∀ i, i < 100 → hd i = -1) → Q none (CHp h q l p su bh ah hd 0)) :
    ∀ d y hd, 100 - y = d → y ≤ 100 → (∀ i, i < y → hd i = -1) → WP 11 58 [.ref 55, .int (nI N), .int (nI y)] [] (CHp h q l p su bh ah hd ln) Q := by
  obtain ⟨⟨a1, a2, a3, a4, a5, a6, a7, a8, a9, a10, a11, a12⟩, ⟨l1, l2, l3, l4, l5, l6⟩, n9, -⟩ := id x
  have hr := CHp_r (h := h) n9
  intro d
  induction d with
  | zero =>
    intro y hd hd' hy hno
    have hle : (100 : Int32) ≤ nI y := nI_le (a := 100) (by omega) (by omega)
    rw [w11_58]
    simp only [w11_a, w11_b, hle, hr, a1, true_implies, not_true_eq_false, false_implies, and_true]
    exact k hd fun i hi => hno i (by omega)
  | succ d ih =>
    intro y hd hd' hy hno
    have hle : ¬ (100 : Int32) ≤ nI y := nI_ge (b := 100) (by omega) (by omega)
    have c1 : (nI y).toNatClampNeg = y := nI_clamp (by omega)
    have i1 : inb (nI y) 100 = true := inb_nI (by omega) (by decide)
    rw [w11_58]
    simp only [w11_a, w11_b, hle, hr, a1, a3, a4, a6, c1, i1, true_implies, not_false_eq_true, false_implies, true_and, nI_1]
    refine ih (y + 1) _ (by omega) (by omega) fun i hi => ?_
    rw [up_at]
    split
    · rfl
    · exact hno i (by omega)
theorem copen_1 (x : CX h q l p N L) (hN9 : N ≤ 65536) {bh ah hd : Nat → Int32} {ln : Int32} (k : ∀ su hd, (∀ s, s < N → su s = -1) → (∀ i, i < 100 → hd i = -1) → Q none (CHp h q l p su bh ah hd 0)) :
    ∀ d y su, N - y = d → y ≤ N → (∀ i, i < y → su i = -1) → WP 11 38 [.ref 55, .int (nI N), .int (nI y)] [] (CHp h q l p su bh ah hd ln) Q := by
  obtain ⟨⟨a1, a2, a3, a4, a5, a6, a7, a8, a9, a10, a11, a12⟩, ⟨l1, l2, l3, l4, l5, l6⟩, n9, -⟩ := id x
  have hr := CHp_r (h := h) n9
  intro d
  induction d with
  | zero =>
    intro y su hd' hy hno
    have hle : nI N ≤ nI y := nI_le (by omega) (by omega)
    rw [w11_38]
    simp only [w11_a, w11_b, hle, true_implies, not_true_eq_false, false_implies, and_true]
    exact copen_2 x (fun hd g => k su hd (fun s hs => hno s (by omega)) g) 100 0 hd rfl (by omega) (fun i hi => absurd hi (Nat.not_lt_zero _))
  | succ d ih =>
    intro y su hd' hy hno
    have hle : ¬ nI N ≤ nI y := nI_ge (by omega) (by omega)
    have c1 : (nI y).toNatClampNeg = y := nI_clamp (by omega)
    have i1 : inb (nI y) (hL h q) = true := inb_nI (by omega) (by omega)
    rw [w11_38]
    simp only [w11_a, w11_b, hle, hr, a1, a7, a10, c1, i1, true_implies, not_false_eq_true, false_implies, true_and, nI_1]
    refine ih (y + 1) _ (by omega) (by omega) fun i hi => ?_
    rw [up_at]
    split
    · rfl
    · exact hno i (by omega)
theorem s11 (cw : CW B M h) (hm1 : N ∈ sizes1) (hA : ActsHold h N L)
    (k : ∀ h1 su bh ah hd, CW B M h1 → CFr (fun _ => False) (fun _ => False) h h1 → CX h1 (hR h1 31 0) (hR h1 31 1) (hR h1 31 2) N L → (∀ s, s < N → su s = -1) → (∀ i, i < 100 → hd i = -1) → Q none (CHp h1 (hR h1 31 0) (hR h1 31 1) (hR h1 31 2) su bh ah hd 0)) : WPM 11 [.ref 55, .int (nI N)] h Q := by
  have hm : N ∈ sizes := s1_s hm1
  have hN9 : N ≤ 65536 := by
    have : ∀ x ∈ sizes, x ≤ 65536 := by decide
    exact this N hm
  have a1 : hT h 55 = 2 := by simp only [cw.1]
  have a2 : hR h 55 0 = 31 := by simp only [cw.1]
  have a3 : hT h 31 = 3 := by simp only [cw.1]
  have d := cw.2.1
  rw [we11]
  simp only [w11_a, a1, a2, a3]
  refine row0w cw hm fun h1 cw1 cf1 le1 eo1 => ?_
  have b1 : hT h1 55 = 2 := by simp only [cw1.1]
  have cw1' : CW B M (sR h1 55 4 (hR h1 31 0)) := cw1.setR (by decide)
  have b2 : hT (sR h1 55 4 (hR h1 31 0)) 55 = 2 := by simp only [cw1'.1]
  have b3 : hR (sR h1 55 4 (hR h1 31 0)) 55 0 = 31 := by simp only [cw1'.1]
  have b4 : hT (sR h1 55 4 (hR h1 31 0)) 31 = 3 := by simp only [cw1'.1]
  have cf1' : CFr (fun _ => False) (fun _ => False) h (sR h1 55 4 (hR h1 31 0)) := cf1.trans' (CFr.setR (by decide))
  have g1 : hR (sR h1 55 4 (hR h1 31 0)) 55 4 = hR (sR h1 55 4 (hR h1 31 0)) 31 0 := by rw [hR_sR, hR_sR, if_pos ⟨rfl, rfl⟩, if_neg (by decide)]
  have g3 : N ≤ hL (sR h1 55 4 (hR h1 31 0)) (hR (sR h1 55 4 (hR h1 31 0)) 31 0) := by rw [hR_sR, if_neg (by decide)]; exact le1
  simp only [w11_a, b1, b2, b3, b4, Option.toList_some, List.cons_append, List.nil_append]
  generalize sR h1 55 4 (hR h1 31 0) = h2' at *
  have d2 := cw1'.2.1
  refine row1w cw1' hm1 fun h3 cw3 cf3 le3 eo3 => ?_
  have b5 : hT h3 55 = 2 := by simp only [cw3.1]
  have cw3' : CW B M (sR h3 55 5 (hR h3 31 1)) := cw3.setR (by decide)
  have b6 : hT (sR h3 55 5 (hR h3 31 1)) 55 = 2 := by simp only [cw3'.1]
  have b7 : hR (sR h3 55 5 (hR h3 31 1)) 55 0 = 31 := by simp only [cw3'.1]
  have b8 : hT (sR h3 55 5 (hR h3 31 1)) 31 = 3 := by simp only [cw3'.1]
  have cf3' : CFr (fun _ => False) (fun _ => False) h (sR h3 55 5 (hR h3 31 1)) := (cf1'.trans' cf3).trans' (CFr.setR (by decide))
  have u1 : hR h3 31 0 = hR h2' 31 0 := eo3 31 0 (by have := d2.1; omega) (by decide)
  have g4 : hR (sR h3 55 5 (hR h3 31 1)) 55 4 = hR (sR h3 55 5 (hR h3 31 1)) 31 0 := by
    rw [hR_sR, hR_sR, if_neg (by decide), if_neg (by decide), eo3 55 4 (by have := d2.1; omega) (by decide), u1]
    exact g1
  have g5 : hR (sR h3 55 5 (hR h3 31 1)) 55 5 = hR (sR h3 55 5 (hR h3 31 1)) 31 1 := by rw [hR_sR, hR_sR, if_pos ⟨rfl, rfl⟩, if_neg (by decide)]
  have g7 : N ≤ hL (sR h3 55 5 (hR h3 31 1)) (hR (sR h3 55 5 (hR h3 31 1)) 31 0) := by
    rw [hR_sR, if_neg (by decide), u1]
    show N ≤ hL h3 (hR h2' 31 0)
    rw [(cf3.1.2.2.1 (hR h2' 31 0) cw1'.bl.1).2.1]
    exact g3
  have g8 : N ≤ hL (sR h3 55 5 (hR h3 31 1)) (hR (sR h3 55 5 (hR h3 31 1)) 31 1) := by rw [hR_sR, if_neg (by decide)]; exact le3
  simp only [w11_a, b5, b6, b7, b8, Option.toList_some, List.cons_append, List.nil_append]
  generalize sR h3 55 5 (hR h3 31 1) = h4 at *
  have d4 := cw3'.2.1
  refine row2w cw3' hm1 fun h5 cw5 cf5 le5 eo5 => ?_
  have b9 : hT h5 55 = 2 := by simp only [cw5.1]
  have cw5' : CW B M (sR h5 55 6 (hR h5 31 2)) := cw5.setR (by decide)
  have b10 : hT (sR h5 55 6 (hR h5 31 2)) 55 = 2 := by simp only [cw5'.1]
  have cf5' : CFr (fun _ => False) (fun _ => False) h (sR h5 55 6 (hR h5 31 2)) := (cf3'.trans' cf5).trans' (CFr.setR (by decide))
  have v0 : hR h5 31 0 = hR h4 31 0 := eo5 31 0 (by have := d4.1; omega) (by decide)
  have v1 : hR h5 31 1 = hR h4 31 1 := eo5 31 1 (by have := d4.1; omega) (by decide)
  have q1 : hR (sR h5 55 6 (hR h5 31 2)) 55 4 = hR (sR h5 55 6 (hR h5 31 2)) 31 0 := by
    rw [hR_sR, hR_sR, if_neg (by decide), if_neg (by decide), eo5 55 4 (by have := d4.1; omega) (by decide), v0]
    exact g4
  have q2 : hR (sR h5 55 6 (hR h5 31 2)) 55 5 = hR (sR h5 55 6 (hR h5 31 2)) 31 1 := by
    rw [hR_sR, hR_sR, if_neg (by decide), if_neg (by decide), eo5 55 5 (by have := d4.1; omega) (by decide), v1]
    exact g5
  have q3 : hR (sR h5 55 6 (hR h5 31 2)) 55 6 = hR (sR h5 55 6 (hR h5 31 2)) 31 2 := by rw [hR_sR, hR_sR, if_pos ⟨rfl, rfl⟩, if_neg (by decide)]
  have q7 : N ≤ hL (sR h5 55 6 (hR h5 31 2)) (hR (sR h5 55 6 (hR h5 31 2)) 31 0) := by
    rw [hR_sR, if_neg (by decide), v0]
    show N ≤ hL h5 (hR h4 31 0)
    rw [(cf5.1.2.2.1 (hR h4 31 0) cw3'.bl.1).2.1]
    exact g7
  have q8 : N ≤ hL (sR h5 55 6 (hR h5 31 2)) (hR (sR h5 55 6 (hR h5 31 2)) 31 1) := by
    rw [hR_sR, if_neg (by decide), v1]
    show N ≤ hL h5 (hR h4 31 1)
    rw [(cf5.1.2.2.1 (hR h4 31 1) cw3'.bl.2.1).2.1]
    exact g8
  have q9 : N ≤ hL (sR h5 55 6 (hR h5 31 2)) (hR (sR h5 55 6 (hR h5 31 2)) 31 2) := by rw [hR_sR, if_neg (by decide)]; exact le5
  simp only [w11_a, b9, Option.toList_some, List.cons_append, List.nil_append]
  generalize sR h5 55 6 (hR h5 31 2) = h6 at *
  have f55 := cw5'.far (a := 55) (by decide)
  have f56 := cw5'.far (a := 56) (by decide)
  have x : CX h6 (hR h6 31 0) (hR h6 31 1) (hR h6 31 2) N L := by
    refine ⟨⟨b10, by simp only [cw5'.1], by simp only [cw5'.1], by simp only [cw5'.1], by simp only [cw5'.1], by simp only [cw5'.1], q1, q2, q3, cw5'.tg.1, cw5'.tg.2.1, cw5'.tg.2.2.1⟩, ⟨q7, cw5'.ln.1, q8, cw5'.ln.2.1, q9, cw5'.ln.2.2.1⟩, ⟨cw5'.ap.1, cw5'.ap.2.1, cw5'.ap.2.2.2.2.2.1, Ne.symm f56.1, Ne.symm f56.2.1, Ne.symm f56.2.2.1, Ne.symm f55.1, Ne.symm f55.2.1, Ne.symm f55.2.2.1⟩, ⟨cw5'.nact.1, cw5'.nact.2.1, cw5'.nact.2.2.1⟩, cw5'.1.acts, hA.ofI fun a z1 z2 => by clear f55 f56; exact cf5'.keep cw (by omega) (by omega) id⟩
  rw [← CHp_id (h := h6) (q := hR h6 31 0) (l := hR h6 31 1) (p := hR h6 31 2)]
  exact copen_1 x hN9 (fun su hd g1 g2 => k h6 su _ _ hd cw5' cf5' x g1 g2) N 0 _ rfl (Nat.zero_le _) (fun i hi => absurd hi (Nat.not_lt_zero _))
def chA (a : Nat) : Prop := actA a ∨ a = 55 ∨ a = 56
theorem cost_l (cw : CW B M h) (x : CX h (hR h 31 0) (hR h 31 1) (hR h 31 2) N L) (ha : ActsOK L) (hN9 : 0 < N ∧ N ≤ 16384) (hb9 : b < 65536) (hp : NetP h kn n P) (hC : ∀ x, x < n → hI h (kn + 2) x = nI (C x)) (hLm : ∀ a ∈ L, a.2.1 ≤ n ∧ prA C on a ≤ 99) (hon : ∀ k, on = some k → k < 100) (hkn : kn + 10 < 36) (hkq : ∀ a, kn ≤ a → a ≤ kn + 10 → a ≠ hR h 31 0 ∧ a ≠ hR h 31 1 ∧ a ≠ hR h 31 2) (hw : w < 8) (hwi : wi < 65536) (h2 : hI h kn 2 = nI wi)
    (k : ∀ h' r, LC L N b (prA C on) (isEndB w wi) r → CW B M h' → CFr chA (fun _ => False) h h' → Q (some (.int r)) h') :
    ∀ d i V (tk : List Nat) cur su bh ah hd y7, N - i = d → i ≤ N → HL N V (fun y => y ∈ tk) su bh ah hd → DJ L N b (prA C on) V (fun y => y ∈ tk) cur → tk.Nodup → tk.length = i → cur ≤ 99 * i → (∀ y, y ∈ tk → isEndB w wi y = false) → WP 10 31 [.ref 55, .ref kn, .int (nI w), .int (nI b), .int (oI on), .int (nI N), .int (nI i), y7] [] (CHp h (hR h 31 0) (hR h 31 1) (hR h 31 2) su bh ah hd (nI (cur % 100))) Q := by
  obtain ⟨⟨a1, a2, a3, a4, a5, a6, a7, a8, a9, a10, a11, a12⟩, ⟨l1, l2, l3, l4, l5, l6⟩, n9, ⟨x1, x2, x3⟩, x4, x5⟩ := id x
  have hr := CHp_r (h := h) n9
  have hkt : hT h kn = 4 := hp.1.1
  have hk2 : ∀ su bh ah hd ln, hI (CHp h (hR h 31 0) (hR h 31 1) (hR h 31 2) su bh ah hd ln) kn 2 = nI wi := fun su bh ah hd ln => by
    have := hkq kn (by omega) (by omega)
    rw [CHp_only.2.2.2.2.2.2 kn (by omega)]
    exact h2
  have hcf : ∀ su bh ah hd ln, CW B M (CHp h (hR h 31 0) (hR h 31 1) (hR h 31 2) su bh ah hd ln) ∧ CFr chA (fun _ => False) h (CHp h (hR h 31 0) (hR h 31 1) (hR h 31 2) su bh ah hd ln) := fun su bh ah hd ln => ⟨cw.ofI CHp_only, CFr.ofIJ (J' := fun _ => False) (OnlyI.ij CHp_only) (fun a q => by
    rcases q with q | q | q | q | q
    · exact Or.inr (Or.inl q)
    · exact Or.inr (Or.inr (Or.inl q))
    · exact Or.inr (Or.inr (Or.inr q))
    · exact Or.inl (Or.inr (Or.inr q))
    · exact Or.inl (Or.inr (Or.inl q))) (fun a q => q.elim)⟩
  intro d
  induction d with
  | zero =>
    intro i V tk cur su bh ah hd y7 hd' hi hh dj nd hlen hcur hne
    have hle : nI N ≤ nI i := nI_le (by omega) (by omega)
    rw [w10_31]
    simp only [w10_a, w10_b, hle, true_implies, not_true_eq_false, false_implies, and_true]
    refine k _ _ (dj.noEnd (fun s hs => ?_) hne) (hcf _ _ _ _ _).1 (hcf _ _ _ _ _).2
    have hlt : ∀ y, V y ≠ none → y < N := fun y hy => by
      cases e : V y with
      | none => exact absurd e hy
      | some c' => exact (hh.2.1 y c' e).1
    by_cases w9 : s ∈ tk
    · exact w9
    · have := nodup_len N (s :: tk) (List.nodup_cons.mpr ⟨w9, nd⟩) (fun y hy => by
        rcases List.mem_cons.mp hy with rfl | z
        · exact hlt y hs
        · obtain ⟨c, e, -⟩ := dj.2.2.1 y z
          exact (hh.2.1 y c e).1)
      rw [List.length_cons] at this
      omega
  | succ d ih =>
    intro i V tk cur su bh ah hd y7 hd' hi hh dj nd hlen hcur hne
    have hle : ¬ nI N ≤ nI i := nI_ge (by omega) (by omega)
    rw [w10_31]
    simp only [w10_a, hle, hr, a1, true_implies, not_false_eq_true, false_implies, true_and]
    refine s14 x (by omega) hh (show cur < 2 ^ 24 by omega) rfl dj.2.2.2.1 (fun hall => ?_) (fun s c bh' ah' hd2 hV hTs hmin hh2 => ?_)
    · simp only [w10_a, w10_b, i32_0m1, Option.toList_some, List.cons_append, List.nil_append, true_implies, not_true_eq_false, not_false_eq_true, false_implies, and_true, true_and]
      exact k _ _ (dj.noEnd hall hne) (hcf _ _ _ _ _).1 (hcf _ _ _ _ _).2
    · obtain ⟨hsN, hc9⟩ := hh.2.1 s c hV
      have g0 : (0 : Int32) ≤ nI s := nI_pos' (by omega)
      have hcb := dj.2.2.2.1 s c hV hTs
      have cS : (nI s).toNatClampNeg = s := nI_clamp (by omega)
      have iS : inb (nI s) (hL h (hR h 31 0)) = true := inb_nI (by omega) (by omega)
      have hsu : su s = nI c := by rw [hh.1 s hsN, hV]; rfl
      by_cases q2 : isEndP w wi s
      · simp only [w10_a, w10_b, g0, hr, hkt, hk2, a1, a7, a10, cS, iS, hsu, s142n hw (show s < 65536 by omega) hwi, if_pos q2, i32_10, Option.toList_some, List.cons_append, List.nil_append, true_or, or_true, true_implies, not_true_eq_false, not_false_eq_true, false_implies, and_true, true_and]
        exact k _ _ (dj.found hV (by omega) hmin q2 hne) (hcf _ _ _ _ _).1 (hcf _ _ _ _ _).2
      · simp only [w10_a, w10_b, g0, hr, hkt, hk2, a1, s142n hw (show s < 65536 by omega) hwi, if_neg q2, Option.toList_some, List.cons_append, List.nil_append, true_or, or_true, true_implies, not_true_eq_false, not_false_eq_true, false_implies, and_true, true_and]
        rw [we12]
        simp only [w12_a]
        have hT2 : (fun y => y ∈ tk ∨ y = s) = (fun y => y ∈ s :: tk) := by
          funext y
          rw [List.mem_cons]
          exact propext or_comm
        have dj2 := dj.take (fun a ha' => (hLm a ha').2) hV hTs hmin
        rw [hT2] at dj2 hh2
        refine cheap_l x ha hN9.2 hb9 hp hC hLm hon hkn hkq hsN (by omega) L.length 0 V su bh' ah' hd2 _ _ rfl (Nat.zero_le _) hh2 hV (fun y hy => ?_) fun su3 bh3 ah3 hd3 hh3 => ?_
        · rcases List.mem_cons.mp hy with rfl | z
          · exact ⟨c, hV, Nat.le_refl _⟩
          · obtain ⟨c2, e2, h9⟩ := dj.2.2.1 y z
            exact ⟨c2, e2, by omega⟩
        · rw [List.drop_zero] at hh3
          simp only [w10_a, w10_b, Option.toList_none, List.nil_append, nI_1]
          refine ih (i + 1) _ (s :: tk) c su3 bh3 ah3 hd3 _ (by omega) (by omega) hh3 dj2 (List.nodup_cons.mpr ⟨hTs, nd⟩) (by rw [List.length_cons, hlen]) (by omega) fun y hy => ?_
          rcases List.mem_cons.mp hy with rfl | z
          · exact Bool.eq_false_iff.mpr q2
          · exact hne y z
theorem s10 (cw : CW B M h) (hkn : kn = 4 ∨ kn = 15) (hp : NetP h kn n P) (po : PartsOK n P) (hw : w < 8) (hwi : wi < 65536) (hb9 : b < 65536) (h2 : hI h kn 2 = nI wi) (hC : ∀ x, x < n → hI h (kn + 2) x = nI (C x)) (hC9 : ∀ x, x < n → C x ≤ 99) (hon : ∀ k, on = some k → k < 100)
    (k : ∀ h' r, LC (actsOf n P w) (2 ^ n) b (prA C on) (isEndB w wi) r → CW B M h' → CFr chA (fun _ => False) h h' → Q (some (.int r)) h') : WPM 10 [.ref 55, .ref kn, .int (nI w), .int (nI b), .int (oI on)] h Q := by
  have hn14 := po.1
  have hm : 2 ^ n ∈ sizes1 := pow_sizes1 (by omega)
  have hN0 : 0 < 2 ^ n := Nat.pow_pos (by decide)
  have hN9 : 2 ^ n ≤ 16384 := p2_le (n := 14) hn14
  have hpw : (1 : Int32) <<< (nI n &&& 31) = nI (2 ^ n) := nI_pow n (by omega)
  have a1 : hT h 55 = 2 := by simp only [cw.1]
  have a2 : hR h 55 1 = 36 := by simp only [cw.1]
  have a3 : hT h 36 = 1 := by simp only [cw.1]
  rw [we10]
  simp only [w10_a, a1, a2, a3]
  refine s2n cw (by omega) hp po hw fun h1 cw1 o1 hA1 => ?_
  have hp1 : NetP h1 kn n P := hp.only o1 (by unfold actA; omega) (by unfold actA; omega)
  have b1 : hT h1 55 = 2 := by simp only [cw1.1]
  have hkt : hT h1 kn = 4 := hp1.1.1
  have cf1 : CFr chA (fun _ => False) h h1 := CFr.ofI o1 fun a q => Or.inl q
  simp only [w10_a, s25 hp1.1, hp1.2.1, hpw, b1, hkt, Option.toList_none, Option.toList_some, List.cons_append, List.nil_append]
  refine s11 cw1 hm hA1 fun h3 su bh ah hd cw3 cf3 x g1 g2 => ?_
  have hp3 : NetP h3 kn n P := hp1.cfr cf3 cw1 cw3 hkn id id
  have e2 : hI h3 kn 2 = nI wi := by rw [cf3.keep cw1 (by omega) (by omega) id, o1.2.2.2.2.2.2 kn (by unfold actA; omega)]; exact h2
  have e3 : ∀ x, x < n → hI h3 (kn + 2) x = nI (C x) := fun x hx => by rw [cf3.keep cw1 (by omega) (by omega) id, o1.2.2.2.2.2.2 (kn + 2) (by unfold actA; omega)]; exact hC x hx
  have cf4 : CFr chA (fun _ => False) h h3 := cf1.trans cf3 (fun _ _ q => q.elim) (fun _ _ q => q)
  have hr := CHp_r (h := h3) x.2.2.1
  have t55 : hT h3 55 = 2 := by simp only [cw3.1]
  simp only [w10_a, hr, t55, Option.toList_none, List.nil_append]
  have hh0 : HL (2 ^ n) (fun _ => none) (fun y => y ∈ ([] : List Nat)) su bh ah hd := ⟨g1, fun s c hs => (by cases hs), Lns.empty g2 (fun y z => z.1 rfl)⟩
  refine HL.put (s := 0) (c := 0) x hh0 hN0 (by decide) rfl List.not_mem_nil fun su' bh' ah' hd' hh => ?_
  simp only [w10_a, Option.toList_none, List.nil_append]
  have hLm : ∀ a ∈ actsOf n P w, a.2.1 ≤ n ∧ prA C on a ≤ 99 := fun a ha => by
    have hle : a.2.1 ≤ n := by
      rcases mem_actsOf.mp ha with ⟨y, hy, rfl⟩ | ⟨y, hy, rfl⟩ | ⟨-, y, z, hy, hz, -, rfl⟩
      · show y + 1 ≤ n; omega
      · show 0 ≤ n; omega
      · show y + 1 ≤ n; omega
    refine ⟨hle, ?_⟩
    unfold prA prO
    split
    · omega
    · next hne =>
      cases on with
      | none => exact hC9 _ (by omega)
      | some k => dsimp only; split <;> omega
  have hT0 : (fun y => y ∈ ([] : List Nat)) = (fun _ => False) := by funext y; simp
  refine cost_l cw3 x (po.acts w) ⟨hN0, hN9⟩ hb9 hp3 e3 hLm hon (by omega) (fun a z1 z2 => by have hfa : farA a = true := farA_iff.mpr (by omega); have := cw3.far hfa; exact ⟨this.1, this.2.1, this.2.2.1⟩) hw hwi e2 (fun h' r lc cw' cf' => k h' r lc cw' (cf4.trans' cf')) (2 ^ n) 0 _ [] 0 su' bh' ah' hd' _ rfl (Nat.zero_le _) hh ?_ List.nodup_nil rfl (Nat.zero_le _) (fun y hy => absurd hy List.not_mem_nil)
  rw [hT0]
  exact DJ.start
end Costs

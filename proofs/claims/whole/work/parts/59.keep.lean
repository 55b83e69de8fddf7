/-! ===== Shortest.keepFirstRow ===== -/
theorem rowS_grow {B M n : Nat} {h : AH} (w : CW B M h) (hlt : hL h (hR h 50 6) < n) (h2 : 2 * hL h (hR h 50 6) ≤ n) (hn : n ≤ 65536) :
    ∃ h1, h1 = sR (nw h 100 n n) 50 6 (hN h) ∧ CW B M h1 ∧ CFr (fun a => a = 50) (fun _ => False) h h1 ∧ hR h1 50 6 = hN h ∧ hL h1 (hN h) = n ∧ hT h1 (hN h) = 100 ∧ (∀ a j, a < hN h → ¬ (a = 50 ∧ j = 6) → hR h1 a j = hR h a j) ∧ Fr (fun _ => False) (fun _ => False) h h1 := by
  obtain ⟨hc, hd, hr⟩ := w
  have hd0 := hd
  obtain ⟨d1, ⟨t0, t1, t2, t3, t4, t5⟩, ⟨l0, l1, l2, l3, l4, l5⟩, ⟨b0, b1, b2, b3, b4, b5⟩, ⟨o0, o1, o2, o3, o4, o5⟩, ⟨n1, n2, n3, n4, n5, n6, n7, n8, n9, n10, n11, n12, n13, n14, n15⟩⟩ := hd
  have f1 : Fr (fun _ => False) (fun _ => False) h (sR (nw h 100 n n) 50 6 (hN h)) := (Fr.nw 100 n n).trans (Fr.sR (by decide))
  have eR : ∀ a j, a < hN h → ¬ (a = 50 ∧ j = 6) → hR (sR (nw h 100 n n) 50 6 (hN h)) a j = hR h a j := fun a j ha hj => by
    have hne : ¬ a = hN h := by omega
    rw [hR_sR, if_neg hj, hR_nw, if_neg hne]
  have e0 : hR (sR (nw h 100 n n) 50 6 (hN h)) 50 6 = hN h := by rw [hR_sR, if_pos ⟨rfl, rfl⟩]
  have eT : ∀ a, hT (sR (nw h 100 n n) 50 6 (hN h)) a = if a = hN h then 100 else hT h a := fun a => rfl
  have eL : ∀ a, hL (sR (nw h 100 n n) 50 6 (hN h)) a = if a = hN h then n else hL h a := fun a => rfl
  have eN : hN (sR (nw h 100 n n) 50 6 (hN h)) = hN h + 1 := rfl
  have eS : hS (sR (nw h 100 n n) 50 6 (hN h)) = hS h + n := rfl
  have y0 : ¬ hR h 31 0 = hN h := by omega
  have y1 : ¬ hR h 31 1 = hN h := by omega
  have y2 : ¬ hR h 31 2 = hN h := by omega
  have y3 : ¬ hR h 31 3 = hN h := by omega
  have y4 : ¬ hR h 47 2 = hN h := by omega
  refine ⟨_, rfl, ?_⟩
  generalize sR (nw h 100 n n) 50 6 (hN h) = h1 at f1 eR e0 eT eL eN eS ⊢
  have r0 := eR 31 0 (by omega) (by decide)
  have r1 := eR 31 1 (by omega) (by decide)
  have r2 := eR 31 2 (by omega) (by decide)
  have r3 := eR 31 3 (by omega) (by decide)
  have r4 := eR 47 2 (by omega) (by decide)
  refine ⟨⟨f1.cs d1 hc, ?_, ?_⟩, ⟨f1.mono (fun _ q => q.elim) (fun _ q => q.elim), Or.inl r0, Or.inl r1, Or.inl r2, Or.inl r3, Or.inl r4, Or.inr (by omega), eR 2 2 (by omega) (by decide), eR 2 3 (by omega) (by decide), fun _ => Or.inr r4, fun _ => Or.inl rfl, f1.le0 hd0 r0, f1.le3 hd0 r3⟩, e0, by rw [eL, if_pos rfl], by rw [eT, if_pos rfl], eR, f1⟩
  · unfold DY
    rw [r0, r1, r2, r3, r4, e0, eN]
    simp only [eT, eL, y0, y1, y2, y3, y4, if_true, if_false]
    refine ⟨by omega, ⟨t0, t1, t2, t3, t4, trivial⟩, ⟨by omega, by omega, by omega, by omega, by omega, by omega⟩, ⟨by omega, by omega, by omega, by omega, by omega, by omega⟩, ⟨by omega, by omega, by omega, by omega, by omega, by omega⟩, ⟨by omega, by omega, by omega, by omega, by omega, by omega, by omega, by omega, by omega, by omega, by omega, by omega, by omega, by omega, by omega⟩⟩
  · unfold Rm at hr ⊢
    rw [r0, r1, r2, r3, r4, e0, eN, eS]
    simp only [eL, y0, y1, y2, y3, y4, if_true, if_false]
    exact ⟨by omega, by omega⟩
theorem fRow_len {L : List Act} {N b : Nat} {e : Nat → Bool} : ∀ k s, 0 < cnt L N b e k s → (fRow L N b e k s).length = k := by
  intro k
  induction k with
  | zero => exact fun s _ => rfl
  | succ k ih =>
    intro s hs
    obtain ⟨a, t, ha, h1, h2⟩ := cnt_pos.mp hs
    have hsome : (L.find? (stA1 L N b e k s)).isSome := List.find?_isSome.mpr ⟨a, ha, by unfold stA1; rw [h1]; exact decide_eq_true h2⟩
    obtain ⟨a', ea⟩ := Option.isSome_iff_exists.mp hsome
    have hp := List.find?_some ea
    show (match L.find? (stA1 L N b e k s) with
      | some a => a.1 :: fRow L N b e k ((aft N b a s).getD 0)
      | none => []).length = k + 1
    rw [ea]
    show (fRow L N b e k ((aft N b a' s).getD 0)).length + 1 = k + 1
    unfold stA1 at hp
    cases q : aft N b a' s with
    | none => rw [q] at hp; cases hp
    | some t' =>
      rw [q] at hp
      rw [show (some t').getD 0 = t' from rfl, ih t' (of_decide_eq_true hp)]
section Keep
variable {h : AH} {l r N b kk : Nat} {L : List Act} {D : Nat → Option Nat} {e : Nat → Bool} {Q : Option Value → AH → Prop}
theorem keep_l (y : SY h l N L D) (ha : ActsOK L) (hN9 : N ≤ 16384) (hb9 : b < 65536) (hD : ∀ t k, D t = some k → k < 65536) (hr6 : hR h 50 6 = r) (hrT : hT h r = 100) (hrL : kk ≤ hL h r ∧ hL h r ≤ 65536) (hr50 : r ≠ 50 ∧ r ≠ l ∧ (r < 36 ∨ 41 < r)) (h7 : hI h 50 7 = nI kk) (hk9 : kk ≤ 16384)
    (hst : ∀ v s t a, v < kk → D s = some (v + 1) → a ∈ L → aft N b a s = some t → (D t = some v ↔ 0 < cnt L N b e v t))
    (k : ∀ f, (∀ j v, (fRow L N b e kk 0)[j]? = some v → f j = nI v) → Q none (setI h r f)) :
    ∀ d i s f pre yy, kk - i = d → i ≤ kk → s < N → D s = some (kk - i) → 0 < cnt L N b e (kk - i) s → pre.length = i → fRow L N b e kk 0 = pre ++ fRow L N b e (kk - i) s → (∀ j v, pre[j]? = some v → f j = nI v) → WP 79 36 [.ref 50, .int (nI kk), .int (nI b), .int (nI s), .int (nI i), yy] [] (setI h r f) Q := by
  obtain ⟨⟨a1, a2, a3, a4, a5⟩, ⟨l1, l2⟩, y1, y2, y3⟩ := id y
  have e50 : ∀ f, hI (setI h r f) 50 = hI h 50 := fun f => by rw [hI_setI, if_neg (Ne.symm hr50.1)]
  have ys : ∀ f, SY (setI h r f) l N L D := fun f => ⟨⟨a1, a2, a3, a4, a5⟩, ⟨l1, l2⟩, y1, y2.ofI fun a q1 q2 => by rw [hI_setI, if_neg (by omega)], fun t ht => by rw [hI_setI, if_neg (Ne.symm hr50.2.1)]; exact y3 t ht⟩
  have hs1 := hs_setI h r
  intro d
  induction d with
  | zero =>
    intro i s f pre yy hd hi hs hDs hc hp hf hpre
    have hle : nI kk ≤ nI i := nI_le (by omega) (by omega)
    have : i = kk := by omega
    subst this
    rw [w79_36]
    simp only [w79_a, w79_b, hs1, e50, a1, h7, hle, true_implies, not_true_eq_false, false_implies, and_true]
    refine k f fun j v hj => hpre j v ?_
    rw [hf, Nat.sub_self] at hj
    rw [show fRow L N b e 0 s = [] from rfl, List.append_nil] at hj
    exact hj
  | succ d ih =>
    intro i s f pre yy hd hi hs hDs hc hp hf hpre
    have hle : ¬ nI kk ≤ nI i := nI_ge (by omega) (by omega)
    obtain ⟨v, hv⟩ : ∃ v, kk - i = v + 1 := ⟨kk - i - 1, by omega⟩
    have e1 : nI kk - nI i - 1 = nI v := by rw [pk_sub (by omega), hv, nI_m1]
    rw [hv] at hDs hc hf
    have c1 : (nI i).toNatClampNeg = i := nI_clamp (by omega)
    have i1 : inb (nI i) (hL h r) = true := inb_nI (by omega) (by omega)
    rw [w79_36]
    simp only [w79_a, w79_b, hs1, e50, a1, h7, hle, e1, true_implies, not_false_eq_true, false_implies, true_and]
    obtain ⟨a0, t0, ha0, ht0, hc0⟩ := cnt_pos.mp hc
    refine s80 (ys f) ha hN9 hb9 hs (show v < 65536 by omega) hD (fun j a hj hpr hno => ?_) (fun hno => ?_)
    · have hjl : j < L.length := by
        obtain ⟨hl, -⟩ := List.getElem?_eq_some_iff.mp hj
        exact hl
      have haL := List.mem_of_getElem? hj
      have ha3 := ha.2.2
      have cj : (nI j).toNatClampNeg = j := nI_clamp (by omega)
      have ij : inb (nI j) 112 = true := inb_nI (by omega) (by decide)
      have g0 : ¬ nI j < 0 := nI_pos (by omega)
      have g0' : (0 : Int32) ≤ nI j := nI_pos' (by omega)
      cases q : aft N b a s with
      | none => unfold pr80 at hpr; rw [q] at hpr; cases hpr
      | some t =>
        have hDt : D t = some v := by
          unfold pr80 at hpr
          rw [q] at hpr
          exact of_decide_eq_true hpr
        have ht := aft_lt q
        have hct := (hst v s t a (by omega) hDs haL q).mp hDt
        have hn : hI (setI h r f) 37 j = nI a.1 := by rw [hI_setI, if_neg (by omega)]; exact (y2.2.1 j a hj).1
        have hA' : ActsHold (setI h r (va_up f i (nI a.1))) N L := (ys (va_up f i (nI a.1))).2.2.2.1
        have h7' := s7N (h := setI h r (va_up f i (nI a.1))) (N := N) (b := b) (s := s) y1 (show j < 112 by omega) (hA'.2.1 j a hj) (ha.1 a haL) hA'.2.2 (by omega) (show s < 65536 by omega) hb9
        rw [q] at h7'
        simp only [w79_a, w79_b, hs1, a1, a2, a3, hr6, hrT, y1, c1, i1, cj, ij, g0, g0', hn, sI_setI, h7', oI_some, Option.toList_some, List.cons_append, List.nil_append, true_or, or_true, true_implies, not_true_eq_false, not_false_eq_true, false_implies, and_true, true_and, nI_1]
        have hfind : L.find? (stA1 L N b e v s) = some a := by
          rw [List.find?_eq_some_iff_getElem]
          have hpa : ∀ a', a' ∈ L → stA1 L N b e v s a' = pr80 N b D s v a' := fun a' ha' => by
            unfold stA1 pr80
            cases q' : aft N b a' s with
            | none => rfl
            | some t' =>
              have := hst v s t' a' (by omega) hDs ha' q'
              show decide _ = decide _
              simp only [this]
          obtain ⟨hl, e9⟩ := List.getElem?_eq_some_iff.mp hj
          refine ⟨by rw [hpa a haL]; exact hpr, j, hl, e9, fun i' hi' => ?_⟩
          rw [hpa _ (List.getElem_mem _), hno i' L[i'] hi' (List.getElem?_eq_getElem _)]
          rfl
        have hrow : fRow L N b e (v + 1) s = a.1 :: fRow L N b e v t := by
          show (match L.find? (stA1 L N b e v s) with
            | some a => a.1 :: fRow L N b e v ((aft N b a s).getD 0)
            | none => []) = _
          rw [hfind]
          show a.1 :: fRow L N b e v ((aft N b a s).getD 0) = _
          rw [q]
          rfl
        have ev : kk - (i + 1) = v := by omega
        refine ih (i + 1) t (va_up f i (nI a.1)) (pre ++ [a.1]) _ (by omega) (by omega) ht.1 (by rw [ev]; exact hDt) (by rw [ev]; exact hct) (by rw [List.length_append, hp]; rfl) ?_ fun j' v' hj' => ?_
        · rw [hf, hrow, ev, List.append_assoc]
          rfl
        · rw [up_at]
          rcases Nat.lt_trichotomy j' i with w9 | w9 | w9
          · rw [List.getElem?_append_left (by omega)] at hj'
            rw [if_neg (by omega)]
            exact hpre j' v' hj'
          · subst w9
            rw [List.getElem?_append_right (by omega), hp, Nat.sub_self] at hj'
            rw [if_pos rfl]
            have : a.1 = v' := Option.some.inj hj'
            rw [this]
          · rw [List.getElem?_eq_none (by rw [List.length_append, hp]; simp; omega)] at hj'
            cases hj'
    · have := hno a0 ha0
      unfold pr80 at this
      rw [ht0] at this
      have h9 := (hst v s t0 a0 (by omega) hDs ha0 ht0).mpr hc0
      change decide (D t0 = some v) = false at this
      rw [h9] at this
      simp at this
end Keep

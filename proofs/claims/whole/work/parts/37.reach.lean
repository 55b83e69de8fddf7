/-! ===== Reach: spread ===== -/
abbrev LZ : Type := (Nat → Nat) × List Nat
def lx1 (N b s : Nat) (z : LZ) (a : Act) : LZ := match aft N b a s with
  | some t => if z.1 t = 99 then (fun x => if x = t then b else z.1 x, z.2 ++ [t]) else z
  | none => z
abbrev F_reach (lv qa : Nat) (h : AH) : Prop := hT h 47 = 7 ∧ hR h 47 0 = 31 ∧ hR h 47 1 = 36 ∧ hR h 47 2 = lv ∧ hR h 47 3 = qa ∧ hT h lv = 101 ∧ hT h qa = 100
theorem F_reach_of {lv qa : Nat} {h h1 : AH} (e1 : hT h1 = hT h) (e3 : hR h1 = hR h) (hf : F_reach lv qa h) : F_reach lv qa h1 := by
  unfold F_reach
  rw [e1, e3]
  exact hf
def RS (h : AH) (lv qa N : Nat) (z : LZ) : Prop := hI h 47 4 = nI z.2.length ∧ hI h 47 5 = nI N ∧ (∀ x, x < N → hI h lv x = nI (z.1 x) ∧ z.1 x < 128) ∧ ∀ j x, z.2[j]? = some x → hI h qa j = nI x
def Zok (N : Nat) (z : LZ) : Prop := z.2.Nodup ∧ ∀ x ∈ z.2, x < N ∧ z.1 x ≠ 99
theorem Zok.len {N : Nat} {z : LZ} (h : Zok N z) {t : Nat} (ht : t < N) (h9 : z.1 t = 99) : z.2.length < N := by
  have h1 : (t :: z.2).Nodup := List.nodup_cons.mpr ⟨fun q => (h.2 t q).2 h9, h.1⟩
  have h2 : (t :: z.2) ⊆ List.range N := fun x hx => by
    rcases List.mem_cons.mp hx with rfl | q
    · exact List.mem_range.mpr ht
    · exact List.mem_range.mpr (h.2 x q).1
  have := List.Nodup.length_le_of_subset h1 h2
  simp at this
  omega
theorem Zok.add {N b : Nat} {z : LZ} (h : Zok N z) {t : Nat} (ht : t < N) (h9 : z.1 t = 99) (hb : b ≠ 99) : Zok N (fun x => if x = t then b else z.1 x, z.2 ++ [t]) := by
  refine ⟨?_, fun x hx => ?_⟩
  · show (z.2 ++ [t]).Nodup
    rw [List.nodup_append]
    refine ⟨h.1, by simp, fun x hx y hy => ?_⟩
    have : y = t := by simpa using hy
    subst this
    intro e
    subst e
    exact (h.2 x hx).2 h9
  · rcases List.mem_append.mp hx with q | q
    · refine ⟨(h.2 x q).1, ?_⟩
      show (if x = t then b else z.1 x) ≠ 99
      split
      · exact hb
      · exact (h.2 x q).2
    · have : x = t := by simpa using q
      subst this
      refine ⟨ht, ?_⟩
      show (if x = x then b else z.1 x) ≠ 99
      rw [if_pos rfl]
      exact hb
theorem ActsHold.only {A : Nat → Prop} {h h1 : AH} {N : Nat} {L : List Act} (hA : ActsHold h N L) (o : OnlyI A h h1) (hd : ∀ x, 36 ≤ x → x ≤ 41 → ¬ A x) : ActsHold h1 N L := by
  obtain ⟨-, -, -, -, -, -, e7⟩ := o
  refine ⟨by rw [e7 36 (hd 36 (by omega) (by omega))]; exact hA.1, fun j a hj => ?_, by rw [e7 36 (hd 36 (by omega) (by omega))]; exact hA.2.2⟩
  obtain ⟨q1, q2, q3, q4, q5⟩ := hA.2.1 j a hj
  unfold actHeld
  rw [e7 37 (hd 37 (by omega) (by omega)), e7 38 (hd 38 (by omega) (by omega)), e7 39 (hd 39 (by omega) (by omega)), e7 40 (hd 40 (by omega) (by omega)), e7 41 (hd 41 (by omega) (by omega))]
  exact ⟨q1, q2, q3, q4, q5⟩
theorem i8_sm : ∀ b, b < 128 → (nI b).toInt8.toInt32 = nI b := by decide +kernel
def rcA (lv qa : Nat) (x : Nat) : Prop := x = 47 ∨ x = lv ∨ x = qa
/-- the cells of a look at one set: Reach (its queued alone), its levels, its queue -/
def O47 (lv qa : Nat) (h h' : AH) : Prop := hT h' = hT h ∧ hL h' = hL h ∧ hJ h' = hJ h ∧ hR h' = hR h ∧ hN h' = hN h ∧ hS h' = hS h ∧ (∀ a, ¬ rcA lv qa a → hI h' a = hI h a) ∧ ∀ j, j ≠ 4 → hI h' 47 j = hI h 47 j
theorem O47.only {lv qa : Nat} {h h' : AH} (o : O47 lv qa h h') : OnlyI (rcA lv qa) h h' := ⟨o.1, o.2.1, o.2.2.1, o.2.2.2.1, o.2.2.2.2.1, o.2.2.2.2.2.1, o.2.2.2.2.2.2.1⟩
theorem O47.rf {lv qa : Nat} {h : AH} : O47 lv qa h h := ⟨rfl, rfl, rfl, rfl, rfl, rfl, fun _ _ => rfl, fun _ _ => rfl⟩
theorem O47.trans {lv qa : Nat} {h h1 h2 : AH} (a : O47 lv qa h h1) (b : O47 lv qa h1 h2) : O47 lv qa h h2 := by
  obtain ⟨c1, c2, c3, c4, c5, c6, c7⟩ := a.only.trans b.only
  exact ⟨c1, c2, c3, c4, c5, c6, c7, fun j hj => (b.2.2.2.2.2.2.2 j hj).trans (a.2.2.2.2.2.2.2 j hj)⟩
theorem O47.st3 {lv qa : Nat} {h h1 : AH} (o : O47 lv qa h h1) (n1 : lv ≠ 47) (n2 : qa ≠ 47) (i j : Nat) (x y v : Int32) : O47 lv qa h (sI (sI (sI h1 lv i x) qa j y) 47 4 v) := by
  obtain ⟨c1, c2, c3, c4, c5, c6, c7⟩ := ((o.only.sI (k := i) x (Or.inr (Or.inl rfl))).sI (k := j) y (Or.inr (Or.inr rfl))).sI (k := 4) v (Or.inl rfl)
  refine ⟨c1, c2, c3, c4, c5, c6, c7, fun k hk => ?_⟩
  have e1 : ¬ (47 = lv) := fun q => n1 q.symm
  have e2 : ¬ (47 = qa) := fun q => n2 q.symm
  simp only [hI_sI, hk, e1, e2, and_false, false_and, if_false]
  exact o.2.2.2.2.2.2.2 k hk
section Spread
variable {h : AH} {lv qa N b s : Nat} {L : List Act} {Q : Option Value → AH → Prop}
theorem spread_l (hlv : (lv < 36 ∨ 41 < lv) ∧ lv ≠ 47) (hqa : (qa < 36 ∨ 41 < qa) ∧ qa ≠ 47) (hlq : lv ≠ qa) (hf : F_acts h) (hA : ActsHold h N L) (hsm : ∀ a ∈ L, actSm a) (hLn : L.length ≤ 112) (hr : F_reach lv qa h) (hl1 : N ≤ hL h lv) (hl2 : hL h lv < 2 ^ 31) (hl3 : N ≤ hL h qa) (hl4 : hL h qa < 2 ^ 31) (hN : N ≤ 16384) (hs : s < N) (hb : b < 99) {z : LZ}
    (k : ∀ h2, O47 lv qa h h2 → RS h2 lv qa N (L.foldl (lx1 N b s) z) → Zok N (L.foldl (lx1 N b s) z) → Q none h2) :
    ∀ d j h1 v4, L.length - j = d → j ≤ L.length → O47 lv qa h h1 → RS h1 lv qa N ((L.take j).foldl (lx1 N b s) z) → Zok N ((L.take j).foldl (lx1 N b s) z) → WP 61 2 [.ref 47, .int (nI s), .int (nI b), .int (nI j), v4] [] h1 Q := by
  intro d
  induction d with
  | zero =>
    intro j h1 v4 hd hj o rs zk
    have hjl : j = L.length := by omega
    subst hjl
    have hA1 := hA.only o.only (by intro x h1 h2 q; unfold rcA at q; omega)
    have hf1 := F_acts_of o.1 o.2.1 o.2.2.2.1 hf
    have hr1 := F_reach_of o.1 o.2.2.2.1 hr
    have hjj : nI L.length ≤ nI L.length := nI_le (Nat.le_refl _) (by omega)
    rw [List.take_length] at rs zk
    rw [w61_2]
    simp only [w61_a, w61_b, hr1, hf1, hA1.1, hjj, true_implies, not_true_eq_false, false_implies, and_true]
    exact k h1 o rs zk
  | succ d ih =>
    intro j h1 v4 hd hj o rs zk
    have hjl : j < L.length := by omega
    have hA1 := hA.only o.only (by intro x h1 h2 q; unfold rcA at q; omega)
    have hf1 := F_acts_of o.1 o.2.1 o.2.2.2.1 hf
    have hr1 := F_reach_of o.1 o.2.2.2.1 hr
    have hjj : ¬ nI L.length ≤ nI j := nI_ge hjl (by omega)
    obtain ⟨a, ha⟩ : ∃ a, L[j]? = some a := ⟨_, List.getElem?_eq_getElem hjl⟩
    have hz : (L.take (j + 1)).foldl (lx1 N b s) z = lx1 N b s ((L.take j).foldl (lx1 N b s) z) a := by
      rw [List.take_add_one, ha, List.foldl_append]
      rfl
    have h7 := fun Q => s7N (Q := Q) hf1 (show j < 112 by omega) (hA1.2.1 j a ha) (hsm a (List.mem_of_getElem? ha)) hA1.2.2 (show N ≤ 65536 by omega) (show s < 65536 by omega) (show b < 65536 by omega)
    generalize (L.take j).foldl (lx1 N b s) z = zj at rs zk hz
    obtain ⟨r1, r2, r3, r4⟩ := rs
    rw [w61_2]
    cases ht : aft N b a s with
    | none =>
      have hz' : lx1 N b s zj a = zj := by unfold lx1; rw [ht]
      rw [hz'] at hz
      have hneg : (-1 : Int32) < 0 := by decide
      simp only [w61_a, w61_b, hr1, hf1, hA1.1, hjj, h7, ht, oI, hneg, Option.toList_some, List.cons_append, List.nil_append, true_implies, not_true_eq_false, not_false_eq_true, false_implies, and_true, true_and, nI_1]
      exact ih (j + 1) h1 _ (by omega) (by omega) o (by rw [hz]; exact ⟨r1, r2, r3, r4⟩) (by rw [hz]; exact zk)
    | some t =>
      have htN := (aft_lt ht).1
      have hpos : ¬ nI t < 0 := nI_pos (by omega)
      have hcl : (nI t).toNatClampNeg = t := nI_clamp (by omega)
      have eL : hL h1 = hL h := o.2.1
      have hib : inb (nI t) (hL h1 lv) = true := by rw [eL]; exact inb_nI (by omega) (by omega)
      have hlt := r3 t htN
      by_cases h9 : zj.1 t = 99
      · have hz' : lx1 N b s zj a = (fun x => if x = t then b else zj.1 x, zj.2 ++ [t]) := by unfold lx1; rw [ht]; simp [h9]
        rw [hz'] at hz
        have hql := zk.len htN h9
        have hqs : ¬ nI N ≤ nI zj.2.length := nI_ge hql (by omega)
        have h99 : nI (zj.1 t) = (99 : Int32) := by rw [h9]; rfl
        have hb8 : (nI b).toInt8.toInt32 = nI b := i8_sm b (by omega)
        have hcq : (nI zj.2.length).toNatClampNeg = zj.2.length := nI_clamp (by omega)
        have hiq : inb (nI zj.2.length) (hL h1 qa) = true := by rw [eL]; exact inb_nI (by omega) (by omega)
        have n1 : ¬ (47 = lv) := fun q => hlv.2 q.symm
        have n2 : ¬ (47 = qa) := fun q => hqa.2 q.symm
        simp only [w61_a, w61_b, hr1, hf1, hA1.1, hjj, h7, ht, oI, hpos, hcl, hib, hlt.1, h99, r1, r2, hqs, hb8, hs_sI, hcq, hiq, hI_sI, n1, n2, false_and, if_false, true_or, Option.toList_some, List.cons_append, List.nil_append, true_implies, not_true_eq_false, not_false_eq_true, false_implies, and_true, true_and, nI_1]
        refine ih (j + 1) _ _ (by omega) (by omega) (o.st3 hlv.2 hqa.2 _ _ _ _ _) ?_ (by rw [hz]; exact zk.add htN h9 (by omega))
        rw [hz]
        refine ⟨by simp [hI_sI], by simp [hI_sI, n1, n2, r2], fun x hx => ?_, fun i x hi => ?_⟩
        · by_cases hxt : x = t
          · subst hxt
            simp [hI_sI, hlq, hlv.2]
            omega
          · have := r3 x hx
            simp [hI_sI, hlq, hlv.2, hxt, this]
        · by_cases hil : i < zj.2.length
          · rw [List.getElem?_append_left hil] at hi
            have := r4 i x hi
            have hne : ¬ i = zj.2.length := by omega
            simp [hI_sI, hqa.2, Ne.symm hlq, hne, this]
          · rw [List.getElem?_append_right (by omega)] at hi
            have hi0 : i - zj.2.length = 0 := by
              rcases Nat.eq_zero_or_pos (i - zj.2.length) with q | q
              · exact q
              · rw [List.getElem?_eq_none (by simp; omega)] at hi; cases hi
            rw [hi0] at hi
            cases hi
            have hie : i = zj.2.length := by omega
            subst hie
            simp [hI_sI, hqa.2]
      · have hz' : lx1 N b s zj a = zj := by unfold lx1; rw [ht]; simp [h9]
        rw [hz'] at hz
        have h99 : ¬ nI (zj.1 t) = (99 : Int32) := fun q => h9 (nI_inj (by omega) (by decide) (q.trans (show (99 : Int32) = nI 99 from rfl)))
        simp only [w61_a, w61_b, hr1, hf1, hA1.1, hjj, h7, ht, oI, hpos, hcl, hib, hlt.1, h99, true_or, Option.toList_some, List.cons_append, List.nil_append, true_implies, not_true_eq_false, not_false_eq_true, false_implies, and_true, true_and, nI_1]
        exact ih (j + 1) h1 _ (by omega) (by omega) o (by rw [hz]; exact ⟨r1, r2, r3, r4⟩) (by rw [hz]; exact zk)
end Spread

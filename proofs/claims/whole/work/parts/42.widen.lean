/-! ===== Reach.widen ===== -/
theorem nI_m1 (b : Nat) : nI (b + 1) - 1 = nI b := nI_pred b
section Widen
variable {h : AH} {lv qa N b : Nat} {L : List Act} {Q : Option Value → AH → Prop}
/-- what spread needs of the heap -/
def SpOK (h : AH) (lv qa N : Nat) (L : List Act) : Prop := ((lv < 36 ∨ 41 < lv) ∧ lv ≠ 47) ∧ ((qa < 36 ∨ 41 < qa) ∧ qa ≠ 47) ∧ lv ≠ qa ∧ F_acts h ∧ ActsHold h N L ∧ F_reach lv qa h ∧ (N ≤ hL h lv ∧ hL h lv < 2 ^ 31) ∧ (N ≤ hL h qa ∧ hL h qa < 2 ^ 31)
def ActsOK (L : List Act) : Prop := (∀ a ∈ L, actSm a) ∧ (∀ a ∈ L, actOne a) ∧ L.length ≤ 112
theorem SpOK.only {h1 : AH} (s : SpOK h lv qa N L) (o : O47 lv qa h h1) : SpOK h1 lv qa N L := by
  obtain ⟨s1, s2, s3, s4, s5, s6, s7, s8⟩ := s
  refine ⟨s1, s2, s3, F_acts_of o.1 o.2.1 o.2.2.2.1 s4, s5.only o.only (by intro x h1 h2 q; unfold rcA at q; omega), F_reach_of o.1 o.2.2.2.1 s6, ?_, ?_⟩
  · rw [o.2.1]; exact s7
  · rw [o.2.1]; exact s8
theorem s61 {s : Nat} {z : LZ} (sp : SpOK h lv qa N L) (ha : ActsOK L) (hN : N ≤ 16384) (hs : s < N) (hb : b < 99) (rs : RS h lv qa N z) (zk : Zok N z) (k : ∀ h2, O47 lv qa h h2 → RS h2 lv qa N (lxA L N b s z) → Zok N (lxA L N b s z) → Q none h2) : WPM 61 [.ref 47, .int (nI s), .int (nI b)] h Q := by
  obtain ⟨s1, s2, s3, s4, s5, s6, s7, s8⟩ := sp
  rw [we61]
  simp only [w61_a, w61_b]
  exact spread_l s1 s2 s3 s4 s5 ha.1 ha.2.2 s6 s7.1 s7.2 s8.1 s8.2 hN hs hb k L.length 0 h _ (by omega) (by omega) O47.rf rs zk
theorem widen_1 {l0 : Nat → Nat} (sp : SpOK h lv qa N L) (ha : ActsOK L) (hN : 0 < N ∧ N ≤ 16384) (hb : b + 1 < 99) (hok : LvOK L N b l0)
    (k : ∀ h2 z, O47 lv qa h h2 → RS h2 lv qa N z → LvI L N (b + 1) l0 (fun s => s < N ∧ l0 s < b + 1 ∧ pc s = b) z → WP 60 64 [.ref 47, .int (nI (b + 1)), .int 0] [] h2 Q) :
    ∀ d x h1 z, N - x = d → x ≤ N → O47 lv qa h h1 → RS h1 lv qa N z → LvI L N (b + 1) l0 (fun s => s < x ∧ l0 s < b + 1 ∧ pc s = b) z → WP 60 22 [.ref 47, .int (nI (b + 1)), .int (nI x)] [] h1 Q := by
  intro d
  induction d with
  | zero =>
    intro x h1 z hd hx o rs hI9
    have hxN : x = N := by omega
    subst hxN
    have sp1 := sp.only o
    have hle : nI x ≤ nI x := nI_le (Nat.le_refl _) (by omega)
    rw [w60_22]
    simp only [w60_a, w60_b, sp1.2.2.2.2.2.1, rs.2.1, hle, true_implies, not_true_eq_false, false_implies, and_true]
    exact k h1 z o rs hI9
  | succ d ih =>
    intro x h1 z hd hx o rs hI9
    have hxN : x < N := by omega
    have sp1 := sp.only o
    have hle : ¬ nI N ≤ nI x := nI_ge hxN (by omega)
    have hcl : (nI x).toNatClampNeg = x := nI_clamp (by omega)
    have hib : inb (nI x) (hL h1 lv) = true := inb_nI (by have := sp1.2.2.2.2.2.2.1.1; omega) sp1.2.2.2.2.2.2.1.2
    have hr3 := rs.2.2.1 x hxN
    have hzx := hI9.2.2.1 x
    have hlt : (z.1 x < b + 1) ↔ l0 x < b + 1 := by
      rw [hzx]
      by_cases hm : x ∈ z.2
      · rw [if_pos hm]
        have := (hI9.2.1 x hm).1
        omega
      · rw [if_neg hm]
    have hbc : bcI (nI x) = nI (pc x) := bc_pc (by omega)
    have skip : (¬ (l0 x < b + 1 ∧ pc x = b)) → LvI L N (b + 1) l0 (fun s => s < x + 1 ∧ l0 s < b + 1 ∧ pc s = b) z := fun hn => by
      refine ⟨hI9.1, hI9.2.1, hI9.2.2.1, fun s hs => ?_⟩
      refine hI9.2.2.2 s ⟨?_, hs.2⟩
      rcases Nat.lt_or_ge s x with q | q
      · exact q
      · have : s = x := by omega
        subst this
        exact absurd hs.2 hn
    rw [w60_22]
    by_cases h1' : l0 x < b + 1
    · have hcm : ¬ nI (b + 1) ≤ nI (z.1 x) := nI_ge (hlt.mpr h1') (by omega)
      by_cases h2' : pc x = b
      · have hbb : nI (pc x) = nI b := by rw [h2']
        simp only [w60_a, w60_b, sp1.2.2.2.2.2.1, rs.2.1, hle, hcl, hib, hr3.1, hcm, s218, hbc, nI_m1, hbb, true_or, Option.toList_some, List.cons_append, List.nil_append, true_implies, not_true_eq_false, not_false_eq_true, false_implies, and_true, true_and]
        have hRx : Rch L N (b + 1) x := (((hok x hxN).1 b (Nat.le_refl _)).mp (by omega)).mono (by omega)
        refine s61 sp1 ha hN.2 hxN hb rs (hI9.zok (by omega)) fun h2 o2 rs2 zk2 => ?_
        simp only [w60_a, w60_b, Option.toList_none, List.nil_append, nI_1]
        refine ih (x + 1) h2 _ (by omega) (by omega) (o.trans o2) rs2 ?_
        have hlk := (hI9.look (by omega) hRx).1
        refine ⟨hlk.1, hlk.2.1, hlk.2.2.1, fun s hs => hlk.2.2.2 s ?_⟩
        rcases Nat.lt_or_ge s x with q | q
        · exact Or.inl ⟨q, hs.2⟩
        · exact Or.inr (by omega)
      · have hbb : ¬ nI (pc x) = nI b := fun q => h2' (nI_inj (by have := pc_le x; omega) (by omega) q)
        simp only [w60_a, w60_b, sp1.2.2.2.2.2.1, rs.2.1, hle, hcl, hib, hr3.1, hcm, s218, hbc, nI_m1, hbb, true_or, Option.toList_some, List.cons_append, List.nil_append, true_implies, not_true_eq_false, not_false_eq_true, false_implies, and_true, true_and, nI_1]
        exact ih (x + 1) h1 z (by omega) (by omega) o rs (skip (fun q => h2' q.2))
    · have hcm : nI (b + 1) ≤ nI (z.1 x) := nI_le (by have := mt hlt.mp h1'; omega) (by omega)
      simp only [w60_a, w60_b, sp1.2.2.2.2.2.1, rs.2.1, hle, hcl, hib, hr3.1, hcm, true_or, true_implies, not_true_eq_false, not_false_eq_true, false_implies, and_true, true_and, nI_1]
      exact ih (x + 1) h1 z (by omega) (by omega) o rs (skip (fun q => h1' q.1))
theorem widen_2 {l0 : Nat → Nat} {D : Nat → Prop} (sp : SpOK h lv qa N L) (ha : ActsOK L) (hN : 0 < N ∧ N ≤ 16384) (hb : b + 1 < 99)
    (k : ∀ h2 z, O47 lv qa h h2 → RS h2 lv qa N z → LvI L N (b + 1) l0 (fun s => D s ∨ s ∈ z.2) z → Q none h2) :
    ∀ d i h1 z, N - i = d → i ≤ z.2.length → O47 lv qa h h1 → RS h1 lv qa N z → LvI L N (b + 1) l0 (fun s => D s ∨ ∃ j, j < i ∧ z.2[j]? = some s) z → WP 60 64 [.ref 47, .int (nI (b + 1)), .int (nI i)] [] h1 Q := by
  intro d
  induction d with
  | zero =>
    intro i h1 z hd hi o rs hI9
    have sp1 := sp.only o
    have hlen : z.2.length ≤ N := by
      have := List.Nodup.length_le_of_subset hI9.1 (show z.2 ⊆ List.range N from fun x hx => List.mem_range.mpr (hI9.2.1 x hx).2.1)
      simpa using this
    have hle : nI z.2.length ≤ nI i := nI_le (by omega) (by omega)
    rw [w60_64]
    simp only [w60_a, w60_b, sp1.2.2.2.2.2.1, rs.1, hle, true_implies, not_true_eq_false, false_implies, and_true]
    refine k h1 z o rs ⟨hI9.1, hI9.2.1, hI9.2.2.1, fun s hs => hI9.2.2.2 s ?_⟩
    rcases hs with q | q
    · exact Or.inl q
    · obtain ⟨j, hj⟩ := List.getElem?_of_mem q
      have := (List.getElem?_eq_some_iff.mp hj).1
      exact Or.inr ⟨j, by omega, hj⟩
  | succ d ih =>
    intro i h1 z hd hi o rs hI9
    have sp1 := sp.only o
    by_cases hil : i = z.2.length
    · have hle : nI z.2.length ≤ nI i := nI_le (by omega) (by omega)
      rw [w60_64]
      simp only [w60_a, w60_b, sp1.2.2.2.2.2.1, rs.1, hle, true_implies, not_true_eq_false, false_implies, and_true]
      refine k h1 z o rs ⟨hI9.1, hI9.2.1, hI9.2.2.1, fun s hs => hI9.2.2.2 s ?_⟩
      rcases hs with q | q
      · exact Or.inl q
      · obtain ⟨j, hj⟩ := List.getElem?_of_mem q
        have := (List.getElem?_eq_some_iff.mp hj).1
        exact Or.inr ⟨j, by omega, hj⟩
    · have hlt : i < z.2.length := by omega
      have hlen : z.2.length ≤ N := by
        have := List.Nodup.length_le_of_subset hI9.1 (show z.2 ⊆ List.range N from fun x hx => List.mem_range.mpr (hI9.2.1 x hx).2.1)
        simpa using this
      obtain ⟨s, hs⟩ : ∃ s, z.2[i]? = some s := ⟨_, List.getElem?_eq_getElem hlt⟩
      have hsz := hI9.2.1 s (List.mem_of_getElem? hs)
      have hle : ¬ nI z.2.length ≤ nI i := nI_ge hlt (by omega)
      have hle2 : ¬ nI N ≤ nI i := nI_ge (by omega) (by omega)
      have hcl : (nI i).toNatClampNeg = i := nI_clamp (by omega)
      have hib : inb (nI i) (hL h1 qa) = true := inb_nI (by have := sp1.2.2.2.2.2.2.2.1; omega) sp1.2.2.2.2.2.2.2.2
      have hq := rs.2.2.2 i s hs
      rw [w60_64]
      simp only [w60_a, w60_b, sp1.2.2.2.2.2.1, rs.1, rs.2.1, hle, hle2, hcl, hib, hq, true_or, true_implies, not_true_eq_false, not_false_eq_true, false_implies, and_true, true_and]
      refine s61 sp1 ha hN.2 hsz.2.1 hb rs (hI9.zok (by omega)) fun h2 o2 rs2 zk2 => ?_
      simp only [w60_a, w60_b, Option.toList_none, List.nil_append, nI_1]
      obtain ⟨hlk, nw, hnw⟩ := hI9.look (by omega) hsz.2.2
      refine ih (i + 1) h2 _ (by omega) (by rw [hnw, List.length_append]; omega) (o.trans o2) rs2 ?_
      refine ⟨hlk.1, hlk.2.1, hlk.2.2.1, fun s' hs' => hlk.2.2.2 s' ?_⟩
      rcases hs' with q | ⟨j, hj, q⟩
      · exact Or.inl (Or.inl q)
      · rw [hnw, List.getElem?_append_left (by omega)] at q
        rcases Nat.lt_or_ge j i with q2 | q2
        · exact Or.inl (Or.inr ⟨j, q2, q⟩)
        · have : j = i := by omega
          subst this
          rw [hs] at q
          cases q
          exact Or.inr rfl
end Widen

/-- the levels stand in the heap -/
def RchW (h : AH) (N : Nat) (L : List Act) (l : Nat → Nat) : Prop := CS0 h ∧ DY h ∧ ActsHold h N L ∧ hI h 47 5 = nI N ∧ N ≤ hL h (hR h 47 2) ∧ ∀ x, x < N → hI h (hR h 47 2) x = nI (l x) ∧ l x < 128
def rA (h : AH) (x : Nat) : Prop := x = 47 ∨ x = hR h 47 2 ∨ x = hR h 31 0
/-- what widen leaves -/
def WFr (h h' : AH) (N : Nat) : Prop := Fr (rA h) (fun _ => False) h h' ∧ (∀ a j, a < hN h → ¬ (a = 31 ∧ j = 0) → ¬ (a = 47 ∧ j = 3) → hR h' a j = hR h a j) ∧ (∀ j, j ≠ 4 → hI h' 47 j = hI h 47 j) ∧ N ≤ hL h' (hR h' 31 0) ∧ (hR h' 31 0 = hR h 31 0 ∧ hN h' = hN h ∧ hS h' = hS h ∨ hL h (hR h 31 0) < N ∧ hN h' = hN h + 1 ∧ hS h' = hS h + N ∧ hR h' 31 0 = hN h ∧ hL h' (hR h' 31 0) = N)
theorem s60 {h : AH} {N b : Nat} {L : List Act} {l0 : Nat → Nat} {Q : Option Value → AH → Prop} (w : RchW h N L l0) (ha : ActsOK L) (hn9 : 0 < N ∧ N ≤ 16384) (hb : b + 1 < 99) (hok : LvOK L N b l0)
    (k : ∀ h' l', RchW h' N L l' → LvOK L N (b + 1) l' → WFr h h' N → Q none h') : WPM 60 [.ref 47, .int (nI (b + 1))] h Q := by
  obtain ⟨w1, w2, w3, w4, w5, w6⟩ := w
  rw [we60]
  simp only [w60_a, w60_b, w1, w4]
  refine row0 w1 w2 (by omega) fun h1 c1 d1 g1 f1 e1 en es eo => ?_
  have d0 := w2
  obtain ⟨p1, -, ⟨-, -, -, -, p4, -⟩, ⟨q0, -, -, -, q4, -⟩, ⟨-, -, -, -, o4, -⟩, -⟩ := d0
  have elv : hR h1 47 2 = hR h 47 2 := e1 47 2 (by omega) (by decide)
  obtain ⟨p1', ⟨t0', -, -, -, t4', -⟩, ⟨l0', -, -, -, l4', -⟩, ⟨b0', -, -, -, b4', -⟩, ⟨o0', -, -, -, o4', -⟩, ⟨-, -, -, n4', -⟩⟩ := id d1
  simp only [w60_a, w60_b, c1, hs_sR, hs_sI, Option.toList_some, List.cons_append, List.nil_append]
  obtain ⟨h2, eh2⟩ : ∃ h2, h2 = sI (sR h1 47 3 (hR h1 31 0)) 47 4 0 := ⟨_, rfl⟩
  rw [← eh2]
  have f2 : Fr (rA h) (fun _ => False) h1 h2 := by
    rw [eh2]
    exact (Fr.sR (by decide)).trans (OnlyI.fr (OnlyI.rf.sI 0 (Or.inl rfl)))
  have c2 : CS0 h2 := f2.cs p1' c1
  have eR2 : ∀ a j, ¬ (a = 47 ∧ j = 3) → hR h2 a j = hR h1 a j := fun a j hn => by
    rw [eh2]
    show hR (sR h1 47 3 (hR h1 31 0)) a j = _
    rw [hR_sR, if_neg hn]
  have e473 : hR h2 47 3 = hR h1 31 0 := by
    rw [eh2]
    show hR (sR h1 47 3 (hR h1 31 0)) 47 3 = _
    rw [hR_sR, if_pos ⟨rfl, rfl⟩]
  have eT2 : hT h2 = hT h1 := by rw [eh2]; rfl
  have eL2 : hL h2 = hL h1 := by rw [eh2]; rfl
  have eN2 : hN h2 = hN h1 := by rw [eh2]; rfl
  have eS2 : hS h2 = hS h1 := by rw [eh2]; rfl
  have eI2 : ∀ a, a ≠ 47 → hI h2 a = hI h1 a := fun a hn => by
    rw [eh2, hI_sI_o hn]
    rfl
  have eI47 : ∀ j, j ≠ 4 → hI h2 47 j = hI h1 47 j := fun j hn => by
    rw [eh2, hI_sI, if_neg (fun q => hn q.2)]
    rfl
  have eI474 : hI h2 47 4 = 0 := by rw [eh2, hI_sI, if_pos ⟨rfl, rfl⟩]
  have eI1 : ∀ a, a < hN h → hI h1 a = hI h a := fun a hn => (f1.2.2.1 a hn).2.2.1 (fun q => q)
  have d2 : DY h2 := by
    have z := d1
    unfold DY at z ⊢
    rw [eT2, eL2, eN2, eR2 31 0 (by decide), eR2 31 1 (by decide), eR2 31 2 (by decide), eR2 31 3 (by decide), eR2 47 2 (by decide), eR2 50 6 (by decide)]
    exact z
  obtain ⟨lv, hlv⟩ : ∃ lv, lv = hR h 47 2 := ⟨_, rfl⟩
  obtain ⟨fa, hfa⟩ : ∃ fa, fa = hR h1 31 0 := ⟨_, rfl⟩
  have hA2 : ActsHold h2 N L := by
    obtain ⟨x1, x2, x3⟩ := w3
    refine ⟨by rw [eI2 36 (by decide), eI1 36 (by omega)]; exact x1, fun j a hj => ?_, by rw [eI2 36 (by decide), eI1 36 (by omega)]; exact x3⟩
    have := x2 j a hj
    unfold actHeld at this ⊢
    rw [eI2 37 (by decide), eI1 37 (by omega), eI2 38 (by decide), eI1 38 (by omega), eI2 39 (by decide), eI1 39 (by omega), eI2 40 (by decide), eI1 40 (by omega), eI2 41 (by decide), eI1 41 (by omega)]
    exact this
  have hlvL : hL h2 lv = hL h lv := by rw [eL2, (f1.2.2.1 lv (by omega)).2.1]
  have sp2 : SpOK h2 lv fa N L := by
    refine ⟨by omega, by omega, by omega, c2.acts, hA2, ?_, ⟨by rw [hlvL, hlv]; exact w5, by rw [hlvL, hlv]; omega⟩, ⟨by rw [eL2, hfa]; exact g1, by rw [eL2, hfa]; omega⟩⟩
    refine ⟨by simp only [c2], by simp only [c2], by simp only [c2], by rw [eR2 47 2 (by decide), elv, hlv], by rw [e473, hfa], by rw [eT2, hlv, ← elv]; exact t4', by rw [eT2, hfa]; exact t0'⟩
  have rs2 : RS h2 lv fa N (l0, []) := by
    refine ⟨by rw [eI474]; rfl, by rw [eI47 5 (by decide), eI1 47 (by omega)]; exact w4, fun x hx => ?_, fun j x hj => by simp at hj⟩
    rw [eI2 lv (by omega), eI1 lv (by omega), hlv]
    exact w6 x hx
  have i0 : LvI L N (b + 1) l0 (fun s => s < 0 ∧ l0 s < b + 1 ∧ pc s = b) (l0, []) := ⟨List.nodup_nil, fun x hx => by simp at hx, fun x => by simp, fun s hs => absurd hs.1 (by omega)⟩
  refine widen_1 sp2 ha hn9 hb hok (fun h3 z o3 rs3 i3 => ?_) N 0 h2 (l0, []) (by omega) (by omega) O47.rf rs2 i0
  refine widen_2 (D := fun s => s < N ∧ l0 s < b + 1 ∧ pc s = b) sp2 ha hn9 hb (fun h4 z4 o4' rs4 i4 => ?_) N 0 h3 z (by omega) (by omega) o3 rs3 ⟨i3.1, i3.2.1, i3.2.2.1, fun s hs => i3.2.2.2 s (hs.elim id (fun q => absurd q.choose_spec.1 (by omega)))⟩
  have hok' := LvOK.more hn9.1 ha.2.1 hb hok (fun _ _ => trivial) i4 (fun s h1' h2' h3' => Or.inl ⟨h1', h2', h3'⟩) (fun s hs => Or.inr hs)
  obtain ⟨y1, y2, y3, y4, y5, y6, y7, y8⟩ := o4'
  have hlv4 : hR h4 47 2 = lv := by rw [y4, eR2 47 2 (by decide), elv, hlv]
  have f4 : Fr (rA h) (fun _ => False) h h4 := by
    have g2 : Fr (rA h) (fun _ => False) h h2 := (f1.mono (fun _ q => q.elim) (fun _ q => q)).trans f2
    obtain ⟨z1, z2, z3, z4'⟩ := g2
    refine ⟨by rw [y5]; exact z1, by rw [y6]; exact z2, fun a ha' => ?_, fun a j ha' hj => by rw [y4]; exact z4' a j ha' hj⟩
    obtain ⟨x1, x2, x3, x4⟩ := z3 a ha'
    refine ⟨by rw [y1]; exact x1, by rw [y2]; exact x2, fun hn => ?_, fun hn => by rw [y3]; exact x4 hn⟩
    rw [y7 a (fun q => hn ?_)]
    · exact x3 hn
    · rcases q with q | q | q
      · exact Or.inl q
      · exact Or.inr (Or.inl (by omega))
      · rcases eo with ⟨-, e2', -⟩ | ⟨-, -, e2', -⟩
        · exact Or.inr (Or.inr (by omega))
        · omega
  refine k h4 z4.1 ⟨f4.cs p1 w1, ?_, (sp2.only ⟨y1, y2, y3, y4, y5, y6, y7, y8⟩).2.2.2.2.1, by rw [y8 5 (by decide), eI47 5 (by decide), eI1 47 (by omega)]; exact w4, by rw [hlv4, y2, hlvL, hlv]; exact w5, fun x hx => by rw [hlv4]; exact rs4.2.2.1 x hx⟩ hok' ⟨f4, fun a j ha' n1 n2 => ?_, fun j hj => by rw [y8 j hj, eI47 j hj, eI1 47 (by omega)], ?_, ?_⟩
  · have z := d2
    unfold DY at z ⊢
    rw [y1, y2, y5, y4]
    exact z
  · rw [y4, eR2 a j n2]
    exact e1 a j ha' n1
  · rw [y4, y2, eL2, eR2 31 0 (by decide)]; exact g1
  · rw [y4, y2, y5, y6, eL2, eN2, eS2, eR2 31 0 (by decide)]
    rcases eo with ⟨x1, x2, x3⟩ | ⟨x1, x2, x3, x4, x5⟩
    · exact Or.inl ⟨x2, x1, x3⟩
    · exact Or.inr ⟨x2, x1, x5, x3, by rw [x3]; exact x4⟩

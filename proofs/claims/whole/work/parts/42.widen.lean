/-! ===== Reach.widen ===== -/
theorem nI_m1 (b : Nat) : nI (b + 1) - 1 = nI b := nI_pred b
section Widen
variable {h : AH} {lv qa N b : Nat} {L : List Act} {Q : Option Value → AH → Prop}
/-- what spread needs of the heap -/
def SpOK (h : AH) (lv qa N : Nat) (L : List Act) : Prop := (41 < lv ∧ lv ≠ 47) ∧ (41 < qa ∧ qa ≠ 47) ∧ lv ≠ qa ∧ F_acts h ∧ ActsHold h N L ∧ F_reach lv qa h ∧ (N ≤ hL h lv ∧ hL h lv < 2 ^ 31) ∧ (N ≤ hL h qa ∧ hL h qa < 2 ^ 31)
def ActsOK (L : List Act) : Prop := (∀ a ∈ L, actSm a) ∧ (∀ a ∈ L, actOne a) ∧ L.length ≤ 112
theorem SpOK.only {h1 : AH} (s : SpOK h lv qa N L) (o : OnlyI (rcA lv qa) h h1) : SpOK h1 lv qa N L := by
  obtain ⟨s1, s2, s3, s4, s5, s6, s7, s8⟩ := s
  refine ⟨s1, s2, s3, F_acts_of o.1 o.2.1 o.2.2.2.1 s4, s5.only o (by intro x h1 h2 q; unfold rcA at q; omega), F_reach_of o.1 o.2.2.2.1 s6, ?_, ?_⟩
  · rw [o.2.1]; exact s7
  · rw [o.2.1]; exact s8
theorem s61 {s : Nat} {z : LZ} (sp : SpOK h lv qa N L) (ha : ActsOK L) (hN : N ≤ 16384) (hs : s < N) (hb : b < 99) (rs : RS h lv qa N z) (zk : Zok N z) (k : ∀ h2, OnlyI (rcA lv qa) h h2 → RS h2 lv qa N (lxA L N b s z) → Zok N (lxA L N b s z) → Q none h2) : WPM 61 [.ref 47, .int (nI s), .int (nI b)] h Q := by
  obtain ⟨s1, s2, s3, s4, s5, s6, s7, s8⟩ := sp
  rw [we61]
  simp only [w61_a, w61_b]
  exact spread_l s1 s2 s3 s4 s5 ha.1 ha.2.2 s6 s7.1 s7.2 s8.1 s8.2 hN hs hb k L.length 0 h _ (by omega) (by omega) OnlyI.rf rs zk
theorem widen_1 {l0 : Nat → Nat} (sp : SpOK h lv qa N L) (ha : ActsOK L) (hN : 0 < N ∧ N ≤ 16384) (hb : b + 1 < 99) (hok : LvOK L N b l0)
    (k : ∀ h2 z, OnlyI (rcA lv qa) h h2 → RS h2 lv qa N z → LvI L N (b + 1) l0 (fun s => s < N ∧ l0 s < b + 1 ∧ pc s = b) z → WP 60 64 [.ref 47, .int (nI (b + 1)), .int 0] [] h2 Q) :
    ∀ d x h1 z, N - x = d → x ≤ N → OnlyI (rcA lv qa) h h1 → RS h1 lv qa N z → LvI L N (b + 1) l0 (fun s => s < x ∧ l0 s < b + 1 ∧ pc s = b) z → WP 60 22 [.ref 47, .int (nI (b + 1)), .int (nI x)] [] h1 Q := by
  intro d
  induction d with
  | zero =>
    intro x h1 z hd hx o rs hI9
    have hxN : x = N := by omega
    subst hxN
    have sp1 := sp.only o
    have hle : nI x ≤ nI x := nI_le (Nat.le_refl _) (by omega)
    rw [w60_22]
    simp only [w60_a, w60_b, sp1.2.2.2.2.2.1, rs.2.1, hle, true_implies, not_true_eq_false, false_implies, and_true]
    exact k h1 z o rs hI9
  | succ d ih =>
    intro x h1 z hd hx o rs hI9
    have hxN : x < N := by omega
    have sp1 := sp.only o
    have hle : ¬ nI N ≤ nI x := nI_ge hxN (by omega)
    have hcl : (nI x).toNatClampNeg = x := nI_clamp (by omega)
    have hib : inb (nI x) (hL h1 lv) = true := inb_nI (by have := sp1.2.2.2.2.2.2.1.1; omega) sp1.2.2.2.2.2.2.1.2
    have hr3 := rs.2.2.1 x hxN
    have hzx := hI9.2.2.1 x
    have hlt : (z.1 x < b + 1) ↔ l0 x < b + 1 := by
      rw [hzx]
      by_cases hm : x ∈ z.2
      · rw [if_pos hm]
        have := (hI9.2.1 x hm).1
        omega
      · rw [if_neg hm]
    have hbc : bcI (nI x) = nI (pc x) := bc_pc (by omega)
    have skip : (¬ (l0 x < b + 1 ∧ pc x = b)) → LvI L N (b + 1) l0 (fun s => s < x + 1 ∧ l0 s < b + 1 ∧ pc s = b) z := fun hn => by
      refine ⟨hI9.1, hI9.2.1, hI9.2.2.1, fun s hs => ?_⟩
      refine hI9.2.2.2 s ⟨?_, hs.2⟩
      rcases Nat.lt_or_ge s x with q | q
      · exact q
      · have : s = x := by omega
        subst this
        exact absurd hs.2 hn
    rw [w60_22]
    by_cases h1' : l0 x < b + 1
    · have hcm : ¬ nI (b + 1) ≤ nI (z.1 x) := nI_ge (hlt.mpr h1') (by omega)
      by_cases h2' : pc x = b
      · have hbb : nI (pc x) = nI b := by rw [h2']
        simp only [w60_a, w60_b, sp1.2.2.2.2.2.1, rs.2.1, hle, hcl, hib, hr3.1, hcm, s218, hbc, nI_m1, hbb, true_or, Option.toList_some, List.cons_append, List.nil_append, true_implies, not_true_eq_false, not_false_eq_true, false_implies, and_true, true_and]
        have hRx : Rch L N (b + 1) x := (((hok x hxN).1 b (Nat.le_refl _)).mp (by omega)).mono (by omega)
        refine s61 sp1 ha hN.2 hxN hb rs (hI9.zok (by omega)) fun h2 o2 rs2 zk2 => ?_
        simp only [w60_a, w60_b, Option.toList_none, List.nil_append, nI_1]
        refine ih (x + 1) h2 _ (by omega) (by omega) (o.trans o2) rs2 ?_
        have hlk := (hI9.look (by omega) hRx).1
        refine ⟨hlk.1, hlk.2.1, hlk.2.2.1, fun s hs => hlk.2.2.2 s ?_⟩
        rcases Nat.lt_or_ge s x with q | q
        · exact Or.inl ⟨q, hs.2⟩
        · exact Or.inr (by omega)
      · have hbb : ¬ nI (pc x) = nI b := fun q => h2' (nI_inj (by have := pc_le x; omega) (by omega) q)
        simp only [w60_a, w60_b, sp1.2.2.2.2.2.1, rs.2.1, hle, hcl, hib, hr3.1, hcm, s218, hbc, nI_m1, hbb, true_or, Option.toList_some, List.cons_append, List.nil_append, true_implies, not_true_eq_false, not_false_eq_true, false_implies, and_true, true_and, nI_1]
        exact ih (x + 1) h1 z (by omega) (by omega) o rs (skip (fun q => h2' q.2))
    · have hcm : nI (b + 1) ≤ nI (z.1 x) := nI_le (by have := mt hlt.mp h1'; omega) (by omega)
      simp only [w60_a, w60_b, sp1.2.2.2.2.2.1, rs.2.1, hle, hcl, hib, hr3.1, hcm, true_or, true_implies, not_true_eq_false, not_false_eq_true, false_implies, and_true, true_and, nI_1]
      exact ih (x + 1) h1 z (by omega) (by omega) o rs (skip (fun q => h1' q.1))
theorem widen_2 {l0 : Nat → Nat} {D : Nat → Prop} (sp : SpOK h lv qa N L) (ha : ActsOK L) (hN : 0 < N ∧ N ≤ 16384) (hb : b + 1 < 99)
    (k : ∀ h2 z, OnlyI (rcA lv qa) h h2 → RS h2 lv qa N z → LvI L N (b + 1) l0 (fun s => D s ∨ s ∈ z.2) z → Q none h2) :
    ∀ d i h1 z, N - i = d → i ≤ z.2.length → OnlyI (rcA lv qa) h h1 → RS h1 lv qa N z → LvI L N (b + 1) l0 (fun s => D s ∨ ∃ j, j < i ∧ z.2[j]? = some s) z → WP 60 64 [.ref 47, .int (nI (b + 1)), .int (nI i)] [] h1 Q := by
  intro d
  induction d with
  | zero =>
    intro i h1 z hd hi o rs hI9
    have sp1 := sp.only o
    have hlen : z.2.length ≤ N := by
      have := List.Nodup.length_le_of_subset hI9.1 (show z.2 ⊆ List.range N from fun x hx => List.mem_range.mpr (hI9.2.1 x hx).2.1)
      simpa using this
    have hle : nI z.2.length ≤ nI i := nI_le (by omega) (by omega)
    rw [w60_64]
    simp only [w60_a, w60_b, sp1.2.2.2.2.2.1, rs.1, hle, true_implies, not_true_eq_false, false_implies, and_true]
    refine k h1 z o rs ⟨hI9.1, hI9.2.1, hI9.2.2.1, fun s hs => hI9.2.2.2 s ?_⟩
    rcases hs with q | q
    · exact Or.inl q
    · obtain ⟨j, hj⟩ := List.getElem?_of_mem q
      have := (List.getElem?_eq_some_iff.mp hj).1
      exact Or.inr ⟨j, by omega, hj⟩
  | succ d ih =>
    intro i h1 z hd hi o rs hI9
    have sp1 := sp.only o
    by_cases hil : i = z.2.length
    · have hle : nI z.2.length ≤ nI i := nI_le (by omega) (by omega)
      rw [w60_64]
      simp only [w60_a, w60_b, sp1.2.2.2.2.2.1, rs.1, hle, true_implies, not_true_eq_false, false_implies, and_true]
      refine k h1 z o rs ⟨hI9.1, hI9.2.1, hI9.2.2.1, fun s hs => hI9.2.2.2 s ?_⟩
      rcases hs with q | q
      · exact Or.inl q
      · obtain ⟨j, hj⟩ := List.getElem?_of_mem q
        have := (List.getElem?_eq_some_iff.mp hj).1
        exact Or.inr ⟨j, by omega, hj⟩
    · have hlt : i < z.2.length := by omega
      have hlen : z.2.length ≤ N := by
        have := List.Nodup.length_le_of_subset hI9.1 (show z.2 ⊆ List.range N from fun x hx => List.mem_range.mpr (hI9.2.1 x hx).2.1)
        simpa using this
      obtain ⟨s, hs⟩ : ∃ s, z.2[i]? = some s := ⟨_, List.getElem?_eq_getElem hlt⟩
      have hsz := hI9.2.1 s (List.mem_of_getElem? hs)
      have hle : ¬ nI z.2.length ≤ nI i := nI_ge hlt (by omega)
      have hle2 : ¬ nI N ≤ nI i := nI_ge (by omega) (by omega)
      have hcl : (nI i).toNatClampNeg = i := nI_clamp (by omega)
      have hib : inb (nI i) (hL h1 qa) = true := inb_nI (by have := sp1.2.2.2.2.2.2.2.1; omega) sp1.2.2.2.2.2.2.2.2
      have hq := rs.2.2.2 i s hs
      rw [w60_64]
      simp only [w60_a, w60_b, sp1.2.2.2.2.2.1, rs.1, rs.2.1, hle, hle2, hcl, hib, hq, true_or, true_implies, not_true_eq_false, not_false_eq_true, false_implies, and_true, true_and]
      refine s61 sp1 ha hN.2 hsz.2.1 hb rs (hI9.zok (by omega)) fun h2 o2 rs2 zk2 => ?_
      simp only [w60_a, w60_b, Option.toList_none, List.nil_append, nI_1]
      obtain ⟨hlk, nw, hnw⟩ := hI9.look (by omega) hsz.2.2
      refine ih (i + 1) h2 _ (by omega) (by rw [hnw, List.length_append]; omega) (o.trans o2) rs2 ?_
      refine ⟨hlk.1, hlk.2.1, hlk.2.2.1, fun s' hs' => hlk.2.2.2 s' ?_⟩
      rcases hs' with q | ⟨j, hj, q⟩
      · exact Or.inl (Or.inl q)
      · rw [hnw, List.getElem?_append_left (by omega)] at q
        rcases Nat.lt_or_ge j i with q2 | q2
        · exact Or.inl (Or.inr ⟨j, q2, q⟩)
        · have : j = i := by omega
          subst this
          rw [hs] at q
          cases q
          exact Or.inr rfl
end Widen

/-! ===== Orders.search, bowlsOf ===== -/
def OHp (h : AH) (lr pr : Nat) (lf g : Nat → Int32) (pa : Nat → Int64) : AH :=
  (hT h, hL h, fun a => if a = lr then lf else if a = 60 then g else hI h a, fun a => if a = pr then pa else hJ h a, hR h, hN h, hS h)
theorem OHp_I (h : AH) (lr pr : Nat) (lf g : Nat → Int32) (pa : Nat → Int64) (a : Nat) : hI (OHp h lr pr lf g pa) a = if a = lr then lf else if a = 60 then g else hI h a := rfl
theorem OHp_J (h : AH) (lr pr : Nat) (lf g : Nat → Int32) (pa : Nat → Int64) (a : Nat) : hJ (OHp h lr pr lf g pa) a = if a = pr then pa else hJ h a := rfl
theorem OHp_r {h : AH} {lr pr : Nat} (n1 : lr ≠ 60) : ∀ lf g pa, hT (OHp h lr pr lf g pa) = hT h ∧ hL (OHp h lr pr lf g pa) = hL h ∧ hR (OHp h lr pr lf g pa) = hR h ∧ hI (OHp h lr pr lf g pa) lr = lf ∧ hI (OHp h lr pr lf g pa) 60 = g ∧ hJ (OHp h lr pr lf g pa) pr = pa ∧
    (∀ k v, sI (OHp h lr pr lf g pa) lr k v = OHp h lr pr (va_up lf k v) g pa) ∧ (∀ g', setI (OHp h lr pr lf g pa) 60 g' = OHp h lr pr lf g' pa) ∧ ∀ k v, sJ (OHp h lr pr lf g pa) pr k v = OHp h lr pr lf g (va_up pa k v) := by
  intro lf g pa
  have n1' := Ne.symm n1
  refine ⟨rfl, rfl, rfl, ?_, ?_, ?_, fun k v => ?_, fun g' => ?_, fun k v => ?_⟩
  · rw [OHp_I, if_pos rfl]
  · rw [OHp_I, if_neg n1', if_pos rfl]
  · rw [OHp_J, if_pos rfl]
  · rw [sI_as]
    refine ah_ext rfl rfl ?_ rfl rfl rfl rfl
    funext a
    rw [hI_setI, OHp_I, OHp_I, OHp_I, if_pos rfl]
    by_cases e : a = lr
    · simp only [e, if_true]
    · simp only [e, if_false]
  · refine ah_ext rfl rfl ?_ rfl rfl rfl rfl
    funext a
    rw [hI_setI, OHp_I, OHp_I]
    by_cases e : a = 60
    · simp only [e, if_true, n1', if_false]
    · simp only [e, if_false]
  · rw [sJ_as]
    refine ah_ext rfl rfl rfl ?_ rfl rfl rfl
    funext a
    rw [hJ_setJ, OHp_J, OHp_J, OHp_J, if_pos rfl]
    by_cases e : a = pr
    · simp only [e, if_true]
    · simp only [e, if_false]
theorem OHp_id {h : AH} {lr pr : Nat} : OHp h lr pr (hI h lr) (hI h 60) (hJ h pr) = h := by
  refine ah_ext rfl rfl ?_ ?_ rfl rfl rfl
  · funext a
    rw [OHp_I]
    by_cases e1 : a = lr
    · rw [if_pos e1, e1]
    · rw [if_neg e1]
      by_cases e2 : a = 60
      · rw [if_pos e2, e2]
      · rw [if_neg e2]
  · funext a
    rw [OHp_J]
    by_cases e1 : a = pr
    · rw [if_pos e1, e1]
    · rw [if_neg e1]
theorem OHp_only {h : AH} {lr pr : Nat} {lf g : Nat → Int32} {pa : Nat → Int64} : OnlyIJ (fun a => a = lr ∨ a = 60) (fun a => a = pr) h (OHp h lr pr lf g pa) :=
  ⟨rfl, rfl, rfl, rfl, rfl, fun a ha => by rw [OHp_I, if_neg (fun z => ha (Or.inl z)), if_neg (fun z => ha (Or.inr z))], fun a ha => by rw [OHp_J, if_neg ha]⟩
theorem NetO.ij {A J : Nat → Prop} {h h1 : AH} {kn n : Nat} {P : Nat → Nat} {nd wi : Nat} {U : Nat → Nat} (o : OnlyIJ A J h h1) (hk : ∀ a, kn ≤ a → a ≤ kn + 10 → ¬ A a) (x : NetO h kn n P nd wi U) : NetO h1 kn n P nd wi U := by
  obtain ⟨⟨f, x0, x5, x6⟩, x2, x3, x4⟩ := x
  have e := o.2.2.2.2.2.1
  have e0 := e kn (hk kn (by omega) (by omega))
  refine ⟨⟨?_, by rw [e0]; exact x0, x5, by rw [e (kn + 3) (hk (kn + 3) (by omega) (by omega))]; exact x6⟩, by rw [e0]; exact x2, by rw [e0]; exact x3, by rw [e (kn + 5) (hk (kn + 5) (by omega) (by omega))]; exact x4⟩
  unfold F_net
  rw [o.1, o.2.1, o.2.2.1]
  exact f
section Orders2
variable {h : AH} {B M kn n nd wi w best lr pr : Nat} {P U : Nat → Nat} {Q : Option Value → AH → Prop}
/-- what the search needs of the heap -/
def OX (h : AH) (lr pr nd : Nat) : Prop := (hT h 60 = 5 ∧ hR h 60 5 = 63 ∧ hT h 63 = 100 ∧ hL h 63 = 14 ∧ hR h 60 1 = lr ∧ hR h 60 2 = pr ∧ hT h lr = 100 ∧ hT h pr = 103) ∧ (nd < hL h lr ∧ hL h lr ≤ 65536 ∧ nd < hL h pr ∧ hL h pr ≤ 65536) ∧ lr ≠ 60 ∧ lr ≠ 63 ∧ pr ≠ 60 ∧ ∀ a, a < 27 → a ≠ lr
/-- the least bowls, set by set -/
def LOk (n : Nat) (P : Nat → Nat) (nd wi w : Nat) (lf : Nat → Int32) (m : Nat) : Prop := ∀ s, m ≤ s → s ≤ nd → (Dwn n P nd s → lf s = nI (LO n P nd wi w (rk nd s) s)) ∧ (¬ Dwn n P nd s → lf s = nI 99)
theorem once_1 (x : OX h lr pr nd) (hx : NetO h kn n P nd wi U) (ok : NdOK n P nd wi U) (hw : w < 2) (hkn : kn + 10 < 27)
    (k : ∀ lf g pa, LOk n P nd wi w lf 0 → (∀ j, j ≠ 3 → j ≠ 4 → g j = hI h 60 j) → WP 34 76 [.ref 60, .ref kn, .int (nI w), .int (-1), .retAddr 0] [.int 0, .ref lr] (OHp h lr pr lf g pa) Q) :
    ∀ m lf g pa, m ≤ nd + 1 → LOk n P nd wi w lf m → (∀ j, j ≠ 3 → j ≠ 4 → g j = hI h 60 j) → WP 34 35 [.ref 60, .ref kn, .int (nI w), .int (mkI m), .retAddr 0] [] (OHp h lr pr lf g pa) Q := by
  obtain ⟨⟨a1, a2, a3, a4, a5, a6, a7, a8⟩, ⟨l1, l2, l3, l4⟩, n1, n2, n4, n3⟩ := x
  obtain ⟨s1, s2, s3, s4, s5⟩ := ok.sm
  have hr := OHp_r (h := h) (pr := pr) n1
  have hxO : ∀ lf g pa, NetO (OHp h lr pr lf g pa) kn n P nd wi U := fun lf g pa => NetO.ij OHp_only (fun a z1 z2 => by have := n3 a (by omega); omega) hx
  intro m
  induction m with
  | zero =>
    intro lf g pa hm hlo hg
    rw [w34_35]
    simp only [w34_a, hr, a1, a5, mkI, if_true, show ((-1 : Int32) < 0) from by decide, true_implies, not_true_eq_false, false_implies, and_true]
    exact k lf g pa hlo hg
  | succ m ih =>
    intro lf g pa hm hlo hg
    have e : mkI (m + 1) = nI m := by unfold mkI; rw [if_neg (Nat.succ_ne_zero _), Nat.add_sub_cancel]
    have g0 : ¬ nI m < 0 := nI_pos (by omega)
    have c1 : (nI m).toNatClampNeg = m := nI_clamp (by omega)
    have i1 : inb (nI m) (hL h lr) = true := inb_nI (by omega) (by omega)
    rw [w34_35]
    simp only [w34_a, hr, a1, a5, e, g0, true_implies, not_false_eq_true, false_implies, true_and]
    refine s35 (hxO lf g pa) ok (by omega) (fun hD => ?_) (fun hD => ?_)
    · simp only [w34_a, a1, hr, i32_10, Option.toList_some, List.cons_append, List.nil_append, true_implies, not_true_eq_false, not_false_eq_true, false_implies, and_true, true_and]
      refine s36 (lr := lr) (hxO lf g pa) ok hw (by omega) a1 hD a5 a7 ⟨l1, l2⟩ n1 (fun y hy hmc => ?_) fun g' hg' => ?_
      · have hor := or_le ok hD hmc
        have hlt : m < m ||| 2 ^ y := by
          obtain ⟨-, m2, -⟩ := mayC_iff.mp hmc
          have h1 : m ≤ m ||| 2 ^ y := Nat.left_le_or
          rcases Nat.eq_or_lt_of_le h1 with z | z
          · have h3 := congrArg (fun v => v.testBit y) z
            simp only [bit_or_pow, m2] at h3
            simp at h3
          · exact z
        show hI (OHp h lr pr lf g pa) lr (m ||| 2 ^ y) = _
        rw [(hr lf g pa).2.2.2.1]
        exact (hlo _ hlt hor).1 (hD.add hmc)
      · simp only [w34_a, hr, a7, c1, i1, m1_mk, Option.toList_some, List.cons_append, List.nil_append, true_or, or_true, true_implies, not_true_eq_false, not_false_eq_true, false_implies, and_true, true_and]
        refine ih _ g' pa (by omega) (fun s hs1 hs2 => ?_) (fun j j3 j4 => by rw [hg' j j3 j4, (hr lf g pa).2.2.2.2.1]; exact hg j j3 j4)
        rw [up_at]
        by_cases q : s = m
        · subst q
          rw [if_pos rfl]
          exact ⟨fun _ => rfl, fun z => absurd hD z⟩
        · rw [if_neg q]
          exact hlo s (by omega) hs2
    · simp only [w34_a, a1, a7, hr, c1, i1, m1_mk, Option.toList_some, List.cons_append, List.nil_append, true_or, or_true, true_implies, not_true_eq_false, not_false_eq_true, false_implies, and_true, true_and]
      refine ih _ g pa (by omega) (fun s hs1 hs2 => ?_) hg
      rw [up_at]
      by_cases q : s = m
      · subst q
        rw [if_pos rfl]
        exact ⟨fun z => absurd z hD, fun _ => rfl⟩
      · rw [if_neg q]
        exact hlo s (by omega) hs2
/-- what the search leaves -/
def OW (h : AH) (ord : List Nat) (many : Nat) : Prop := hI h 60 6 = nI ord.length ∧ hJ h 60 7 = lN many ∧ ord.length ≤ 14 ∧ ∀ j v, ord[j]? = some v → hI h 63 j = nI v
theorem rk_0 : rk nd 0 = pc nd := by
  unfold rk
  congr 1
  apply Nat.eq_of_testBit_eq
  intro j
  rw [sdf_bit, Nat.zero_testBit]
  simp
theorem once_2 {lf : Nat → Int32} (x : OX h lr pr nd) (hx : NetO h kn n P nd wi U) (ok : NdOK n P nd wi U) (hw : w < 2) (hkn : kn + 10 < 27) (hbest : best = LO n P nd wi w (pc nd) 0) (hb15 : best ≤ 15) (hlo : LOk n P nd wi w lf 0)
    (k : ∀ h', OnlyIJ (fun a => a = lr ∨ a = 60 ∨ a = 63) (fun a => a = pr ∨ a = 60) h h' → OW h' (FO n P nd wi w best (pc nd) 0) (PO n P nd wi w best (pc nd) 0) → Q (some (.int (nI best))) h') :
    ∀ m g pa, m ≤ nd + 1 → (∀ s, m ≤ s → s ≤ nd → Dwn n P nd s → pa s = lN (PO n P nd wi w best (rk nd s) s)) → (∀ j, j ≠ 3 → j ≠ 4 → g j = hI h 60 j) → WP 34 84 [.ref 60, .ref kn, .int (nI w), .int (nI best), .int (mkI m)] [] (OHp h lr pr lf g pa) Q := by
  obtain ⟨⟨a1, a2, a3, a4, a5, a6, a7, a8⟩, ⟨l1, l2, l3, l4⟩, n1, n2, n4, n3⟩ := x
  obtain ⟨s1, s2, s3, s4, s5⟩ := ok.sm
  have hr := OHp_r (h := h) (pr := pr) n1
  have hxO : ∀ lf g pa, NetO (OHp h lr pr lf g pa) kn n P nd wi U := fun lf g pa => NetO.ij OHp_only (fun a z1 z2 => by have := n3 a (by omega); omega) hx
  intro m
  induction m with
  | zero =>
    intro g pa hm hpa hg
    have i0 : inb 0 (hL h pr) = true := inb_nI (k := 0) (by omega) (by omega)
    rw [w34_84]
    simp only [w34_b, hr, a1, a6, a8, i0, cl_0, mkI, if_true, hs_sJ, show ((-1 : Int32) < 0) from by decide, true_implies, not_true_eq_false, false_implies, and_true]
    have oH : OnlyIJ (fun a => a = lr ∨ a = 60 ∨ a = 63) (fun a => a = pr ∨ a = 60) h (sJ (OHp h lr pr lf g pa) 60 7 (pa 0)) := (OHp_only.mono (fun a q => by rcases q with q | q; exact Or.inl q; exact Or.inr (Or.inl q)) (fun a q => Or.inl q)).sJ _ (Or.inr rfl)
    have hxH : NetO (sJ (OHp h lr pr lf g pa) 60 7 (pa 0)) kn n P nd wi U := NetO.ij oH (fun a z1 z2 => by have := n3 a (by omega); omega) hx
    have hp0 := hpa 0 (Nat.le_refl _) (Nat.zero_le _) Dwn.zero
    rw [rk_0] at hp0
    refine s38 (h := sJ (OHp h lr pr lf g pa) 60 7 (pa 0)) (pr := pr) hxH ok hw (by omega) (by omega) a1 a2 ⟨a3, a4⟩ a6 a8 ⟨l3, l4⟩ (fun s hs => ?_) ((PO_pos (by omega) _ _).mpr (by rw [← hbest]; exact Nat.le_refl _)) fun g' f' hg' g6 hf' => ?_
    · rw [hJ_sJ, if_neg (fun z => n4 z.1), (hr lf g pa).2.2.2.2.2.1]
      exact hpa s (Nat.zero_le _) (sub_le hs.1) hs
    · simp only [w34_b, Option.toList_none, List.nil_append]
      have hlen := FO_len (n := n) (P := P) (nd := nd) (wi := wi) (w := w) (best := best) (pc nd) 0 ((PO_pos (by omega) _ _).mpr (by rw [← hbest]; exact Nat.le_refl _))
      refine k _ (oH.trans ((OnlyI.mono KHp_only (fun a q => Or.inr q)).ij)) ⟨?_, ?_, ?_, fun j v hj => ?_⟩
      · rw [hlen, (KHp_r (sJ (OHp h lr pr lf g pa) 60 7 (pa 0)) g' f').2.2.2.2.1]
        exact g6
      · show hJ (sJ (OHp h lr pr lf g pa) 60 7 (pa 0)) 60 7 = _
        rw [hJ_sJ, if_pos ⟨rfl, rfl⟩]
        exact hp0
      · rw [hlen]
        exact Nat.le_trans (pc_lt ok.2.1 (by omega)) s1
      · show hI (KHp (sJ (OHp h lr pr lf g pa) 60 7 (pa 0)) g' f') 63 j = nI v
        unfold KHp
        rw [hI_setI, if_neg (by decide), hI_setI, if_pos rfl]
        exact hf' j v hj
  | succ m ih =>
    intro g pa hm hpa hg
    have e : mkI (m + 1) = nI m := by unfold mkI; rw [if_neg (Nat.succ_ne_zero _), Nat.add_sub_cancel]
    have g0 : ¬ nI m < 0 := nI_pos (by omega)
    have c1 : (nI m).toNatClampNeg = m := nI_clamp (by omega)
    have i1 : inb (nI m) (hL h lr) = true := inb_nI (by omega) (by omega)
    have i2 : inb (nI m) (hL h pr) = true := inb_nI (by omega) (by omega)
    obtain ⟨v1, v2⟩ := hlo m (Nat.zero_le _) (by omega)
    have next : ∀ g', (∀ j, j ≠ 3 → j ≠ 4 → g' j = hI h 60 j) → ∀ v, (Dwn n P nd m → v = lN (PO n P nd wi w best (rk nd m) m)) → WP 34 84 [.ref 60, .ref kn, .int (nI w), .int (nI best), .int (mkI m)] [] (OHp h lr pr lf g' (va_up pa m v)) Q := fun g' hg' v hv => ih g' _ (by omega) (fun s hs1 hs2 hs => by
      rw [up_at]
      by_cases q : s = m
      · subst q
        rw [if_pos rfl]
        exact hv hs
      · rw [if_neg q]
        exact hpa s (by omega) hs2 hs) hg'
    rw [w34_84]
    by_cases hD : Dwn n P nd m
    · have hv1 := v1 hD
      have h99 := LO_99 (n := n) (P := P) (nd := nd) (wi := wi) (w := w) (rk nd m) m
      by_cases q : LO n P nd wi w (rk nd m) m ≤ best
      · have hlt : ¬ nI best < nI (LO n P nd wi w (rk nd m) m) := nI_nlt q (by omega)
        simp only [w34_b, hr, a1, a5, a6, a7, e, g0, c1, i1, hv1, hlt, true_or, or_true, true_implies, not_true_eq_false, not_false_eq_true, false_implies, and_true, true_and]
        refine s37 (pr := pr) (hxO lf g pa) ok hw (by omega) (by omega) a1 hD a6 a8 ⟨l3, l4⟩ (fun y hy hmc => ?_) fun g' hg' => ?_
        · have hor := or_le ok hD hmc
          have hlt : m < m ||| 2 ^ y := by
            obtain ⟨-, m2, -⟩ := mayC_iff.mp hmc
            have h1 : m ≤ m ||| 2 ^ y := Nat.left_le_or
            rcases Nat.eq_or_lt_of_le h1 with z | z
            · have h3 := congrArg (fun v => v.testBit y) z
              simp only [bit_or_pow, m2] at h3
              simp at h3
            · exact z
          rw [(hr lf g pa).2.2.2.2.2.1]
          exact hpa _ hlt hor (hD.add hmc)
        · simp only [w34_b, hr, a8, c1, i2, m1_mk, Option.toList_some, List.cons_append, List.nil_append, true_or, or_true, true_implies, not_true_eq_false, not_false_eq_true, false_implies, and_true, true_and]
          exact next g' (fun j j3 j4 => by rw [hg' j j3 j4, (hr lf g pa).2.2.2.2.1]; exact hg j j3 j4) _ (fun _ => rfl)
      · have hlt : nI best < nI (LO n P nd wi w (rk nd m) m) := nI_lt (by omega) (by omega)
        simp only [w34_b, hr, a1, a5, a6, a7, a8, e, g0, c1, i1, i2, hv1, hlt, m1_mk, true_or, or_true, true_implies, not_true_eq_false, not_false_eq_true, false_implies, and_true, true_and]
        refine next g hg _ fun _ => ?_
        have : ¬ 0 < PO n P nd wi w best (rk nd m) m := fun z => q ((PO_pos (by omega) _ _).mp z)
        rw [show PO n P nd wi w best (rk nd m) m = 0 by omega]
        rfl
    · have hv2 := v2 hD
      have hlt : nI best < nI 99 := nI_lt (by omega) (by decide)
      simp only [w34_b, hr, a1, a5, a6, a7, a8, e, g0, c1, i1, i2, hv2, hlt, m1_mk, true_or, or_true, true_implies, not_true_eq_false, not_false_eq_true, false_implies, and_true, true_and]
      exact next g hg _ fun z => absurd z hD
def orA (a : Nat) : Prop := a = 60 ∨ a = 63
theorem s34 (cw : CW B M h) (hkn : kn = 4 ∨ kn = 15) (hx : NetO h kn n P nd wi U) (ok : NdOK n P nd wi U) (hw : w < 2)
    (k : ∀ h' B' M', ((B' = B ∧ M' = M) ∨ (B' ≤ B + 32768 ∧ M' ≤ M + 2 ∧ (hL h (hR h 31 0) < nd + 1 ∨ hL h (hR h 31 3) < nd + 1))) → nd + 1 ≤ hL h' (hR h' 31 0) → nd + 1 ≤ hL h' (hR h' 31 3) → CW B' M' h' → CFr orA (fun a => a = 60) h h' → OW h' (FO n P nd wi w (LO n P nd wi w (pc nd) 0) (pc nd) 0) (PO n P nd wi w (LO n P nd wi w (pc nd) 0) (pc nd) 0) → Q (some (.int (nI (LO n P nd wi w (pc nd) 0)))) h') : WPM 34 [.ref 60, .ref kn, .int (nI w)] h Q := by
  obtain ⟨s1, s2, s3, s4, s5⟩ := ok.sm
  have hb15 : LO n P nd wi w (pc nd) 0 ≤ 15 := LO_small ok.1 ok.2.1 ok.2.2.2.1 (pc nd) 0 Dwn.zero rk_0
  have a1 : hT h 60 = 5 := by simp only [cw.1]
  have a2 : hR h 60 0 = 31 := by simp only [cw.1]
  have a3 : hT h 31 = 3 := by simp only [cw.1]
  have hf := hx.1.1
  have h3 := hx.2.2.1
  have hm1 : 2 ^ n ∈ sizes1 := pow_sizes1 s1
  have hm : 2 ^ n ∈ sizes := s1_s hm1
  have hpw : (1 : Int32) <<< (nI n &&& 31) = nI (2 ^ n) := nI_pow n (by omega)
  have hk0 := hx.1.2.1
  have hnd := ok.2.1
  have d := cw.2.1
  rw [we34]
  simp only [w34_a, s25 hf, hk0, hpw, a1, a2, a3, hf, Option.toList_some, List.cons_append, List.nil_append]
  refine row0w cw hm fun h1 cw1 cf1 le1 eo1 => ?_
  have b1 : hT h1 60 = 5 := by simp only [cw1.1]
  have cw1' := cw1.setR (a := 60) (k := 1) (v := hR h1 31 0) (by decide)
  have b2 : hT (sR h1 60 1 (hR h1 31 0)) 60 = 5 := by simp only [cw1'.1]
  have b3 : hR (sR h1 60 1 (hR h1 31 0)) 60 0 = 31 := by simp only [cw1'.1]
  have b4 : hT (sR h1 60 1 (hR h1 31 0)) 31 = 3 := by simp only [cw1'.1]
  have cf1' : CFr (fun _ => False) (fun _ => False) h (sR h1 60 1 (hR h1 31 0)) := cf1.trans' (CFr.setR (by decide))
  have g1 : hR (sR h1 60 1 (hR h1 31 0)) 60 1 = hR (sR h1 60 1 (hR h1 31 0)) 31 0 := by rw [hR_sR, hR_sR, if_pos ⟨rfl, rfl⟩, if_neg (by decide)]
  have g3 : nd + 1 ≤ hL (sR h1 60 1 (hR h1 31 0)) (hR (sR h1 60 1 (hR h1 31 0)) 31 0) := by rw [hR_sR, if_neg (by decide)]; exact Nat.le_trans hnd le1
  have kT : hT h1 kn = 4 := by rcases hkn with rfl | rfl; exact cw1.1.net4.1; exact cw1.1.net15.1
  have kT' : hT (sR h1 60 1 (hR h1 31 0)) kn = 4 := kT
  have hp2 : NetP (sR h1 60 1 (hR h1 31 0)) kn n P := hx.1.cfr cf1' cw cw1' hkn id id
  simp only [w34_a, s25 hp2.1, hp2.2.1, hpw, b1, b2, b3, b4, kT', Option.toList_some, List.cons_append, List.nil_append]
  generalize sR h1 60 1 (hR h1 31 0) = h2' at *
  have d2 := cw1'.2.1
  refine row3w cw1' hm1 fun h5 cw5 cf5 le5 eo5 => ?_
  have b9 : hT h5 60 = 5 := by simp only [cw5.1]
  have cw5' := cw5.setR (a := 60) (k := 2) (v := hR h5 31 3) (by decide)
  have cf5' : CFr (fun _ => False) (fun _ => False) h (sR h5 60 2 (hR h5 31 3)) := (cf1'.trans' cf5).trans' (CFr.setR (by decide))
  have v0 : hR h5 31 0 = hR h2' 31 0 := eo5 31 0 (by have := d2.1; omega) (by decide)
  have q1 : hR (sR h5 60 2 (hR h5 31 3)) 60 1 = hR (sR h5 60 2 (hR h5 31 3)) 31 0 := by
    rw [hR_sR, hR_sR, if_neg (by decide), if_neg (by decide), eo5 60 1 (by have := d2.1; omega) (by decide), v0]
    exact g1
  have q3 : hR (sR h5 60 2 (hR h5 31 3)) 60 2 = hR (sR h5 60 2 (hR h5 31 3)) 31 3 := by rw [hR_sR, hR_sR, if_pos ⟨rfl, rfl⟩, if_neg (by decide)]
  have q7 : nd + 1 ≤ hL (sR h5 60 2 (hR h5 31 3)) (hR (sR h5 60 2 (hR h5 31 3)) 31 0) := by
    rw [hR_sR, if_neg (by decide), v0]
    show nd + 1 ≤ hL h5 (hR h2' 31 0)
    rw [(cf5.1.2.2.1 (hR h2' 31 0) cw1'.bl.1).2.1]
    exact g3
  have q9 : nd + 1 ≤ hL (sR h5 60 2 (hR h5 31 3)) (hR (sR h5 60 2 (hR h5 31 3)) 31 3) := by rw [hR_sR, if_neg (by decide)]; exact Nat.le_trans hnd le5
  have kT5 : hT h5 kn = 4 := by rcases hkn with rfl | rfl; exact cw5.1.net4.1; exact cw5.1.net15.1
  have kT6 : hT (sR h5 60 2 (hR h5 31 3)) kn = 4 := kT5
  have k36 : hI (sR h5 60 2 (hR h5 31 3)) kn 3 = nI nd := by
    rw [cf5'.keep cw (by omega) (by omega) id]
    exact h3
  simp only [w34_a, b9, kT6, k36, Option.toList_some, List.cons_append, List.nil_append]
  generalize sR h5 60 2 (hR h5 31 3) = h6 at *
  have b10 : hT h6 60 = 5 := by simp only [cw5'.1]
  have x : OX h6 (hR h6 31 0) (hR h6 31 3) nd := ⟨⟨b10, by simp only [cw5'.1], by simp only [cw5'.1], by simp only [cw5'.1], q1, q3, cw5'.tg.1, cw5'.tg.2.2.2.1⟩, ⟨by omega, cw5'.ln.1, by omega, cw5'.ln.2.2.2.1⟩, Ne.symm (cw5'.far (a := 60) (by decide)).1, Ne.symm (cw5'.far (a := 63) (by decide)).1, Ne.symm (cw5'.far (a := 60) (by decide)).2.2.2.1, fun a ha => (cw5'.far (farA_iff.mpr (by omega))).1⟩
  have hx6 : NetO h6 kn n P nd wi U := by
    obtain ⟨x1, x2, x3, x4⟩ := hx
    refine ⟨?_, by rw [cf5'.keep cw (by omega) (by omega) id]; exact x2, k36, fun y hy => by rw [cf5'.keep cw (by omega) (by omega) id]; exact x4 y hy⟩
    refine ⟨?_, by rw [cf5'.keep cw (by omega) (by omega) id]; exact x1.2.1, x1.2.2.1, fun y hy => by rw [cf5'.keep cw (by omega) (by omega) id]; exact x1.2.2.2 y hy⟩
    rcases hkn with rfl | rfl
    · exact cw5'.1.net4
    · exact cw5'.1.net15
  have hid := OHp_id (h := h6) (lr := hR h6 31 0) (pr := hR h6 31 3)
  have emk : nI nd = mkI (nd + 1) := by unfold mkI; rw [if_neg (Nat.succ_ne_zero _), Nat.add_sub_cancel]
  rw [← hid]
  rw [emk]
  refine once_1 x hx6 ok hw (by omega) (fun lf g pa hlo hg => ?_) (nd + 1) _ _ _ (Nat.le_refl _) (fun s z1 z2 => by omega) (fun _ _ _ => rfl)
  have hr := OHp_r (h := h6) (pr := hR h6 31 3) x.2.2.1
  have i0 : inb 0 (hL h6 (hR h6 31 0)) = true := inb_nI (k := 0) (by omega) (by have := cw5'.ln.1; omega)
  have hl0 := (hlo 0 (Nat.le_refl _) (Nat.zero_le _)).1 Dwn.zero
  rw [rk_0] at hl0
  have kO : hI (OHp h6 (hR h6 31 0) (hR h6 31 3) lf g pa) kn 3 = nI nd := by
    rw [OHp_only.2.2.2.2.2.1 kn (by have := (cw5'.far (kn_far (j := 0) hkn (by omega))).1; omega)]
    exact k36
  simp only [w34_a, w34_b, hr, b10, kT6, x.1.2.2.2.2.1, cw5'.tg.1, i0, cl_0, hl0, kO, true_or, or_true]
  rw [emk]
  refine once_2 x hx6 ok hw (by omega) rfl hb15 hlo (fun h' oH ow => ?_) (nd + 1) g pa (Nat.le_refl _) (fun s z1 z2 => by omega) hg
  have cfH : CFr orA (fun a => a = 60) h6 h' := CFr.ofIJ oH (fun a q => by rcases q with q | q | q; exact Or.inr (Or.inl q); exact Or.inl (Or.inl q); exact Or.inl (Or.inr q)) (fun a q => by rcases q with q | q; exact Or.inr q; exact Or.inl q)
  refine k h' _ _ ?_ ?_ ?_ (cw5'.ofIJ oH) ((cf5'.mono (fun _ q => q.elim) (fun _ q => q.elim)).trans' cfH) ow
  · exact Or.inl ⟨rfl, rfl⟩
  · rw [oH.2.1, oH.2.2.1]
    exact q7
  · rw [oH.2.1, oH.2.2.1]
    exact q9
end Orders2

/-! ===== Orders.keepFirst, search ===== -/
theorem setI_setI (h : AH) (a : Nat) (f g : Nat → Int32) : setI (setI h a f) a g = setI h a g := by
  refine ah_ext rfl rfl ?_ rfl rfl rfl rfl
  funext c
  rw [hI_setI, hI_setI, hI_setI]
  split <;> rfl
theorem m1_mk (m : Nat) : nI m + -1 = mkI m := by
  unfold mkI
  cases m with
  | zero => decide
  | succ m =>
    rw [if_neg (Nat.succ_ne_zero _), Nat.add_sub_cancel, ← Int32.sub_eq_add_neg]
    exact nI_m1 m
section Once
variable {h : AH} {B M kn n nd wi w best kk : Nat} {P U : Nat → Nat} {Q : Option Value → AH → Prop}
/-- the heap of keepFirst: 60 and 63 -/
def KHp (h : AH) (g f : Nat → Int32) : AH := setI (setI h 63 f) 60 g
theorem KHp_r (h : AH) : ∀ g f, hT (KHp h g f) = hT h ∧ hL (KHp h g f) = hL h ∧ hJ (KHp h g f) = hJ h ∧ hR (KHp h g f) = hR h ∧ hI (KHp h g f) 60 = g ∧ (∀ k v, sI (KHp h g f) 63 k v = KHp h g (va_up f k v)) ∧ (∀ k v, sI (KHp h g f) 60 k v = KHp h (va_up g k v) f) ∧ ∀ g', setI (KHp h g f) 60 g' = KHp h g' f := by
  intro g f
  refine ⟨rfl, rfl, rfl, rfl, by unfold KHp; rw [hI_setI, if_pos rfl], fun k v => ?_, fun k v => ?_, fun g' => ?_⟩
  · unfold KHp
    rw [sI_setI_o (by decide), sI_setI]
  · unfold KHp
    rw [sI_setI]
  · unfold KHp
    rw [setI_setI]
theorem KHp_only {h : AH} {g f : Nat → Int32} : OnlyI (fun a => a = 60 ∨ a = 63) h (KHp h g f) := ⟨rfl, rfl, rfl, rfl, rfl, rfl, fun a ha => by unfold KHp; rw [hI_setI, if_neg (fun z => ha (Or.inl z)), hI_setI, if_neg (fun z => ha (Or.inr z))]⟩
theorem ofirst_l {pr : Nat} (hx : NetO h kn n P nd wi U) (ok : NdOK n P nd wi U) (hw : w < 2) (hbest : best < 99) (hkn : kn + 10 < 36) (h60 : hT h 60 = 5) (h605 : hR h 60 5 = 63) (h63 : hT h 63 = 100 ∧ hL h 63 = 14) (hr2 : hR h 60 2 = pr) (hrT : hT h pr = 103) (hrL : nd < hL h pr ∧ hL h pr ≤ 65536) (hv : ∀ s, Dwn n P nd s → hJ h pr s = lN (PO n P nd wi w best (rk nd s) s)) (hkk : kk = pc nd)
    (k : ∀ g f, (∀ j, j ≠ 3 → j ≠ 4 → j ≠ 6 → g j = hI h 60 j) → g 6 = nI kk → (∀ j v, (FO n P nd wi w best kk 0)[j]? = some v → f j = nI v) → Q none (KHp h g f)) :
    ∀ d i s g f pre yy, kk - i = d → i ≤ kk → Dwn n P nd s → rk nd s = kk - i → 0 < PO n P nd wi w best (kk - i) s → pre.length = i → FO n P nd wi w best kk 0 = pre ++ FO n P nd wi w best (kk - i) s → (∀ j v, pre[j]? = some v → f j = nI v) → (∀ j, j ≠ 3 → j ≠ 4 → j ≠ 6 → g j = hI h 60 j) → g 6 = nI kk → WP 38 17 [.ref 60, .ref kn, .int (nI w), .int (nI best), .int (nI s), .int (nI i), yy] [] (KHp h g f) Q := by
  obtain ⟨s1, s2, s3, s4, s5⟩ := ok.sm
  have hk14 : kk ≤ 14 := by rw [hkk]; exact Nat.le_trans (pc_lt ok.2.1 (by omega)) s1
  have hr := KHp_r h
  intro d
  induction d with
  | zero =>
    intro i s g f pre yy hd hi hD hrk hpo hp hf hpre hg g6
    have hle : nI kk ≤ nI i := nI_le (by omega) (by omega)
    have : i = kk := by omega
    subst this
    rw [w38_17]
    simp only [w38, hr, h60, g6, hle, true_implies, not_true_eq_false, false_implies, and_true]
    refine k g f hg g6 fun j v hj => hpre j v ?_
    rw [hf, Nat.sub_self] at hj
    rw [show FO n P nd wi w best 0 s = [] from rfl, List.append_nil] at hj
    exact hj
  | succ d ih =>
    intro i s g f pre yy hd hi hD hrk hpo hp hf hpre hg g6
    have hle : ¬ nI kk ≤ nI i := nI_ge (by omega) (by omega)
    obtain ⟨v, hvv⟩ : ∃ v, kk - i = v + 1 := ⟨kk - i - 1, by omega⟩
    rw [hvv] at hrk hpo hf
    have hsN := sub_le hD.1
    have c1 : (nI i).toNatClampNeg = i := nI_clamp (by omega)
    have i1 : inb (nI i) 14 = true := inb_nI (by omega) (by decide)
    have hx' : NetO (KHp h g f) kn n P nd wi U := NetO.only KHp_only (fun a a1 a2 => by omega) hx
    rw [w38_17]
    simp only [w38, hr, h60, g6, hle, true_implies, not_false_eq_true, false_implies, true_and]
    refine s39 (h := KHp h g f) (pr := pr) (kk := v) hx' ok hw (by omega) hkn h60 hD hrk hr2 hrT hrL (fun x hx9 hmc => ?_) (fun g' x hg' hfd hxn => ?_) (fun g' hno => ?_)
    · have := rk_add hmc (by omega)
      show hJ h pr (s ||| 2 ^ x) = _
      rw [hv _ (hD.add hmc), show rk nd (s ||| 2 ^ x) = v by omega]
    · have g0 : (0 : Int32) ≤ nI x := nI_pos' (by omega)
      have hpw : (1 : Int32) <<< (nI x &&& 31) = nI (2 ^ x) := nI_pow x (by omega)
      simp only [w38, hr, h60, h605, h63, g0, c1, i1, hpw, nI_or, Option.toList_some, List.cons_append, List.nil_append, true_or, or_true, true_implies, not_true_eq_false, not_false_eq_true, false_implies, and_true, true_and, nI_1]
      have hfp := List.find?_some hfd
      unfold foP at hfp
      rw [Bool.and_eq_true, Bool.and_eq_true, decide_eq_true_eq, decide_eq_true_eq] at hfp
      obtain ⟨⟨hmc, -⟩, hpo'⟩ := hfp
      have hra := rk_add hmc (by omega)
      have hrow : FO n P nd wi w best (v + 1) s = x :: FO n P nd wi w best v (s ||| 2 ^ x) := by
        show (match (List.range n).find? (foP n P nd wi w best v s) with
          | some x => x :: FO n P nd wi w best v (s ||| 2 ^ x)
          | none => []) = _
        rw [hfd]
      have ev : kk - (i + 1) = v := by omega
      have hgg : ∀ j, j ≠ 3 → j ≠ 4 → g' j = g j := fun j j3 j4 => by rw [hg' j j3 j4, (hr g f).2.2.2.2.1]
      refine ih (i + 1) (s ||| 2 ^ x) g' (va_up f i (nI x)) (pre ++ [x]) _ (by omega) (by omega) (hD.add hmc) (by omega) (by rw [ev]; exact hpo') (by rw [List.length_append, hp]; rfl) ?_ (fun j' v' hj' => ?_) (fun j j3 j4 j6 => (hgg j j3 j4).trans (hg j j3 j4 j6)) ((hgg 6 (by decide) (by decide)).trans g6)
      · rw [hf, hrow, ev, List.append_assoc]
        rfl
      · rw [up_at]
        rcases Nat.lt_trichotomy j' i with w9 | w9 | w9
        · rw [List.getElem?_append_left (by omega)] at hj'
          rw [if_neg (by omega)]
          exact hpre j' v' hj'
        · subst w9
          rw [List.getElem?_append_right (by omega), hp, Nat.sub_self] at hj'
          rw [if_pos rfl]
          have : x = v' := Option.some.inj hj'
          rw [this]
        · rw [List.getElem?_eq_none (by rw [List.length_append, hp]; simp; omega)] at hj'
          cases hj'
    · have : 0 < PO n P nd wi w best (v + 1) s := hpo
      change 0 < sm _ n at this
      rw [sm_pos] at this
      obtain ⟨x, hx9, h9⟩ := this
      have hf9 := hno x hx9
      by_cases q : mayC P nd s x = true ∧ ndB n P nd wi w s x ≤ best
      · rw [if_pos q] at h9
        unfold foP at hf9
        rw [q.1, decide_eq_true q.2, decide_eq_true h9] at hf9
        cases hf9
      · rw [if_neg q] at h9
        exact absurd h9 (Nat.lt_irrefl 0)
theorem s38 {pr : Nat} (hx : NetO h kn n P nd wi U) (ok : NdOK n P nd wi U) (hw : w < 2) (hbest : best < 99) (hkn : kn + 10 < 36) (h60 : hT h 60 = 5) (h605 : hR h 60 5 = 63) (h63 : hT h 63 = 100 ∧ hL h 63 = 14) (hr2 : hR h 60 2 = pr) (hrT : hT h pr = 103) (hrL : nd < hL h pr ∧ hL h pr ≤ 65536) (hv : ∀ s, Dwn n P nd s → hJ h pr s = lN (PO n P nd wi w best (rk nd s) s)) (hpo : 0 < PO n P nd wi w best (pc nd) 0)
    (k : ∀ g f, (∀ j, j ≠ 3 → j ≠ 4 → j ≠ 6 → g j = hI h 60 j) → g 6 = nI (pc nd) → (∀ j v, (FO n P nd wi w best (pc nd) 0)[j]? = some v → f j = nI v) → Q none (KHp h g f)) : WPM 38 [.ref 60, .ref kn, .int (nI w), .int (nI best)] h Q := by
  obtain ⟨s1, s2, s3, s4, s5⟩ := ok.sm
  have hf := hx.1.1
  have h3 := hx.2.2.1
  have hbc : bcI (nI nd) = nI (pc nd) := bc_pc (by omega)
  rw [we38]
  simp only [w38, hf, h3, h60, s218, hbc, Option.toList_some, List.cons_append, List.nil_append]
  have e : sI h 60 6 (nI (pc nd)) = KHp h (va_up (hI h 60) 6 (nI (pc nd))) (hI h 63) := by
    unfold KHp
    rw [setI_id, sI_as]
  rw [e]
  have hr0 : rk nd 0 = pc nd := by
    unfold rk
    congr 1
    apply Nat.eq_of_testBit_eq
    intro j
    rw [sdf_bit, Nat.zero_testBit]
    simp
  refine ofirst_l hx ok hw hbest hkn h60 h605 h63 hr2 hrT hrL hv rfl k (pc nd) 0 0 _ _ [] _ rfl (Nat.zero_le _) Dwn.zero (by rw [Nat.sub_zero]; exact hr0) (by rw [Nat.sub_zero]; exact hpo) rfl (by rw [Nat.sub_zero]; rfl) (fun j v hj => by simp at hj) (fun j j3 j4 j6 => by rw [up_at, if_neg j6]) (by rw [up_at, if_pos rfl])
end Once

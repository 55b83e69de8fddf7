/-! ===== Cheapest: priceOf, spread, open, search ===== -/
/-- what a made thing costs: all, or how often one is made -/
def prO (C : Nat → Nat) (on : Option Nat) (m : Nat) : Nat := if m = 0 then 0 else match on with
  | none => C (m - 1)
  | some k => if m - 1 = k then 1 else 0
def prA (C : Nat → Nat) (on : Option Nat) (a : Act) : Nat := prO C on a.2.1
theorem s13 {h : AH} {kn n m : Nat} {P C : Nat → Nat} {on : Option Nat} {Q : Option Value → AH → Prop} (hp : NetP h kn n P) (hC : ∀ x, x < n → hI h (kn + 2) x = nI (C x)) (hm : m ≤ n) (hon : ∀ k, on = some k → k < 100) : WPM 13 [.ref kn, .int (mkI m), .int (oI on)] h Q ↔ Q (some (.int (nI (prO C on m)))) h := by
  obtain ⟨hf, h0, hn, -⟩ := hp
  by_cases q : m = 0
  · subst q
    simp only [we13, w13, mkI, if_true, show ((-1 : Int32) < 0) from by decide, true_or, or_true, true_implies, not_true_eq_false, not_false_eq_true, false_implies, and_true, true_and]
    rfl
  · have e : mkI m = nI (m - 1) := by unfold mkI; rw [if_neg q]
    have g0 : ¬ nI (m - 1) < 0 := nI_pos (by omega)
    have g1 : nI (m - 1) < nI n := nI_lt (by omega) (by omega)
    have c1 : (nI (m - 1)).toNatClampNeg = m - 1 := nI_clamp (by omega)
    have i1 : inb (nI (m - 1)) 14 = true := inb_nI (by omega) (by decide)
    cases on with
    | none =>
      have hv := hC (m - 1) (by omega)
      have e2 : prO C none m = C (m - 1) := by unfold prO; rw [if_neg q]
      simp only [we13, w13, e, e2, oI_none, g0, g1, hf, h0, c1, i1, hv, i32_0m1, true_or, or_true, true_implies, not_true_eq_false, not_false_eq_true, false_implies, and_true, true_and]
    | some k =>
      have hk := hon k rfl
      have g2 : (0 : Int32) ≤ nI k := nI_pos' (by omega)
      by_cases w : m - 1 = k
      · have e2 : prO C (some k) m = 1 := by unfold prO; rw [if_neg q]; simp [w]
        have w' : nI (m - 1) = nI k := by rw [w]
        simp only [we13, w13, e, e2, oI_some, g0, g1, g2, hf, h0, w', true_or, or_true, true_implies, not_true_eq_false, not_false_eq_true, false_implies, and_true, true_and]
        rw [w] at g1
        have g3 : ¬ nI k < 0 := nI_pos (by omega)
        simp only [g1, g3, true_or, or_true, true_implies, not_true_eq_false, not_false_eq_true, false_implies, and_true, true_and]
        rfl
      · have e2 : prO C (some k) m = 0 := by unfold prO; rw [if_neg q]; simp [w]
        have w' : ¬ nI (m - 1) = nI k := fun z => w (nI_inj (by omega) (by omega) z)
        simp only [we13, w13, e, e2, oI_some, g0, g1, g2, hf, h0, w', true_or, or_true, true_implies, not_true_eq_false, not_false_eq_true, false_implies, and_true, true_and]
        rfl
section Cost
variable {h : AH} {q l p N b kn n : Nat} {L : List Act} {P C : Nat → Nat} {on : Option Nat} {Q : Option Value → AH → Prop} {ln : Int32}
theorem HL.hang2 (x : CX h q l p N L) {V : Nat → Option Nat} {T : Nat → Prop} {su bh ah hd : Nat → Int32} {s c c' : Nat} (h1 : ∀ s, s < N → su s = oI (V s)) (h2 : ∀ s c, V s = some c → s < N ∧ c < 2 ^ 24) (h3 : Lns hd bh ah (dv V) (fun x => (V x ≠ none ∧ ¬ T x) ∧ x ≠ s)) (hV : V s = some c) (hT' : ¬ T s) (hc' : c' < 2 ^ 24)
    (k : ∀ su' bh' ah' hd', HL N (va_up V s (some c')) T su' bh' ah' hd' → Q none (CHp h q l p su' bh' ah' hd' ln)) : WPM 15 [.ref 55, .int (nI s), .int (nI c')] (CHp h q l p su bh ah hd ln) Q := by
  obtain ⟨hs, hc⟩ := h2 s c hV
  obtain ⟨o, ho, hox, hL'⟩ := h3.hang (s := s) (c := c') (fun z => z.2 rfl)
  rw [s15 x hs (by omega) ho (fun y hy => by
    have := (hox y hy).1.1.1
    cases e : V y with
    | none => exact absurd e this
    | some c' => exact (h2 y c' e).1)]
  refine k _ _ _ _ ⟨fun t ht => ?_, fun t c2 ht => ?_, ?_⟩
  · rw [up_at, up_at]
    split
    · rfl
    · exact h1 t ht
  · rw [up_at] at ht
    split at ht
    · next w => cases ht; rw [w]; exact ⟨hs, hc'⟩
    · exact h2 t c2 ht
  · have e1 : dv (va_up V s (some c')) = va_up (dv V) s c' := by
      funext t
      unfold dv
      rw [up_at, up_at]
      split <;> rfl
    have e2 : (fun x => va_up V s (some c') x ≠ none ∧ ¬ T x) = (fun x => ((V x ≠ none ∧ ¬ T x) ∧ x ≠ s) ∨ x = s) := by
      funext t
      rw [up_at]
      by_cases w : t = s
      · subst w
        simp [hT']
      · simp [w]
    rw [e1, e2]
    exact hL'
theorem cheap_l (x : CX h q l p N L) (ha : ActsOK L) (hN9 : N ≤ 16384) (hb9 : b < 65536) (hp : NetP h kn n P) (hC : ∀ x, x < n → hI h (kn + 2) x = nI (C x)) (hLm : ∀ a ∈ L, a.2.1 ≤ n ∧ prA C on a ≤ 99) (hon : ∀ k, on = some k → k < 100) (hkn : kn + 10 < 36) (hkq : ∀ a, kn ≤ a → a ≤ kn + 10 → a ≠ q ∧ a ≠ l ∧ a ≠ p) {s cs : Nat} {T : Nat → Prop} (hs : s < N) (hcs : cs + 99 < 2 ^ 24) :
    ∀ d j V su bh ah hd y6 y7, L.length - j = d → j ≤ L.length → HL N V T su bh ah hd → V s = some cs → (∀ y, T y → ∃ c, V y = some c ∧ c ≤ cs) →
    (∀ su' bh' ah' hd', HL N ((L.drop j).foldl (rl1 N b (prA C on) s cs) V) T su' bh' ah' hd' → Q none (CHp h q l p su' bh' ah' hd' ln)) →
    WP 12 3 [.ref 55, .ref kn, .int (nI s), .int (nI b), .int (oI on), .int (nI j), y6, y7] [] (CHp h q l p su bh ah hd ln) Q := by
  obtain ⟨⟨a1, a2, a3, a4, a5, a6, a7, a8, a9, a10, a11, a12⟩, ⟨l1, l2, l3, l4, l5, l6⟩, n9, ⟨x1, x2, x3⟩, x4, x5⟩ := id x
  have hr := CHp_r (h := h) n9
  obtain ⟨ha1, ha2, ha3⟩ := ha
  have hpH : ∀ su bh ah hd, NetP (CHp h q l p su bh ah hd ln) kn n P := fun su bh ah hd => hp.only CHp_only (by have := hkq kn (by omega) (by omega); omega) (by have := hkq (kn + 3) (by omega) (by omega); omega)
  have hCH : ∀ su bh ah hd, ∀ x, x < n → hI (CHp h q l p su bh ah hd ln) (kn + 2) x = nI (C x) := fun su bh ah hd x hx => by
    have := hkq (kn + 2) (by omega) (by omega)
    rw [CHp_only.2.2.2.2.2.2 (kn + 2) (by omega)]
    exact hC x hx
  intro d
  induction d with
  | zero =>
    intro j V su bh ah hd y6 y7 hd' hj hh hV hTl kk
    have hle : nI L.length ≤ nI j := nI_le (by omega) (by omega)
    have hAs := (x.acts su bh ah hd ln).1
    have : j = L.length := by omega
    subst this
    rw [List.drop_length] at kk
    rw [w12_3]
    simp only [w12_a, w12_b, hr, a1, a2, a5, hAs, hle, true_implies, not_true_eq_false, false_implies, and_true]
    exact kk su bh ah hd hh
  | succ d ih =>
    intro j V su bh ah hd y6 y7 hd' hj hh hV hTl kk
    have hjl : j < L.length := by omega
    have hle : ¬ nI L.length ≤ nI j := nI_ge (by omega) (by omega)
    have hA := x.acts su bh ah hd ln
    have hAs := hA.1
    have haj : L[j]? = some L[j] := List.getElem?_eq_getElem hjl
    have haL : L[j] ∈ L := List.getElem_mem hjl
    have h7 := s7N (h := CHp h q l p su bh ah hd ln) (N := N) (b := b) (s := s) x4 (show j < 112 by omega) (hA.2.1 j _ haj) (ha1 _ haL) hA.2.2 (by omega) (show s < 65536 by omega) hb9
    rw [List.drop_eq_getElem_cons hjl, List.foldl_cons] at kk
    have hgo : ∀ su' bh' ah' hd' y6 y7, HL N (rl1 N b (prA C on) s cs V L[j]) T su' bh' ah' hd' → WP 12 3 [.ref 55, .ref kn, .int (nI s), .int (nI b), .int (oI on), .int (nI (j + 1)), y6, y7] [] (CHp h q l p su' bh' ah' hd' ln) Q := fun su' bh' ah' hd' y6 y7 g => by
      have f4 := (rl_fold (N := N) (b := b) (pr := prA C on) (s := s) (cs := cs) [L[j]] V).2.2.2
      exact ih (j + 1) _ su' bh' ah' hd' y6 y7 (by omega) (by omega) g (f4 s cs hV (Nat.le_refl _)) (fun y hy => by
        obtain ⟨c, e1, hc⟩ := hTl y hy
        exact ⟨c, f4 y c e1 hc, hc⟩) kk
    have cj : (nI j).toNatClampNeg = j := nI_clamp (by omega)
    have ij : inb (nI j) 112 = true := inb_nI (by omega) (by decide)
    have cS : (nI s).toNatClampNeg = s := nI_clamp (by omega)
    have iS : inb (nI s) (hL h q) = true := inb_nI (by omega) (by omega)
    obtain ⟨f1, f2, f3⟩ := id hh
    have hsu : su s = nI cs := by rw [f1 s hs, hV]; rfl
    have hmd : hI (CHp h q l p su bh ah hd ln) 38 j = mkI L[j].2.1 := (hA.2.1 j _ haj).2.1
    have hlm := hLm _ haL
    have h13 := fun Q' : Option Value → AH → Prop => s13 (Q := Q') (hpH su bh ah hd) (hCH su bh ah hd) hlm.1 hon
    rw [w12_3]
    cases q0 : aft N b L[j] s with
    | none =>
      have e0 : rl1 N b (prA C on) s cs V L[j] = V := by unfold rl1; rw [q0]
      rw [e0] at hgo
      rw [q0] at h7
      simp only [w12_a, w12_b, hr, a1, a2, a5, hAs, hle, h7, oI_none, i32_0m1, Option.toList_some, List.cons_append, List.nil_append, true_implies, not_true_eq_false, not_false_eq_true, false_implies, and_true, true_and, nI_1]
      exact hgo su bh ah hd _ _ hh
    | some t =>
      rw [q0] at h7
      have ht := aft_lt q0
      have cT : (nI t).toNatClampNeg = t := nI_clamp (by omega)
      have iT : inb (nI t) (hL h q) = true := inb_nI (by omega) (by omega)
      have g0 : (0 : Int32) ≤ nI t := nI_pos' (by omega)
      have hadd : nI cs + nI (prO C on L[j].2.1) = nI (cs + prO C on L[j].2.1) := nI_add _ _
      have hpr9 : prO C on L[j].2.1 ≤ 99 := hlm.2
      have hst := f1 t ht.1
      cases q1 : V t with
      | none =>
        rw [q1, oI_none] at hst
        have e0 : rl1 N b (prA C on) s cs V L[j] = va_up V t (some (cs + prO C on L[j].2.1)) := by
          unfold rl1
          rw [q0]
          show (if V t = none ∨ _ then _ else _) = _
          rw [if_pos (Or.inl q1)]
          rfl
        rw [e0] at hgo
        simp only [w12_a, w12_b, hr, a1, a2, a5, a7, a10, x4, hAs, hle, h7, oI_some, g0, cS, iS, hsu, cj, ij, hmd, h13, hadd, cT, iT, hst, i32_0m1, Option.toList_some, List.cons_append, List.nil_append, true_or, or_true, true_implies, not_true_eq_false, not_false_eq_true, false_implies, and_true, true_and, nI_1]
        refine HL.put x hh ht.1 (by omega) q1 (fun z => ?_) fun su' bh' ah' hd' g => ?_
        · obtain ⟨c, e1, -⟩ := hTl t z
          rw [q1] at e1
          cases e1
        · simp only [w12_a, w12_b, Option.toList_none, List.nil_append, nI_1]
          exact hgo su' bh' ah' hd' _ _ g
      | some c =>
        rw [q1, oI_some] at hst
        have hc := f2 t c q1
        have gc : (0 : Int32) ≤ nI c := nI_pos' (by omega)
        by_cases q2 : cs + prO C on L[j].2.1 < c
        · have hlt : ¬ nI c ≤ nI (cs + prO C on L[j].2.1) := nI_ge q2 (by omega)
          have e0 : rl1 N b (prA C on) s cs V L[j] = va_up V t (some (cs + prO C on L[j].2.1)) := by
            unfold rl1
            rw [q0]
            show (if V t = none ∨ cs + prA C on L[j] < dv V t then _ else _) = _
            rw [if_pos (Or.inr (by rw [dv_some q1]; exact q2))]
            rfl
          rw [e0] at hgo
          simp only [w12_a, w12_b, hr, a1, a2, a5, a7, a10, x4, hAs, hle, h7, oI_some, g0, gc, cS, iS, hsu, cj, ij, hmd, h13, hadd, cT, iT, hst, hlt, Option.toList_some, List.cons_append, List.nil_append, true_or, or_true, true_implies, not_true_eq_false, not_false_eq_true, false_implies, and_true, true_and, nI_1]
          have hTt : ¬ T t := fun z => by
            obtain ⟨c2, e1, h9⟩ := hTl t z
            rw [q1] at e1
            cases e1
            omega
          refine HL.off x hh q1 hTt fun bh' ah' hd' g1 g2 g3 => ?_
          simp only [w12_a, w12_b, hr, a1, Option.toList_none, List.nil_append]
          refine HL.hang2 x g1 g2 g3 q1 hTt (by omega) fun su2 bh2 ah2 hd2 g => ?_
          simp only [w12_a, w12_b, Option.toList_none, List.nil_append, nI_1]
          exact hgo su2 bh2 ah2 hd2 _ _ g
        · have hlt : nI c ≤ nI (cs + prO C on L[j].2.1) := nI_le (by omega) (by omega)
          have e0 : rl1 N b (prA C on) s cs V L[j] = V := by
            unfold rl1
            rw [q0]
            show (if V t = none ∨ cs + prA C on L[j] < dv V t then _ else _) = _
            rw [if_neg]
            rintro (z | z)
            · rw [q1] at z; cases z
            · rw [dv_some q1] at z
              exact q2 z
          rw [e0] at hgo
          simp only [w12_a, w12_b, hr, a1, a2, a5, a7, a10, x4, hAs, hle, h7, oI_some, g0, gc, cS, iS, hsu, cj, ij, hmd, h13, hadd, cT, iT, hst, hlt, Option.toList_some, List.cons_append, List.nil_append, true_or, or_true, true_implies, not_true_eq_false, not_false_eq_true, false_implies, and_true, true_and, nI_1]
          exact hgo su bh ah hd _ _ hh
end Cost

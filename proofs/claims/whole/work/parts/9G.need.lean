/-! ===== the reference's needed, below, thing ===== -/
def nds (P : Nat → Nat) : Nat → Nat → Nat
  | 0, S => S
  | x + 1, S => nds P x (if S.testBit x = true then S ||| P x else S)
theorem pf_bits {P : Nat → Nat} {k a0 : Nat} {g : Nat → Nat} {j : Nat} : ∀ m, (pf P k (fun acc p => acc ||| g p) a0 m).testBit j = true ↔ a0.testBit j = true ∨ ∃ p, p < m ∧ (P k).testBit p = true ∧ (g p).testBit j = true := by
  intro m
  induction m with
  | zero =>
    constructor
    · exact fun h => Or.inl h
    · rintro (h | ⟨p, hp, -⟩)
      · exact h
      · exact absurd hp (Nat.not_lt_zero _)
  | succ m ih =>
    rw [pf_succ]
    by_cases q : (P k).testBit m = true
    · rw [if_pos q, Nat.testBit_or, Bool.or_eq_true, ih]
      constructor
      · rintro ((h | ⟨p, h1, h2⟩) | h)
        · exact Or.inl h
        · exact Or.inr ⟨p, by omega, h2⟩
        · exact Or.inr ⟨m, by omega, q, h⟩
      · rintro (h | ⟨p, h1, h2⟩)
        · exact Or.inl (Or.inl h)
        · by_cases z : p = m
          · subst z
            exact Or.inr h2.2
          · exact Or.inl (Or.inr ⟨p, by omega, h2⟩)
    · rw [if_neg q, ih]
      constructor
      · rintro (h | ⟨p, h1, h2⟩)
        · exact Or.inl h
        · exact Or.inr ⟨p, by omega, h2⟩
      · rintro (h | ⟨p, h1, h2⟩)
        · exact Or.inl h
        · by_cases z : p = m
          · subst z
            exact absurd h2.1 q
          · exact Or.inr ⟨p, by omega, h2⟩
theorem bl_bit {P : Nat → Nat} {k j : Nat} : (bl P k).testBit j = true ↔ j = k ∨ ∃ p, p < k ∧ (P k).testBit p = true ∧ (bl P p).testBit j = true := by
  rw [bl_eq]
  unfold blF
  rw [pf_bits, Nat.testBit_two_pow, decide_eq_true_eq]
  constructor
  · rintro (h | h)
    · exact Or.inl h.symm
    · exact Or.inr h
  · rintro (h | h)
    · exact Or.inl h.symm
    · exact Or.inr h
theorem ndN_bit {P : Nat → Nat} {wi j : Nat} : ∀ n, (ndN P wi n).testBit j = true ↔ ∃ k, k < n ∧ wi.testBit k = true ∧ (bl P k).testBit j = true := by
  intro n
  induction n with
  | zero =>
    show Nat.testBit 0 j = true ↔ _
    rw [Nat.zero_testBit]
    exact ⟨fun h => (by cases h), fun ⟨k, h, _⟩ => absurd h (Nat.not_lt_zero _)⟩
  | succ n ih =>
    show (if wi.testBit n = true then ndN P wi n ||| bl P n else ndN P wi n).testBit j = true ↔ _
    by_cases q : wi.testBit n = true
    · rw [if_pos q, Nat.testBit_or, Bool.or_eq_true, ih]
      constructor
      · rintro (⟨k, h1, h2⟩ | h)
        · exact ⟨k, by omega, h2⟩
        · exact ⟨n, by omega, q, h⟩
      · rintro ⟨k, h1, h2⟩
        by_cases z : k = n
        · subst z
          exact Or.inr h2.2
        · exact Or.inl ⟨k, by omega, h2⟩
    · rw [if_neg q, ih]
      constructor
      · rintro ⟨k, h1, h2⟩
        exact ⟨k, by omega, h2⟩
      · rintro ⟨k, h1, h2⟩
        by_cases z : k = n
        · subst z
          exact absurd h2.1 q
        · exact ⟨k, by omega, h2⟩
theorem bl_self (P : Nat → Nat) (k : Nat) : (bl P k).testBit k = true := bl_bit.mpr (Or.inl rfl)
theorem bit_lt {P : Nat → Nat} {n x p : Nat} (po : PartsOK n P) (hx : x < n) (h : (P x).testBit p = true) : p < x := by
  rcases Nat.lt_or_ge p x with q | q
  · exact q
  · rw [Nat.testBit_lt_two_pow (Nat.lt_of_lt_of_le (po.2 x hx).1 (p2_le q))] at h
    cases h
theorem nds_bit {n : Nat} {P : Nat → Nat} (po : PartsOK n P) {j : Nat} : ∀ x S, x ≤ n → ((nds P x S).testBit j = true ↔ S.testBit j = true ∨ ∃ k, k < x ∧ S.testBit k = true ∧ (bl P k).testBit j = true) := by
  intro x
  induction x with
  | zero =>
    intro S _
    constructor
    · exact fun h => Or.inl h
    · rintro (h | ⟨k, h, -⟩)
      · exact h
      · exact absurd h (Nat.not_lt_zero _)
  | succ x ih =>
    intro S hx
    show (nds P x (if S.testBit x = true then S ||| P x else S)).testBit j = true ↔ _
    rw [ih _ (by omega)]
    by_cases q : S.testBit x = true
    · have hor : ∀ i, (S ||| P x).testBit i = true ↔ S.testBit i = true ∨ (P x).testBit i = true := fun i => by rw [Nat.testBit_or, Bool.or_eq_true]
      rw [if_pos q, hor]
      constructor
      · rintro ((h | h) | ⟨k, h1, h2, h3⟩)
        · exact Or.inl h
        · exact Or.inr ⟨x, by omega, q, bl_bit.mpr (Or.inr ⟨j, bit_lt po (by omega) h, h, bl_self P j⟩)⟩
        · rcases (hor k).mp h2 with h4 | h4
          · exact Or.inr ⟨k, by omega, h4, h3⟩
          · exact Or.inr ⟨x, by omega, q, bl_bit.mpr (Or.inr ⟨k, h1, h4, h3⟩)⟩
      · rintro (h | ⟨k, h1, h2, h3⟩)
        · exact Or.inl (Or.inl h)
        · by_cases z : k = x
          · subst z
            rcases bl_bit.mp h3 with h4 | ⟨p, p1, p2, p3⟩
            · rw [h4]
              exact Or.inl (Or.inl q)
            · exact Or.inr ⟨p, p1, (hor p).mpr (Or.inr p2), p3⟩
          · exact Or.inr ⟨k, by omega, (hor k).mpr (Or.inl h2), h3⟩
    · rw [if_neg q]
      constructor
      · rintro (h | ⟨k, h1, h2⟩)
        · exact Or.inl h
        · exact Or.inr ⟨k, by omega, h2⟩
      · rintro (h | ⟨k, h1, h2⟩)
        · exact Or.inl h
        · by_cases z : k = x
          · subst z
            exact absurd h2.1 q
          · exact Or.inr ⟨k, by omega, h2⟩
theorem nds_nd {n wi : Nat} {P : Nat → Nat} (po : PartsOK n P) (hwi : wi < 2 ^ n) : nds P n wi = ndN P wi n := by
  refine Nat.eq_of_testBit_eq fun j => ?_
  have h1 := nds_bit po (j := j) n wi (Nat.le_refl _)
  have h2 := ndN_bit (P := P) (wi := wi) (j := j) n
  rw [Bool.eq_iff_iff, h1, h2]
  constructor
  · rintro (h | h)
    · refine ⟨j, ?_, h, bl_self P j⟩
      rcases Nat.lt_or_ge j n with q | q
      · exact q
      · rw [Nat.testBit_lt_two_pow (Nat.lt_of_lt_of_le hwi (p2_le q))] at h
        cases h
    · exact h
  · exact fun h => Or.inr h
theorem nds_bl {n k : Nat} {P : Nat → Nat} (po : PartsOK n P) (hk : k < n) : nds P (k + 1) (2 ^ k) = bl P k := by
  refine Nat.eq_of_testBit_eq fun j => ?_
  have h1 := nds_bit po (j := j) (k + 1) (2 ^ k) (by omega)
  rw [Bool.eq_iff_iff, h1, Nat.testBit_two_pow, decide_eq_true_eq]
  constructor
  · rintro (h | ⟨k', h1, h2, h3⟩)
    · rw [← h]
      exact bl_self P k
    · rw [Nat.testBit_two_pow, decide_eq_true_eq] at h2
      rw [h2]
      exact h3
  · exact fun h => Or.inr ⟨k, by omega, Nat.testBit_two_pow_self, h⟩
theorem nds_lt {n : Nat} {P : Nat → Nat} (po : PartsOK n P) : ∀ x S, x ≤ n → S < 2 ^ n → nds P x S < 2 ^ n := by
  intro x
  induction x with
  | zero => exact fun S _ hS => hS
  | succ x ih =>
    intro S hx hS
    refine ih _ (by omega) ?_
    split
    · exact or_lt2 hS (po.lt (by omega))
    · exact hS
section Nd
variable {h : AH} {n wi : Nat} {P C : Nat → Nat} {Q : Option Value → AH → Prop}
theorem nI_or0 (a : Nat) : nI a ||| 0 = nI a := by
  rw [show (0 : Int32) = nI 0 from rfl, nI_or, Nat.or_zero]
theorem need_l (ms : MS0 h) (nt : MNt h n P wi) (po : PartsOK n P) : ∀ c S, c ≤ n → S < 2 ^ n → (WP 171 16 [.ref 67, .int (nI S), .int (mkI c)] [] h Q ↔ Q (some (.int (nI (nds P c S)))) h) := by
  have hn := po.1
  intro c
  induction c with
  | zero =>
    intro S hc hS
    rw [w171_16]
    simp only [w171, mkI_0, mz, zz]
    exact Iff.rfl
  | succ c ih =>
    intro S hc hS
    have hS9 := s_lt hn hS
    have hneg : ¬ nI c < 0 := nI_pos (by omega)
    have c1 : (nI c).toNatClampNeg = c := nI_clamp (by omega)
    have i1 : inb (nI c) 28 = true := inb_nI (by omega) (by decide)
    have e1 := mtb1 (s := S) (x := c) (by omega) (by omega)
    have m0 := nt.2.2 c (by omega)
    rw [w171_16]
    by_cases q : S.testBit c = true
    · have e2 : nds P (c + 1) S = nds P c (S ||| P c) := by
        show nds P c (if S.testBit c = true then S ||| P c else S) = _
        rw [if_pos q]
      simp only [w171, mkI_s, hneg, ms, c1, i1, e1, q, m0, nI_or, nI_mk, zz]
      rw [e2]
      exact ih _ (by omega) (or_lt2 hS (po.lt (by omega)))
    · have e2 : nds P (c + 1) S = nds P c S := by
        show nds P c (if S.testBit c = true then S ||| P c else S) = _
        rw [if_neg q]
      simp only [w171, mkI_s, hneg, ms, c1, i1, e1, q, nI_or0, nI_mk, zz]
      rw [e2]
      exact ih _ (by omega) hS
theorem nI_sub1 (n : Nat) : nI n - 1 = mkI n := by
  cases n with
  | zero => decide +kernel
  | succ n => exact nI_pred n
theorem s171 (ms : MS0 h) (nt : MNt h n P wi) (po : PartsOK n P) (hwi : wi < 2 ^ n) : WPM 171 [.ref 67] h Q ↔ Q (some (.int (nI (ndN P wi n)))) h := by
  rw [we171]
  simp only [w171, ms, mz, nt.1, nt.2.1, nI_sub1, zz]
  rw [need_l ms nt po n wi (Nat.le_refl _) hwi, nds_nd po hwi]
theorem below_l (ms : MS0 h) (nt : MNt h n P wi) (po : PartsOK n P) (x1 : Int32) : ∀ c S, c ≤ n → S < 2 ^ n → (WP 170 6 [.ref 67, .int x1, .int (nI S), .int (mkI c)] [] h Q ↔ Q (some (.int (nI (nds P c S)))) h) := by
  have hn := po.1
  intro c
  induction c with
  | zero =>
    intro S hc hS
    rw [w170_6]
    simp only [w170, mkI_0, mz, zz]
    exact Iff.rfl
  | succ c ih =>
    intro S hc hS
    have hS9 := s_lt hn hS
    have hneg : ¬ nI c < 0 := nI_pos (by omega)
    have c1 : (nI c).toNatClampNeg = c := nI_clamp (by omega)
    have i1 : inb (nI c) 28 = true := inb_nI (by omega) (by decide)
    have e1 := mtb1 (s := S) (x := c) (by omega) (by omega)
    have m0 := nt.2.2 c (by omega)
    rw [w170_6]
    by_cases q : S.testBit c = true
    · have e2 : nds P (c + 1) S = nds P c (S ||| P c) := by
        show nds P c (if S.testBit c = true then S ||| P c else S) = _
        rw [if_pos q]
      simp only [w170, mkI_s, hneg, ms, c1, i1, e1, q, m0, nI_or, nI_mk, zz]
      rw [e2]
      exact ih _ (by omega) (or_lt2 hS (po.lt (by omega)))
    · have e2 : nds P (c + 1) S = nds P c S := by
        show nds P c (if S.testBit c = true then S ||| P c else S) = _
        rw [if_neg q]
      simp only [w170, mkI_s, hneg, ms, c1, i1, e1, q, nI_or0, nI_mk, zz]
      rw [e2]
      exact ih _ (by omega) hS
theorem s170 {k : Nat} (ms : MS0 h) (nt : MNt h n P wi) (po : PartsOK n P) (hk : k < n) : WPM 170 [.ref 67, .int (nI k)] h Q ↔ Q (some (.int (nI (bl P k)))) h := by
  have pw : (1 : Int32) <<< (nI k &&& 31) = nI (2 ^ k) := nI_pow k (by have := po.1; omega)
  rw [we170]
  simp only [w170, pw]
  rw [← mkI_s k, below_l ms nt po _ (k + 1) (2 ^ k) (by omega) (p2_lt hk), nds_bl po hk]
/-! thing -/
def thN (n : Nat) (P C : Nat → Nat) (wi k u : Nat) : Nat := if u = 0 then C k else if u = 1 then (if P k = 0 then 1 else 0) else if u = 2 then (if wi.testBit k then 1 else 0) else if u = 3 then (if (ndN P wi n).testBit k then 1 else 0) else if u = 4 then P k else bl P k
theorem s145 (ms : MS0 h) (v : Int32) (hv : v = 0 ∨ v = 1) : WPM 145 [.ref 67, .int v] h Q ↔ Q (some (.int v)) (sI h 67 0 v) := by
  rcases hv with rfl | rfl
  · simp only [we145, w145, ms, mz, zz]
  · simp only [we145, w145, ms, mz, zz]
theorem in_05 : ∀ u, u < 6 → (0 ≤ nI u ∧ nI u ≤ 5) := by decide +kernel
theorem s172 {k u : Nat} (ms : MS0 h) (nt : MNt h n P wi) (po : PartsOK n P) (hwi : wi < 2 ^ n) (hC : hI h 71 k = nI (C k)) (hraw : hI h 74 k = if P k = 0 then 1 else 0) (hk : k < n) (hu : u < 6) : WPM 172 [.ref 67, .int (nI k), .int (nI u)] h Q ↔ Q (some (.int (nI (thN n P C wi k u)))) (sI h 67 0 0) := by
  have hn := po.1
  have q1 := thing_t hk hn
  have q2 := in_05 u hu
  have c1 : (nI k).toNatClampNeg = k := nI_clamp (by omega)
  have i1 : inb (nI k) 28 = true := inb_nI (by omega) (by decide)
  have mf : MF h (sI h 67 0 0) := MF.z
  have ms0 := mf.ms ms
  have nt0 := MF.nt mf nt
  have e71 : hI (sI h 67 0 0) 71 = hI h 71 := rfl
  have e74 : hI (sI h 67 0 0) 74 = hI h 74 := rfl
  have e73 : hI (sI h 67 0 0) 73 0 = nI wi := nt.2.1
  have e70 : hI (sI h 67 0 0) 70 k = nI (P k) := nt.2.2 k hk
  have hwi9 := s_lt hn hwi
  have hnd : ndN P wi n < 2 ^ 31 := by
    have h1 := nds_lt po n wi (Nat.le_refl _) hwi
    rw [nds_nd po hwi] at h1
    have := s_lt hn h1
    omega
  have b2 := nI_shr_bit (s := wi) (k := k) (by omega) (by omega)
  have b3 := nI_shr_bit (s := ndN P wi n) (k := k) hnd (by omega)
  have hu' : u = 0 ∨ u = 1 ∨ u = 2 ∨ u = 3 ∨ u = 4 ∨ u = 5 := by omega
  have z0 : (nI 0 = (0 : Int32)) := rfl
  have z1 : nI 1 = 1 ∧ ¬ (1 : Int32) = 0 := by decide +kernel
  have z2 : nI 2 = 2 ∧ ¬ (2 : Int32) = 0 ∧ ¬ (2 : Int32) = 1 := by decide +kernel
  have z3 : nI 3 = 3 ∧ ¬ (3 : Int32) = 0 ∧ ¬ (3 : Int32) = 1 ∧ ¬ (3 : Int32) = 2 := by decide +kernel
  have z4 : nI 4 = 4 ∧ ¬ (4 : Int32) = 0 ∧ ¬ (4 : Int32) = 1 ∧ ¬ (4 : Int32) = 2 ∧ ¬ (4 : Int32) = 3 := by decide +kernel
  have z5 : ¬ nI 5 = (0 : Int32) ∧ ¬ nI 5 = 1 ∧ ¬ nI 5 = 2 ∧ ¬ nI 5 = 3 ∧ ¬ nI 5 = 4 := by decide +kernel
  have h145 := fun Q : Option Value → AH → Prop => s145 (Q := Q) ms 0 (Or.inl rfl)
  rw [we172]
  generalize hx : nI u = uu at q2 ⊢
  simp only [w172_a, ms, s169 ms, nt.1, if_pos q1, s150, if_pos q2, mz, h145, zz]
  subst hx
  rcases hu' with rfl | rfl | rfl | rfl | rfl | rfl
  · simp only [w172_a, w172_b, hs_sI, ms, c1, i1, z0, e71, hC, zz, thN, if_true]
  · by_cases q : P k = 0
    · rw [if_pos q] at hraw
      simp only [w172_a, w172_b, hs_sI, ms, mz, c1, i1, z1, e74, hraw, zz]
      simp [thN, q, nI_0]
      rfl
    · rw [if_neg q] at hraw
      simp only [w172_a, w172_b, hs_sI, ms, mz, c1, i1, z1, e74, hraw, zz]
      simp [thN, q, nI_0]
  · simp only [w172_a, w172_b, hs_sI, ms, mz, z2, e73, b2, zz]
    exact Iff.rfl
  · simp only [w172_a, w172_b, hs_sI, ms, mz, z3, s171 ms0 nt0 po hwi, b3, zz]
    exact Iff.rfl
  · simp only [w172_a, w172_b, hs_sI, ms, mz, c1, i1, z4, e70, zz]
    exact Iff.rfl
  · simp only [w172_a, w172_b, hs_sI, ms, mz, z5, s170 ms0 nt0 po hk, zz]
    exact Iff.rfl
theorem s172f {x v : Int32} (ms : MS0 h) (h72 : hI h 72 0 = nI n) (hn : n ≤ 14) (hq : ¬ ((0 ≤ x ∧ x < nI n) ∧ 0 ≤ v ∧ v ≤ 5)) : WPM 172 [.ref 67, .int x, .int v] h Q ↔ Q (some (.int 0)) (sI h 67 0 1) := by
  have h145 := fun Q : Option Value → AH → Prop => s145 (Q := Q) ms 1 (Or.inr rfl)
  rw [we172]
  by_cases q1 : (0 : Int32) ≤ x ∧ x ≤ nI n - 1
  · by_cases q2 : 0 ≤ v ∧ v ≤ 5
    · refine absurd ⟨?_, q2⟩ hq
      exact Decidable.byContradiction fun z => thing_f hn z q1
    · simp only [w172_a, ms, s169 ms, h72, if_pos q1, s150, if_neg q2, mz, h145, zz]
  · simp only [w172_a, ms, s169 ms, h72, if_neg q1, mz, h145, zz]
end Nd

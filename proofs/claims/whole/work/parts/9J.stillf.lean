/-! ===== the reference's stillFull, needs, canNext ===== -/
/-- of what is made what is still full, as a set, up to u -/
def sfN (P : Nat → Nat) (nd wi s : Nat) : Nat → Nat
  | 0 => s &&& wi
  | u + 1 => if nd.testBit u = true ∧ ¬ s.testBit u = true then sfN P nd wi s u ||| (P u &&& s) else sfN P nd wi s u
theorem sfN_bit {P : Nat → Nat} {nd wi s y : Nat} : ∀ u, (sfN P nd wi s u).testBit y = (s.testBit y && (wi.testBit y || (List.range u).any (fun v => nd.testBit v && !s.testBit v && (P v).testBit y))) := by
  intro u
  induction u with
  | zero =>
    show (s &&& wi).testBit y = _
    rw [Nat.testBit_and]
    simp
  | succ u ih =>
    show (if nd.testBit u = true ∧ ¬ s.testBit u = true then sfN P nd wi s u ||| (P u &&& s) else sfN P nd wi s u).testBit y = _
    rw [List.range_succ, List.any_append]
    by_cases q : nd.testBit u = true ∧ ¬ s.testBit u = true
    · rw [if_pos q, Nat.testBit_or, ih, Nat.testBit_and]
      have q2 : s.testBit u = false := by simpa using q.2
      simp only [List.any_cons, List.any_nil, Bool.or_false, q.1, q2, Bool.not_false, Bool.true_and]
      cases s.testBit y <;> cases wi.testBit y <;> cases (P u).testBit y <;> simp
    · rw [if_neg q, ih]
      have hz : (nd.testBit u && !s.testBit u) = false := by
        cases h1 : nd.testBit u <;> cases h2 : s.testBit u <;> simp_all
      simp only [List.any_cons, List.any_nil, Bool.or_false, hz, Bool.false_and]
theorem sfN_sfB {n : Nat} {P : Nat → Nat} {nd wi s y : Nat} : (sfN P nd wi s n).testBit y = sfB n P nd wi s y := by
  rw [sfN_bit]
  rfl
theorem sfN_le {P : Nat → Nat} {nd wi s : Nat} (u : Nat) : sfN P nd wi s u ≤ s := by
  refine sub_le fun j hj => ?_
  rw [sfN_bit, Bool.and_eq_true] at hj
  exact hj.1
theorem pcn_hcn (S : Nat) : ∀ n, pcn n S = hcn (fun y => S.testBit y) n
  | 0 => rfl
  | n + 1 => by
    show pcn n S + (if S.testBit n then 1 else 0) = hcn (fun y => S.testBit y) n + if S.testBit n = true then 1 else 0
    rw [pcn_hcn S n]
theorem pc_sfN {n : Nat} {P : Nat → Nat} {nd wi s : Nat} (hn : n ≤ 14) (hs : s < 2 ^ n) : pc (sfN P nd wi s n) = hcn (sfB n P nd wi s) n := by
  have h1 : sfN P nd wi s n < 2 ^ n := Nat.lt_of_le_of_lt (sfN_le n) hs
  unfold pc
  rw [pcn_big 16 n _ h1 (by omega), pcn_hcn]
  exact hcn_congr n fun y _ => sfN_sfB
theorem fr_and {n x : Nat} {P : Nat → Nat} {nd wi s : Nat} (po : PartsOK n P) (hx : x < n) : (sdf (sfN P nd wi s n) (sfN P nd wi (s ||| 2 ^ x) n) &&& P x = 0) ↔ ¬ frB n P nd wi s x = true := by
  unfold frB
  rw [List.any_eq_true]
  constructor
  · rintro h ⟨y, hy, h2⟩
    have h3 := congrArg (fun z => z.testBit y) h
    simp only [Nat.testBit_and, sdf_bit, sfN_sfB, Nat.zero_testBit] at h3
    rw [Bool.and_eq_true, Bool.and_eq_true] at h2
    rw [h2.1.1, h2.1.2, h2.2] at h3
    cases h3
  · intro h
    refine Nat.eq_of_testBit_eq fun y => ?_
    rw [Nat.testBit_and, sdf_bit, sfN_sfB, sfN_sfB, Nat.zero_testBit]
    by_cases q : (P x).testBit y = true
    · have hy := bit_lt po hx q
      cases h4 : sfB n P nd wi s y with
      | false => rfl
      | true =>
        cases h5 : sfB n P nd wi (s ||| 2 ^ x) y with
        | true => rfl
        | false => exact absurd ⟨y, List.mem_range.mpr (by omega), by rw [q, h4, h5]; rfl⟩ h
    · have q' : (P x).testBit y = false := by simpa using q
      rw [q', Bool.and_false]
section Sf
variable {h : AH} {n nd wi w : Nat} {P : Nat → Nat} {Q : Option Value → AH → Prop}
theorem still_l {s : Nat} (ms : MS0 h) (nt : MNt h n P wi) (po : PartsOK n P) (h39 : hI h 67 39 = nI nd) (hnd : nd < 2 ^ n) (hs : s < 2 ^ n) :
    ∀ d u, n - u = d → u ≤ n → (WP 193 11 [.ref 67, .int (nI s), .int (nI (sfN P nd wi s u)), .int (nI u)] [] h Q ↔ Q (some (.int (nI (sfN P nd wi s n)))) h) := by
  have hn := po.1
  have hs9 := s_lt hn hs
  have hnd9 := s_lt hn hnd
  have n0 := nt.1
  intro d
  induction d with
  | zero =>
    intro u hd hu
    have hle : nI n ≤ nI u := nI_le (by omega) (by omega)
    have hun : u = n := by omega
    rw [w193_11]
    simp only [w193_a, w193_b, ms, mz, n0, hle, zz]
    rw [hun]
  | succ d ih =>
    intro u hd hu
    have hun : u < n := by omega
    have hle : ¬ nI n ≤ nI u := nI_ge hun (by omega)
    have c1 : (nI u).toNatClampNeg = u := nI_clamp (by omega)
    have i1 : inb (nI u) 28 = true := inb_nI (by omega) (by decide)
    have e1 := mtb1 (s := nd) (x := u) (by omega) (by omega)
    have e2 := mtb0 (s := s) (x := u) (by omega) (by omega)
    have m0 := nt.2.2 u hun
    have hst : sfN P nd wi s (u + 1) = if nd.testBit u = true ∧ ¬ s.testBit u = true then sfN P nd wi s u ||| (P u &&& s) else sfN P nd wi s u := rfl
    have ih' := ih (u + 1) (by omega) (by omega)
    rw [hst] at ih'
    rw [w193_11]
    by_cases q1 : nd.testBit u = true
    · by_cases q2 : s.testBit u = true
      · rw [if_neg (fun z => z.2 q2)] at ih'
        simp only [w193_a, w193_b, ms, mz, n0, hle, h39, e1, q1, e2, q2, zz, nI_1]
        exact ih'
      · rw [if_pos ⟨q1, q2⟩] at ih'
        simp only [w193_a, w193_b, ms, mz, n0, hle, h39, e1, q1, e2, q2, c1, i1, m0, nI_and, nI_or, zz, nI_1]
        exact ih'
    · rw [if_neg (fun z => q1 z.1)] at ih'
      simp only [w193_a, w193_b, ms, mz, n0, hle, h39, e1, q1, zz, nI_1]
      exact ih'
theorem s193 {s : Nat} (ms : MS0 h) (nt : MNt h n P wi) (po : PartsOK n P) (h39 : hI h 67 39 = nI nd) (hnd : nd < 2 ^ n) (hs : s < 2 ^ n) : WPM 193 [.ref 67, .int (nI s)] h Q ↔ Q (some (.int (nI (sfN P nd wi s n)))) h := by
  rw [we193]
  simp only [w193_a, ms, mz, nt.2.1, nI_and, zz]
  have := still_l (Q := Q) ms nt po h39 hnd hs n 0 rfl (Nat.zero_le _)
  rw [nI_0] at this
  exact this
theorem s195 {s x : Nat} (ms : MS0 h) (nt : MNt h n P wi) (po : PartsOK n P) (h39 : hI h 67 39 = nI nd) (hnd : nd < 2 ^ n) (hs : s < 2 ^ n) (hx : x < n) : WPM 195 [.ref 67, .int (nI s), .int (nI x)] h Q ↔ Q (some (.int (if mayC P nd s x = true then 1 else 0))) h := by
  have hn := po.1
  have hs9 := s_lt hn hs
  have hnd9 := s_lt hn hnd
  have hPx := s_lt hn (po.lt hx)
  have c1 : (nI x).toNatClampNeg = x := nI_clamp (by omega)
  have i1 : inb (nI x) 28 = true := inb_nI (by omega) (by decide)
  have e1 := mtb1 (s := nd) (x := x) (by omega) (by omega)
  have e2 := mtb0 (s := s) (x := x) (by omega) (by omega)
  have e3 := sdf0 (a := P x) (s := s) (by omega)
  have m0 := nt.2.2 x hx
  have hm : mayC P nd s x = true ↔ nd.testBit x = true ∧ ¬ s.testBit x = true ∧ s &&& P x = P x := by
    unfold mayC
    rw [Bool.and_eq_true, Bool.and_eq_true, decide_eq_true_eq]
    simp [and_assoc]
  rw [we195]
  by_cases q1 : nd.testBit x = true
  · by_cases q2 : s.testBit x = true
    · rw [if_neg (fun z => (hm.mp z).2.1 q2)]
      simp only [w195, ms, mz, h39, e1, q1, e2, q2, zz]
    · by_cases q3 : s &&& P x = P x
      · rw [if_pos (hm.mpr ⟨q1, q2, q3⟩)]
        simp only [w195, ms, mz, h39, e1, q1, e2, q2, c1, i1, m0, nI_sdf, e3, q3, zz]
      · rw [if_neg (fun z => q3 (hm.mp z).2.2)]
        simp only [w195, ms, mz, h39, e1, q1, e2, q2, c1, i1, m0, nI_sdf, e3, q3, zz]
  · rw [if_neg (fun z => q1 (hm.mp z).1)]
    simp only [w195, ms, mz, h39, e1, q1, zz]
theorem s194 {s x : Nat} (ms : MS0 h) (nt : MNt h n P wi) (po : PartsOK n P) (h39 : hI h 67 39 = nI nd) (hnd : nd < 2 ^ n) (hs : s < 2 ^ n) (hx : x < n) (hw : w < 2) : WPM 194 [.ref 67, .int (nI s), .int (nI x), .int (nI w)] h Q ↔ Q (some (.int (nI (ndB n P nd wi w s x)))) h := by
  have hn := po.1
  have hs9 := s_lt hn hs
  have hPx := s_lt hn (po.lt hx)
  have hs2 : s ||| 2 ^ x < 2 ^ n := or_lt2 hs (p2_lt hx)
  have c1 : (nI x).toNatClampNeg = x := nI_clamp (by omega)
  have i1 : inb (nI x) 28 = true := inb_nI (by omega) (by decide)
  have pw : (1 : Int32) <<< (nI x &&& 31) = nI (2 ^ x) := nI_pow x (by omega)
  have m0 := nt.2.2 x hx
  have hl := sfN_le (P := P) (nd := nd) (wi := wi) (s := s) n
  have hb := fun Q : Option Value → AH → Prop => s152 (Q := Q) (h := h) (s := sfN P nd wi s n) (by omega)
  have hpc := pc_sfN (P := P) (nd := nd) (wi := wi) hn hs
  have hfr := fr_and (nd := nd) (wi := wi) (s := s) po hx
  have hz : (nI (sdf (sfN P nd wi s n) (sfN P nd wi (s ||| 2 ^ x) n) &&& P x) = 0) ↔ sdf (sfN P nd wi s n) (sfN P nd wi (s ||| 2 ^ x) n) &&& P x = 0 := by
    have h1 : sdf (sfN P nd wi s n) (sfN P nd wi (s ||| 2 ^ x) n) &&& P x ≤ P x := Nat.and_le_right
    have := nI_eq (a := sdf (sfN P nd wi s n) (sfN P nd wi (s ||| 2 ^ x) n) &&& P x) (b := 0) (by omega) (by decide)
    exact this
  have hw1 : (nI w = 1) ↔ w = 1 := by
    have := nI_eq (a := w) (b := 1) (by omega) (by decide)
    exact this
  rw [we194]
  unfold ndB
  by_cases q1 : w = 1
  · have q1' := hw1.mpr q1
    by_cases q2 : frB n P nd wi s x = true
    · have q3 : ¬ sdf (sfN P nd wi s n) (sfN P nd wi (s ||| 2 ^ x) n) &&& P x = 0 := fun z => hfr.mp z q2
      rw [if_pos ⟨q1, q2⟩]
      simp only [w194, ms, s193 ms nt po h39 hnd hs, s193 ms nt po h39 hnd hs2, pw, nI_or, nI_sdf, hb, q1', c1, i1, m0, nI_and, hz, q3, hpc, zz]
      rw [show (0 : Int32) = nI 0 from rfl, nI_add]
    · have q3 := hfr.mpr q2
      rw [if_neg (fun z => q2 z.2)]
      simp only [w194, ms, s193 ms nt po h39 hnd hs, s193 ms nt po h39 hnd hs2, pw, nI_or, nI_sdf, hb, q1', c1, i1, m0, nI_and, hz, q3, nI_0, hpc, zz, nI_1]
  · rw [if_neg (fun z => q1 z.1)]
    simp only [w194, ms, s193 ms nt po h39 hnd hs, s193 ms nt po h39 hnd hs2, pw, nI_or, nI_sdf, hb, hw1, q1, hpc, zz, nI_1]
end Sf

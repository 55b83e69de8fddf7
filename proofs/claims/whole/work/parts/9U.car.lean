/-! ===== the reference's carry: plain, carries ===== -/
theorem nI_xor (a b : Nat) : nI a ^^^ nI b = nI (a ^^^ b) := by
  apply Int32.toBitVec_inj.mp
  simp [nI, BitVec.ofNat_xor]
theorem xor_in {t x : Nat} (h : t.testBit x = true) : t ^^^ 2 ^ x = sdf t (2 ^ x) := by
  apply Nat.eq_of_testBit_eq
  intro i
  rw [sdf_bit, Nat.testBit_xor, Nat.testBit_two_pow]
  by_cases q : x = i
  · subst q
    simp [h]
  · simp [q]
theorem xor_out {t x : Nat} (h : ¬ t.testBit x = true) : t ^^^ 2 ^ x = t ||| 2 ^ x := by
  apply Nat.eq_of_testBit_eq
  intro i
  rw [Nat.testBit_or, Nat.testBit_xor, Nat.testBit_two_pow]
  by_cases q : x = i
  · subst q
    simp [h]
  · simp [q]
theorem or_plus0 : ∀ x, x < 8 → ∀ t, t < 256 → t.testBit x = false → t ||| 2 ^ x = t + 2 ^ x := by decide +kernel
theorem or_plus {t x : Nat} (hx : x < 8) (ht : t < 256) (h : ¬ t.testBit x = true) : t ||| 2 ^ x = t + 2 ^ x := or_plus0 x hx t ht (by simpa using h)
/-- the rows: those of ol stand below k, those of cu at k, the others far -/
def CyD (k : Nat) (ol cu : List Nat) (dp : Nat → Int32) : Prop := ∀ m, m < 65536 → (sw m ∈ ol → ∃ v, v < k ∧ dp m = nI v) ∧ (¬ sw m ∈ ol → dp m = if sw m ∈ cu then nI k else nI 1000000000)
def CyQ (cu : List Nat) (dq : Nat → Int32) : Prop := ∀ j s, cu[j]? = some s → dq j = nI (sw s)
theorem CyD.gt {k g : Nat} {ol cu : List Nat} {dp : Nat → Int32} (c : CyD k ol cu dp) (hk : k ≤ 1001) (hg : g < 65536) : (nI k < dp (sw g)) ↔ ¬ g ∈ ol ++ cu := by
  obtain ⟨c1, c2⟩ := c (sw g) (sw_lt hg)
  rw [sw_sw hg] at c1 c2
  by_cases q : g ∈ ol
  · obtain ⟨v, hv, e⟩ := c1 q
    rw [e, nI_ltI (by omega) (by omega)]
    constructor
    · intro z; omega
    · intro z; exact absurd (List.mem_append_left _ q) z
  · rw [c2 q]
    by_cases q2 : g ∈ cu
    · rw [if_pos q2, nI_ltI (by omega) (by omega)]
      constructor
      · intro z; omega
      · intro z; exact absurd (List.mem_append_right _ q2) z
    · rw [if_neg q2, nI_ltI (by omega) (by decide)]
      constructor
      · rintro - z
        rcases List.mem_append.mp z with y | y
        · exact q y
        · exact q2 y
      · intro _; omega
theorem CyD.ad {k g : Nat} {ol cu : List Nat} {dp : Nat → Int32} (c : CyD k ol cu dp) (hg : g < 65536) (hn : ¬ g ∈ ol ++ cu) : CyD k ol (cu ++ [g]) (va_up dp (sw g) (nI k)) := by
  intro m hm
  obtain ⟨c1, c2⟩ := c m hm
  rw [up_at]
  by_cases q : m = sw g
  · have e : sw m = g := by rw [q, sw_sw hg]
    rw [if_pos q, e]
    refine ⟨fun z => absurd (List.mem_append_left _ z) hn, fun _ => ?_⟩
    rw [if_pos (List.mem_append_right _ (List.mem_singleton.mpr rfl))]
  · have e : sw m ≠ g := fun z => q (by rw [← z, sw_sw hm])
    rw [if_neg q]
    refine ⟨c1, fun z => ?_⟩
    rw [c2 z]
    simp [e]
theorem CyQ.ad {g : Nat} {cu : List Nat} {dq : Nat → Int32} (c : CyQ cu dq) : CyQ (cu ++ [g]) (va_up dq cu.length (nI (sw g))) := by
  intro j s hj
  rw [up_at]
  by_cases z : j < cu.length
  · rw [List.getElem?_append_left z] at hj
    rw [if_neg (by omega)]
    exact c j s hj
  · rw [List.getElem?_append_right (by omega)] at hj
    have hx : s = g := by simpa using List.mem_of_getElem? hj
    have hjl : j - cu.length = 0 := by
      rcases Nat.eq_zero_or_pos (j - cu.length) with y | y
      · exact y
      · rw [List.getElem?_eq_none (by simp; omega)] at hj
        cases hj
    rw [if_pos (by omega), hx]
theorem adj_in {ol cu : List Nat} {g : Nat} (h : g ∈ ol ++ cu) : adj (ol ++ cu) g = ol ++ cu := by unfold adj; rw [if_pos h]
theorem adj_out {ol cu : List Nat} {g : Nat} (h : ¬ g ∈ ol ++ cu) : adj (ol ++ cu) g = ol ++ (cu ++ [g]) := by unfold adj; rw [if_neg h, List.append_assoc]
theorem sw_s (s : Nat) : sw s = 256 * (s % 256) + s / 256 := rfl
theorem sw_div {s : Nat} (hs : s < 65536) : nI (sw s) / 256 = nI (s % 256) ∧ nI (sw s) - nI (s % 256) * 256 = nI (s / 256) := by
  have hsw := sw_s s
  constructor
  · have := pk_div (a := sw s) (d := 256) (by omega) (by decide) (by decide)
    rw [show sw s / 256 = s % 256 by omega] at this
    exact this
  · have h1 := pk_mul (s % 256) 256
    have h2 := pk_sub (a := sw s) (b := s % 256 * 256) (by omega)
    rw [show sw s - s % 256 * 256 = s / 256 by omega, ← h1] at h2
    exact h2
section Cr
variable {h : AH} {n b wi R : Nat} {P : Nat → Nat} {Q : Option Value → AH → Prop}
theorem inC.lt {s : Nat} (hn : n ≤ 8) (hs : inC R n s) : s < 65536 := by
  have h1 := lt256 hs.1 hn
  have h2 := lt256 hs.2.1 hn
  omega
theorem s201 {ol cu0 : List Nat} {s k : Nat} {dp0 dq0 : Nat → Int32} (ms : MS0 h) (nt : MNt h n P wi) (hraw : ∀ x, x < n → hI h 74 x = if P x = 0 then 1 else 0) (po : PartsOK n P) (hn8 : n ≤ 8) (hb : b ≤ 14) (hs : inC R n s) (hk : k ≤ 1000) (p60 : Pm6 (ol ++ cu0)) (cd0 : CyD k ol cu0 dp0) (cq0 : CyQ cu0 dq0)
    (kk : ∀ cu dp dq, ol ++ cu = (plT n P b s).foldl adj (ol ++ cu0) → Pm6 (ol ++ cu) → CyD k ol cu dp → CyQ cu dq → Q (some (.int (nI cu.length))) (PmH h dp dq)) : WPM 201 [.ref 67, .int (nI (sw s)), .int (nI b), .int (nI k), .int (nI cu0.length)] (PmH h dp0 dq0) Q := by
  have hr := PmH_r h
  have ht6 := lt256 hs.1 hn8
  have hc6 := lt256 hs.2.1 hn8
  have hs6 : s < 65536 := hs.lt hn8
  obtain ⟨ed, er⟩ := sw_div hs6
  have n0 := nt.1
  have hbt := fun (dp dq : Nat → Int32) (Q : Option Value → AH → Prop) => s152 (Q := Q) (h := PmH h dp dq) (s := s % 256) (by omega)
  have hpt := pc_le (s % 256)
  have lp : ∀ d x cu dp dq y9 y10 y11, n - x = d → x ≤ n → ol ++ cu = ((List.range' 0 x).flatMap (mwT P (s % 256) (s / 256) b)).foldl adj (ol ++ cu0) → Pm6 (ol ++ cu) → CyD k ol cu dp → CyQ cu dq → WP 201 21 [.ref 67, .int (nI (sw s)), .int (nI b), .int (nI k), .int (nI cu0.length), .int (nI (s % 256)), .int (nI (s / 256)), .int (nI cu.length), .int (nI x), y9, y10, y11] [] (PmH h dp dq) Q := by
    intro d
    induction d with
    | zero =>
      intro x cu dp dq y9 y10 y11 hd hx hq p6 cd cq
      have hle : nI n ≤ nI x := nI_le (by omega) (by omega)
      have hxn : x = n := by omega
      rw [hxn] at hq
      rw [w201_21]
      simp only [w201_a, w201_b, w201_c, hr, ms, mz, n0, hle, zz]
      exact kk cu dp dq hq p6 cd cq
    | succ d ih =>
      intro x cu dp dq y9 y10 y11 hd hx hq p6 cd cq
      have hxn : x < n := by omega
      have hle : ¬ nI n ≤ nI x := nI_ge hxn (by omega)
      have c1 : (nI x).toNatClampNeg = x := nI_clamp (by omega)
      have i1 : inb (nI x) 28 = true := inb_nI (by omega) (by decide)
      have m0 := nt.2.2 x hxn
      have r0 := hraw x hxn
      have hPx := s_lt po.1 (po.lt hxn)
      have pw : (1 : Int32) <<< (nI x &&& 31) = nI (2 ^ x) := nI_pow x (by omega)
      have e1 := sdf0 (a := P x) (s := s % 256) (by omega)
      have eb := mtb1 (s := s % 256) (x := x) (by omega) (by omega)
      have e2 : (nI b ≤ nI (pc (s % 256))) ↔ b ≤ pc (s % 256) := nI_leI (by omega) (by omega)
      have h2x : 2 ^ x < 256 := lt256 (p2_lt hxn) hn8
      have hstp : ((List.range' 0 (x + 1)).flatMap (mwT P (s % 256) (s / 256) b)).foldl adj (ol ++ cu0) = (mwT P (s % 256) (s / 256) b x).foldl adj (ol ++ cu) := by
        rw [List.range'_concat, List.flatMap_append, List.foldl_append, ← hq]
        simp
      have hlen : cu.length < 131072 := by
        have := p6.len
        rw [List.length_append] at this
        omega
      have c3 : (nI cu.length).toNatClampNeg = cu.length := nI_clamp (by omega)
      have i3 : inb (nI cu.length) 131072 = true := inb_nI (by omega) (by decide)
      rw [w201_21]
      -- one goal that can be
      have go : ∀ g, g < 65536 → mwT P (s % 256) (s / 256) b x = [g] → nI (256 * (s % 256 ^^^ 2 ^ x) + s / 256) = nI (sw g) → ∀ y9 y10 y11, (¬ g ∈ ol ++ cu → WP 201 21 [.ref 67, .int (nI (sw s)), .int (nI b), .int (nI k), .int (nI cu0.length), .int (nI (s % 256)), .int (nI (s / 256)), .int (nI (cu.length + 1)), .int (nI (x + 1)), y9, y10, y11] [] (PmH h (va_up dp (sw g) (nI k)) (va_up dq cu.length (nI (sw g)))) Q) ∧ (g ∈ ol ++ cu → WP 201 21 [.ref 67, .int (nI (sw s)), .int (nI b), .int (nI k), .int (nI cu0.length), .int (nI (s % 256)), .int (nI (s / 256)), .int (nI cu.length), .int (nI (x + 1)), y9, y10, y11] [] (PmH h dp dq) Q) := by
        intro g hg hm eg z9 z10 z11
        rw [hm, List.foldl_cons, List.foldl_nil] at hstp
        constructor
        · intro hn
          rw [adj_out hn] at hstp
          have p6' : Pm6 (ol ++ (cu ++ [g])) := by
            have := p6.ad hg
            rw [adj_out hn] at this
            exact this
          have := ih (x + 1) (cu ++ [g]) _ _ z9 z10 z11 (by omega) (by omega) hstp.symm p6' (cd.ad hg hn) cq.ad
          rw [List.length_append] at this
          exact this
        · intro hn
          rw [adj_in hn] at hstp
          exact ih (x + 1) cu dp dq z9 z10 z11 (by omega) (by omega) hstp.symm p6 cd cq
      by_cases q1 : (s % 256).testBit x = true
      · have h1 : sdf (s % 256) (2 ^ x) < 256 := Nat.lt_of_le_of_lt (sdf_le _ _) ht6
        have hg := cod_lt h1 hc6
        have hm : mwT P (s % 256) (s / 256) b x = [cod (sdf (s % 256) (2 ^ x)) (s / 256)] := by unfold mwT; rw [if_pos q1]
        have eg : nI (256 * (s % 256 ^^^ 2 ^ x) + s / 256) = nI (sw (cod (sdf (s % 256) (2 ^ x)) (s / 256))) := by rw [sw_cod h1, xor_in q1]
        have gg := go _ hg hm eg
        have hgt := cd.gt (by omega) hg
        generalize cod (sdf (s % 256) (2 ^ x)) (s / 256) = g at hg hm eg gg hgt
        have c2 : (nI (sw g)).toNatClampNeg = sw g := nI_clamp (by have := sw_lt hg; omega)
        have i2 : inb (nI (sw g)) 65536 = true := inb_nI (sw_lt hg) (by decide)
        by_cases q2 : g ∈ ol ++ cu
        · simp only [w201_a, w201_b, w201_c, hr, ms, mz, n0, hle, eb, q1, pw, nI_xor, mul256, eg, c2, i2, hgt, eq_true q2, zz, nI_1]
          exact (gg _ _ _).2 q2
        · simp only [w201_a, w201_b, w201_c, hr, ms, mz, n0, hle, eb, q1, pw, nI_xor, mul256, eg, c2, i2, c3, i3, hgt, eq_false q2, zz, nI_1]
          exact (gg _ _ _).1 q2
      · by_cases q3 : pc (s % 256) < b ∧ P x ≠ 0 ∧ s % 256 &&& P x = P x
        · have h1 : s % 256 ||| 2 ^ x < 256 := Nat.or_lt_two_pow (n := 8) ht6 h2x
          have hg := cod_lt h1 hc6
          have hm : mwT P (s % 256) (s / 256) b x = [cod (s % 256 ||| 2 ^ x) (s / 256)] := by unfold mwT; rw [if_neg q1, if_pos q3]
          have eg : nI (256 * (s % 256 ^^^ 2 ^ x) + s / 256) = nI (sw (cod (s % 256 ||| 2 ^ x) (s / 256))) := by rw [sw_cod h1, xor_out q1]
          have gg := go _ hg hm eg
          have hgt := cd.gt (by omega) hg
          generalize cod (s % 256 ||| 2 ^ x) (s / 256) = g at hg hm eg gg hgt
          have c2 : (nI (sw g)).toNatClampNeg = sw g := nI_clamp (by have := sw_lt hg; omega)
          have i2 : inb (nI (sw g)) 65536 = true := inb_nI (sw_lt hg) (by decide)
          have q3b : ¬ b ≤ pc (s % 256) := by omega
          rw [if_neg q3.2.1] at r0
          by_cases q2 : g ∈ ol ++ cu
          · simp only [w201_a, w201_b, w201_c, hr, ms, mz, n0, hle, eb, q1, c1, i1, m0, r0, nI_sdf, e1, eq_true q3.2.2, hbt, e2, q3b, pw, nI_xor, mul256, eg, c2, i2, hgt, eq_true q2, zz, nI_1]
            exact (gg _ _ _).2 q2
          · simp only [w201_a, w201_b, w201_c, hr, ms, mz, n0, hle, eb, q1, c1, i1, m0, r0, nI_sdf, e1, eq_true q3.2.2, hbt, e2, q3b, pw, nI_xor, mul256, eg, c2, i2, c3, i3, hgt, eq_false q2, zz, nI_1]
            exact (gg _ _ _).1 q2
        · have hm : mwT P (s % 256) (s / 256) b x = [] := by unfold mwT; rw [if_neg q1, if_neg q3]
          rw [hm, List.foldl_nil] at hstp
          have fin := fun y9 y10 y11 => ih (x + 1) cu dp dq y9 y10 y11 (by omega) (by omega) hstp.symm p6 cd cq
          by_cases q4 : P x = 0
          · rw [if_pos q4] at r0
            simp only [w201_a, w201_b, w201_c, hr, ms, mz, n0, hle, eb, q1, c1, i1, r0, pw, nI_xor, mul256, zz, nI_1]
            exact fin _ _ _
          · rw [if_neg q4] at r0
            by_cases q5 : s % 256 &&& P x = P x
            · have q6 : b ≤ pc (s % 256) := Classical.byContradiction fun z => q3 ⟨by omega, q4, q5⟩
              simp only [w201_a, w201_b, w201_c, hr, ms, mz, n0, hle, eb, q1, c1, i1, m0, r0, nI_sdf, e1, eq_true q5, hbt, e2, q6, pw, nI_xor, mul256, zz, nI_1]
              exact fin _ _ _
            · simp only [w201_a, w201_b, w201_c, hr, ms, mz, n0, hle, eb, q1, c1, i1, m0, r0, nI_sdf, e1, eq_false q5, pw, nI_xor, mul256, zz, nI_1]
              exact fin _ _ _
  rw [we201]
  simp only [w201_a, mz, ed, er, zz]
  have := lp n 0 cu0 dp0 dq0 (.retAddr 0) (.retAddr 0) (.retAddr 0) rfl (Nat.zero_le _) rfl p60 cd0 cq0
  rw [nI_0] at this
  exact this
theorem sh256 : ∀ x, x < 8 → (256 : Int32) <<< (nI x &&& 31) = nI (256 * 2 ^ x) := by decide +kernel
theorem s202 {ol nx0 : List Nat} {s k : Nat} {dp0 dq : Nat → Int32} (ms : MS0 h) (nt : MNt h n P wi) (hn8 : n ≤ 8) (hb : b ≤ 14) (hs : inC R n s) (hso : s ∈ ol) (hk : k ≤ 1000) (p60 : Pm6 (ol ++ nx0)) (cd0 : CyD (k + 1) ol nx0 dp0)
    (kk : ∀ nx dp, ol ++ nx = (caT n b s).foldl adj (ol ++ nx0) → Pm6 (ol ++ nx) → CyD (k + 1) ol nx dp → nx0.length ≤ nx.length → Q (some (.int (if nx.length = nx0.length then 0 else 1))) (PmH h dp dq)) : WPM 202 [.ref 67, .int (nI (sw s)), .int (nI b), .int (nI k)] (PmH h dp0 dq) Q := by
  have hr := PmH_r h
  have ht6 := lt256 hs.1 hn8
  have hc6 := lt256 hs.2.1 hn8
  have hs6 : s < 65536 := hs.lt hn8
  obtain ⟨ed, er⟩ := sw_div hs6
  have hsc : cod (s % 256) (s / 256) = s := by unfold cod; omega
  have n0 := nt.1
  have hbt := fun (dp dq : Nat → Int32) (Q : Option Value → AH → Prop) => s152 (Q := Q) (h := PmH h dp dq) (s := s % 256) (by omega)
  have hpt := pc_le (s % 256)
  have lp : ∀ d x nx dp y8 y9 y10, n - x = d → x ≤ n → ol ++ nx = ((List.range' 0 x).flatMap (udT (s % 256) (s / 256) b)).foldl adj (ol ++ nx0) → Pm6 (ol ++ nx) → CyD (k + 1) ol nx dp → nx0.length ≤ nx.length → WP 202 20 [.ref 67, .int (nI (sw s)), .int (nI b), .int (nI k), .int (nI (s % 256)), .int (nI (s / 256)), .int (if nx.length = nx0.length then 0 else 1), .int (nI x), y8, y9, y10] [] (PmH h dp dq) Q := by
    intro d
    induction d with
    | zero =>
      intro x nx dp y8 y9 y10 hd hx hq p6 cd hl
      have hle : nI n ≤ nI x := nI_le (by omega) (by omega)
      have hxn : x = n := by omega
      rw [hxn] at hq
      have := kk nx dp hq p6 cd hl
      rw [w202_20]
      by_cases q : nx.length = nx0.length
      · rw [if_pos q] at this ⊢
        simp only [w202_a, w202_b, w202_c, hr, ms, mz, n0, hle, zz]
        exact this
      · rw [if_neg q] at this ⊢
        simp only [w202_a, w202_b, w202_c, hr, ms, mz, n0, hle, zz]
        exact this
    | succ d ih =>
      intro x nx dp y8 y9 y10 hd hx hq p6 cd hl
      have hxn : x < n := by omega
      have hle : ¬ nI n ≤ nI x := nI_ge hxn (by omega)
      have pw : (1 : Int32) <<< (nI x &&& 31) = nI (2 ^ x) := nI_pow x (by omega)
      have pw2 := sh256 x (by omega)
      have eb := mtb1 (s := s % 256) (x := x) (by omega) (by omega)
      have ec := mtb1 (s := s / 256) (x := x) (by omega) (by omega)
      have e2 : (nI b ≤ nI (pc (s % 256))) ↔ b ≤ pc (s % 256) := nI_leI (by omega) (by omega)
      have h2x : 2 ^ x < 256 := lt256 (p2_lt hxn) hn8
      have hstp : ((List.range' 0 (x + 1)).flatMap (udT (s % 256) (s / 256) b)).foldl adj (ol ++ nx0) = (udT (s % 256) (s / 256) b x).foldl adj (ol ++ nx) := by
        rw [List.range'_concat, List.flatMap_append, List.foldl_append, ← hq]
        simp
      have fin : (udT (s % 256) (s / 256) b x).foldl adj (ol ++ nx) = ol ++ nx → ∀ y8 y9 y10, WP 202 20 [.ref 67, .int (nI (sw s)), .int (nI b), .int (nI k), .int (nI (s % 256)), .int (nI (s / 256)), .int (if nx.length = nx0.length then 0 else 1), .int (nI (x + 1)), y8, y9, y10] [] (PmH h dp dq) Q := fun e y8 y9 y10 => by
        rw [e] at hstp
        exact ih (x + 1) nx dp y8 y9 y10 (by omega) (by omega) hstp.symm p6 cd hl
      have go : ∀ g, g < 65536 → udT (s % 256) (s / 256) b x = [g] → ¬ g ∈ ol ++ nx → ∀ y8 y9 y10, WP 202 20 [.ref 67, .int (nI (sw s)), .int (nI b), .int (nI k), .int (nI (s % 256)), .int (nI (s / 256)), .int 1, .int (nI (x + 1)), y8, y9, y10] [] (PmH h (va_up dp (sw g) (nI (k + 1))) dq) Q := by
        intro g hg hm hn z8 z9 z10
        rw [hm, List.foldl_cons, List.foldl_nil, adj_out hn] at hstp
        have p6' : Pm6 (ol ++ (nx ++ [g])) := by
          have := p6.ad hg
          rw [adj_out hn] at this
          exact this
        have hl' : (nx ++ [g]).length = nx.length + 1 := by simp
        have := ih (x + 1) (nx ++ [g]) _ z8 z9 z10 (by omega) (by omega) hstp.symm p6' (cd.ad hg hn) (by omega)
        rw [if_neg (by omega)] at this
        exact this
      have gin : ∀ g, udT (s % 256) (s / 256) b x = [g] → g ∈ ol ++ nx → (udT (s % 256) (s / 256) b x).foldl adj (ol ++ nx) = ol ++ nx := fun g hm hg => by
        rw [hm, List.foldl_cons, List.foldl_nil, adj_in hg]
      rw [w202_20]
      by_cases q1 : (s % 256).testBit x = true
      · by_cases q2 : (s / 256).testBit x = true
        · have hm : udT (s % 256) (s / 256) b x = [s] := by unfold udT; rw [if_pos q1, or_pow_in q2, hsc]
          simp only [w202_a, w202_b, w202_c, hr, ms, mz, n0, hle, eb, ec, q1, q2, zz, nI_1]
          exact fin (gin s hm (List.mem_append_left _ hso)) _ _ _
        · have h1 : s / 256 ||| 2 ^ x < 256 := Nat.or_lt_two_pow (n := 8) hc6 h2x
          have hg := cod_lt ht6 h1
          have hm : udT (s % 256) (s / 256) b x = [cod (s % 256) (s / 256 ||| 2 ^ x)] := by unfold udT; rw [if_pos q1]
          have eg : nI (sw s + 2 ^ x) = nI (sw (cod (s % 256) (s / 256 ||| 2 ^ x))) := by rw [sw_cod ht6, or_plus (by omega) hc6 q2, sw_s]; congr 1; omega
          have hgt := cd.gt (by omega) hg
          have gg := go _ hg hm
          generalize cod (s % 256) (s / 256 ||| 2 ^ x) = g at hg hm eg gg hgt
          have c2 : (nI (sw g)).toNatClampNeg = sw g := nI_clamp (by have := sw_lt hg; omega)
          have i2 : inb (nI (sw g)) 65536 = true := inb_nI (sw_lt hg) (by decide)
          have l0 : ¬ nI (sw g) < 0 := nI_nlt (a := sw g) (b := 0) (Nat.zero_le _) (by have := sw_lt hg; omega)
          by_cases q3 : g ∈ ol ++ nx
          · simp only [w202_a, w202_b, w202_c, hr, ms, mz, n0, hle, eb, ec, q1, q2, pw, nI_add, eg, l0, c2, i2, hgt, eq_true q3, zz, nI_1]
            exact fin (gin g hm q3) _ _ _
          · simp only [w202_a, w202_b, w202_c, hr, ms, mz, n0, hle, eb, ec, q1, q2, pw, nI_add, eg, l0, c2, i2, hgt, eq_false q3, zz, nI_1]
            exact gg q3 _ _ _
      · by_cases q2 : (s / 256).testBit x = true
        · by_cases q4 : pc (s % 256) < b
          · have q4' : ¬ b ≤ pc (s % 256) := by omega
            have h1 : s % 256 ||| 2 ^ x < 256 := Nat.or_lt_two_pow (n := 8) ht6 h2x
            have hg := cod_lt h1 hc6
            have hm : udT (s % 256) (s / 256) b x = [cod (s % 256 ||| 2 ^ x) (s / 256)] := by unfold udT; rw [if_neg q1, if_pos ⟨q4, q2⟩]
            have eg : nI (sw s + 256 * 2 ^ x) = nI (sw (cod (s % 256 ||| 2 ^ x) (s / 256))) := by rw [sw_cod h1, or_plus (by omega) ht6 q1, sw_s]; congr 1; omega
            have hgt := cd.gt (by omega) hg
            have gg := go _ hg hm
            generalize cod (s % 256 ||| 2 ^ x) (s / 256) = g at hg hm eg gg hgt
            have c2 : (nI (sw g)).toNatClampNeg = sw g := nI_clamp (by have := sw_lt hg; omega)
            have i2 : inb (nI (sw g)) 65536 = true := inb_nI (sw_lt hg) (by decide)
            have l0 : ¬ nI (sw g) < 0 := nI_nlt (a := sw g) (b := 0) (Nat.zero_le _) (by have := sw_lt hg; omega)
            by_cases q3 : g ∈ ol ++ nx
            · simp only [w202_a, w202_b, w202_c, hr, ms, mz, n0, hle, eb, ec, q1, q2, hbt, e2, q4', pw2, nI_add, eg, l0, c2, i2, hgt, eq_true q3, zz, nI_1]
              exact fin (gin g hm q3) _ _ _
            · simp only [w202_a, w202_b, w202_c, hr, ms, mz, n0, hle, eb, ec, q1, q2, hbt, e2, q4', pw2, nI_add, eg, l0, c2, i2, hgt, eq_false q3, zz, nI_1]
              exact gg q3 _ _ _
          · have q4' : b ≤ pc (s % 256) := by omega
            have hm : udT (s % 256) (s / 256) b x = [] := by unfold udT; rw [if_neg q1, if_neg (fun z => q4 z.1)]
            simp only [w202_a, w202_b, w202_c, hr, ms, mz, n0, hle, eb, ec, q1, q2, hbt, e2, q4', zz, nI_1]
            exact fin (by rw [hm, List.foldl_nil]) _ _ _
        · have hm : udT (s % 256) (s / 256) b x = [] := by unfold udT; rw [if_neg q1, if_neg (fun z => q2 z.2)]
          simp only [w202_a, w202_b, w202_c, hr, ms, mz, n0, hle, eb, ec, q1, q2, zz, nI_1]
          exact fin (by rw [hm, List.foldl_nil]) _ _ _
  rw [we202]
  simp only [w202_a, mz, ed, er, zz]
  have := lp n 0 nx0 dp0 (.retAddr 0) (.retAddr 0) (.retAddr 0) rfl (Nat.zero_le _) rfl p60 cd0 (Nat.le_refl _)
  rw [nI_0, if_pos rfl] at this
  exact this
end Cr

/-! ===== Orders: mayCome, lookAt, peak, isDownSet ===== -/
/-- of a NET: what the orders look at -/
def NetO (h : AH) (kn n : Nat) (P : Nat → Nat) (nd wi : Nat) (U : Nat → Nat) : Prop := NetP h kn n P ∧ hI h kn 2 = nI wi ∧ hI h kn 3 = nI nd ∧ ∀ x, x < n → hI h (kn + 5) x = nI (U x)
/-- and what it is: nd closed, U the users -/
def NdOK (n : Nat) (P : Nat → Nat) (nd wi : Nat) (U : Nat → Nat) : Prop := PartsOK n P ∧ nd < 2 ^ n ∧ wi < 2 ^ n ∧ (∀ x, x < n → nd.testBit x = true → sub (P x) nd) ∧ ∀ x, x < n → U x < 2 ^ n ∧ ∀ u, (U x).testBit u = (decide (u < n) && nd.testBit u && (P u).testBit x)
theorem NetO.only {A : Nat → Prop} {h h1 : AH} {kn n : Nat} {P : Nat → Nat} {nd wi : Nat} {U : Nat → Nat} (o : OnlyI A h h1) (hk : ∀ a, kn ≤ a → a ≤ kn + 10 → ¬ A a) (x : NetO h kn n P nd wi U) : NetO h1 kn n P nd wi U := by
  obtain ⟨x1, x2, x3, x4⟩ := x
  have e := o.2.2.2.2.2.2
  exact ⟨x1.only o (hk kn (by omega) (by omega)) (hk (kn + 3) (by omega) (by omega)), by rw [e kn (hk kn (by omega) (by omega))]; exact x2, by rw [e kn (hk kn (by omega) (by omega))]; exact x3, by rw [e (kn + 5) (hk (kn + 5) (by omega) (by omega))]; exact x4⟩
theorem bit1 (b : Bool) : (nI (if b = true then 1 else 0) = 1) ↔ b = true := by cases b <;> decide
theorem bit0 (b : Bool) : (nI (if b = true then 1 else 0) = 0) ↔ b = false := by cases b <;> decide
section Look
variable {h : AH} {kn n nd wi w made x : Nat} {P U : Nat → Nat} {Q : Option Value → AH → Prop}
theorem NdOK.sm (k : NdOK n P nd wi U) : n ≤ 14 ∧ 2 ^ n ≤ 16384 ∧ nd < 16384 ∧ wi < 16384 ∧ ∀ x, x < n → P x < 16384 ∧ U x < 16384 := by
  obtain ⟨k1, k2, k3, -, k5⟩ := k
  have hn := k1.1
  have hp : 2 ^ n ≤ 16384 := p2_le (n := 14) hn
  exact ⟨hn, hp, by omega, by omega, fun x hx => ⟨by have := k1.lt hx; omega, by have := (k5 x hx).1; omega⟩⟩
theorem s41 (hx : NetO h kn n P nd wi U) (ok : NdOK n P nd wi U) (hx9 : x < n) (hm : made < 65536) : WPM 41 [.ref kn, .int (nI made), .int (nI x)] h Q ↔ Q (some (.int (if mayC P nd made x = true then 1 else 0))) h := by
  obtain ⟨⟨hf, h0, hn, hP⟩, h2, h3, hU⟩ := hx
  obtain ⟨s1, s2, s3, s4, s5⟩ := ok.sm
  have hPx := hP x hx9
  have hPs := (s5 x hx9).1
  have c1 : (nI x).toNatClampNeg = x := nI_clamp (by omega)
  have i1 : inb (nI x) 14 = true := inb_nI (by omega) (by decide)
  have hsd : sdf nd made < 2 ^ 31 := Nat.lt_of_le_of_lt (sdf_le _ _) (by omega)
  have hb : (nI nd &&& (nI made ^^^ -1)) >>> (nI x &&& 31) &&& 1 = nI (if (sdf nd made).testBit x = true then 1 else 0) := by rw [nI_sdf]; exact nI_shr_bit hsd (by omega)
  have hab : made &&& P x < 2 ^ 31 := Nat.lt_of_le_of_lt Nat.and_le_left (by omega)
  by_cases q1 : (sdf nd made).testBit x = true
  · rw [q1] at hb
    have q1' := q1
    rw [sdf_bit, Bool.and_eq_true, Bool.not_eq_true'] at q1'
    by_cases q2 : made &&& P x = P x
    · have hmc : mayC P nd made x = true := mayC_iff.mpr ⟨q1'.1, q1'.2, sub_and.mpr q2⟩
      have q2' : nI made &&& nI (P x) = nI (P x) := by rw [nI_and, q2]
      simp only [we41, w41, hf, h3, s140, s141, hb, hPx, c1, i1, q2', hmc, if_true, show (nI 1 = 1) from rfl, i32_10, Option.toList_some, List.cons_append, List.nil_append, true_or, or_true, true_implies, not_true_eq_false, not_false_eq_true, false_implies, and_true, true_and]
    · have hmc : ¬ mayC P nd made x = true := fun z => q2 (sub_and.mp (mayC_iff.mp z).2.2)
      have q2' : ¬ nI made &&& nI (P x) = nI (P x) := fun z => by rw [nI_and] at z; exact q2 (nI_inj hab (by omega) z)
      simp only [we41, w41, hf, h3, s140, s141, hb, hPx, c1, i1, q2', hmc, if_true, if_false, Bool.false_eq_true, show (nI 1 = 1) from rfl, i32_10, Option.toList_some, List.cons_append, List.nil_append, true_or, or_true, true_implies, not_true_eq_false, not_false_eq_true, false_implies, and_true, true_and]
  · have q1f : (sdf nd made).testBit x = false := Bool.eq_false_iff.mpr q1
    rw [q1f] at hb
    have hmc : ¬ mayC P nd made x = true := fun z => by
      obtain ⟨m1, m2, -⟩ := mayC_iff.mp z
      exact q1 (by rw [sdf_bit, m1, m2]; rfl)
    simp only [we41, w41, hf, h3, s140, s141, hb, hmc, if_false, Bool.false_eq_true, show ¬ (nI 0 = 1) from by decide, Option.toList_some, List.cons_append, List.nil_append, true_or, or_true, true_implies, not_true_eq_false, not_false_eq_true, false_implies, and_true, true_and]
/-- looked at: what is held, what is used for the last time -/
def luB (wi : Nat) (U : Nat → Nat) (made y : Nat) : Bool := made.testBit y && !wi.testBit y && decide (pc (sdf (U y) made) = 1)
def LKd (h : AH) (n : Nat) (P : Nat → Nat) (nd wi : Nat) (U : Nat → Nat) (made : Nat) : Prop := hI h 60 3 = nI (hcn (sfB n P nd wi made) n) ∧ ∃ lu, hI h 60 4 = nI lu ∧ lu < 2 ^ n ∧ ∀ y, y < n → lu.testBit y = luB wi U made y
theorem users_pos (ok : NdOK n P nd wi U) {y : Nat} (hy : y < n) : 0 < pc (sdf (U y) made) ↔ (List.range n).any (fun u => nd.testBit u && !made.testBit u && (P u).testBit y) = true := by
  obtain ⟨s1, s2, s3, s4, s5⟩ := ok.sm
  have hU := ok.2.2.2.2 y hy
  have hlt : sdf (U y) made < 65536 := Nat.lt_of_le_of_lt (sdf_le _ _) (by have := (s5 y hy).2; omega)
  rw [List.any_eq_true]
  constructor
  · intro h0
    have hne : sdf (U y) made ≠ 0 := fun z => by rw [z, pc_0] at h0; exact absurd h0 (Nat.lt_irrefl 0)
    obtain ⟨u, hu⟩ := Nat.exists_testBit_of_ne_zero hne
    rw [sdf_bit, hU.2 u] at hu
    have hu' : (u < n ∧ nd.testBit u = true ∧ (P u).testBit y = true) ∧ made.testBit u = false := by
      revert hu
      cases made.testBit u <;> cases nd.testBit u <;> cases (P u).testBit y <;> simp
    exact ⟨u, List.mem_range.mpr hu'.1.1, by rw [hu'.1.2.1, hu'.1.2.2, hu'.2]; rfl⟩
  · rintro ⟨u, hu, h9⟩
    have hun := List.mem_range.mp hu
    have hb : (sdf (U y) made).testBit u = true := by
      rw [sdf_bit, hU.2 u, decide_eq_true hun]
      revert h9
      cases made.testBit u <;> cases nd.testBit u <;> cases (P u).testBit y <;> simp
    refine pc_pos (fun z => ?_) hlt
    rw [z, Nat.zero_testBit] at hb
    cases hb
/-- one user: when it is made, nothing is left of it -/
theorem lu_fr (ok : NdOK n P nd wi U) (hx9 : x < n) (hmc : mayC P nd made x = true) {y : Nat} (hy : y < n) (hPy : (P x).testBit y = true) : luB wi U made y = (sfB n P nd wi made y && !sfB n P nd wi (made ||| 2 ^ x) y) := by
  obtain ⟨m1, m2, m3⟩ := mayC_iff.mp hmc
  have hmy := m3 y hPy
  have hU := ok.2.2.2.2 y hy
  obtain ⟨s1, s2, s3, s4, s5⟩ := ok.sm
  have hux : (sdf (U y) made).testBit x = true := by
    rw [sdf_bit, hU.2 x, decide_eq_true hx9, m1, hPy, m2]
    rfl
  have hpc := pc_clr hux (by omega)
  have hsd : sdf (sdf (U y) made) (2 ^ x) = sdf (U y) (made ||| 2 ^ x) := by
    apply Nat.eq_of_testBit_eq
    intro j
    rw [sdf_bit, sdf_bit, sdf_bit, Nat.testBit_or]
    cases (U y).testBit j <;> cases made.testBit j <;> cases (2 ^ x).testBit j <;> rfl
  rw [hsd] at hpc
  have p1 := users_pos (made := made) ok hy
  have p2 := users_pos (made := made ||| 2 ^ x) ok hy
  have hm2 : (made ||| 2 ^ x).testBit y = true := by rw [Nat.testBit_or, hmy]; rfl
  unfold luB sfB
  rw [hmy, hm2]
  cases hw : wi.testBit y with
  | true => simp
  | false =>
    have a1 : (List.range n).any (fun u => nd.testBit u && !made.testBit u && (P u).testBit y) = true := p1.mp (by omega)
    rw [a1]
    by_cases q : pc (sdf (U y) made) = 1
    · have : ¬ (List.range n).any (fun u => nd.testBit u && !(made ||| 2 ^ x).testBit u && (P u).testBit y) = true := fun z => by
        have := p2.mpr z
        omega
      rw [Bool.eq_false_iff.mpr this]
      simp [q]
    · have : (List.range n).any (fun u => nd.testBit u && !(made ||| 2 ^ x).testBit u && (P u).testBit y) = true := p2.mp (by omega)
      rw [this]
      simp [q]
theorem s43 (hx : NetO h kn n P nd wi U) (ok : NdOK n P nd wi U) (hx9 : x < n) (hw : w < 2) (h60 : hT h 60 = 5) (lk : LKd h n P nd wi U made) (hmc : mayC P nd made x = true) : WPM 43 [.ref 60, .ref kn, .int (nI w), .int (nI x)] h Q ↔ Q (some (.int (nI (ndB n P nd wi w made x)))) h := by
  obtain ⟨⟨hf, h0, hn, hP⟩, h2, h3, hU⟩ := hx
  obtain ⟨s1, s2, s3, s4, s5⟩ := ok.sm
  obtain ⟨lk1, lu, lk2, lk3, lk4⟩ := lk
  have hPx := hP x hx9
  have hPs := (s5 x hx9).1
  have c1 : (nI x).toNatClampNeg = x := nI_clamp (by omega)
  have i1 : inb (nI x) 14 = true := inb_nI (by omega) (by decide)
  have hab : P x &&& lu < 2 ^ 31 := Nat.lt_of_le_of_lt Nat.and_le_left (by omega)
  have hfr : frB n P nd wi made x = true ↔ P x &&& lu ≠ 0 := by
    unfold frB
    rw [List.any_eq_true]
    constructor
    · rintro ⟨y, hy, h9⟩
      have hyn := List.mem_range.mp hy
      intro z
      have hzb : (P x &&& lu).testBit y = false := by rw [z, Nat.zero_testBit]
      rw [Nat.testBit_and, lk4 y hyn] at hzb
      rw [Bool.and_assoc, Bool.and_eq_true] at h9
      rw [lu_fr ok hx9 hmc hyn h9.1, h9.1, h9.2] at hzb
      cases hzb
    · intro z
      obtain ⟨y, hy⟩ := Nat.exists_testBit_of_ne_zero z
      rw [Nat.testBit_and, Bool.and_eq_true] at hy
      have hyn : y < n := by
        rcases Nat.lt_or_ge y n with q | q
        · exact q
        · rw [Nat.testBit_lt_two_pow (Nat.lt_of_lt_of_le lk3 (p2_le q))] at hy
          cases hy.2
      refine ⟨y, List.mem_range.mpr hyn, ?_⟩
      have h8 := hy.2
      rw [lk4 y hyn, lu_fr ok hx9 hmc hyn hy.1] at h8
      rw [Bool.and_assoc, hy.1, h8]
      rfl
  by_cases q1 : w = 1
  · subst q1
    by_cases q2 : P x &&& lu = 0
    · have q2' : nI (P x) &&& nI lu = 0 := by rw [nI_and, q2]; rfl
      have e : ndB n P nd wi 1 made x = hcn (sfB n P nd wi made) n + 1 := by
        unfold ndB
        rw [if_neg (fun z => (hfr.mp z.2) q2)]
      simp only [we43, w43, hf, h60, hPx, lk1, lk2, c1, i1, q2', e, show (nI 1 = 1) from rfl, true_or, or_true, true_implies, not_true_eq_false, not_false_eq_true, false_implies, and_true, true_and, nI_1]
    · have q2' : ¬ nI (P x) &&& nI lu = 0 := fun z => by rw [nI_and] at z; exact q2 (nI_inj hab (by omega) z)
      have e : ndB n P nd wi 1 made x = hcn (sfB n P nd wi made) n := by
        unfold ndB
        rw [if_pos ⟨rfl, hfr.mpr q2⟩]
        rfl
      simp only [we43, w43, hf, h60, hPx, lk1, lk2, c1, i1, q2', e, show (nI 1 = 1) from rfl, true_or, or_true, true_implies, not_true_eq_false, not_false_eq_true, false_implies, and_true, true_and, nI_1]
  · have : w = 0 := by omega
    subst this
    have e : ndB n P nd wi 0 made x = hcn (sfB n P nd wi made) n + 1 := by
      unfold ndB
      rw [if_neg (fun z => by cases z.1)]
    simp only [we43, w43, h60, lk1, e, show ¬ (nI 0 = 1) from by decide, true_or, or_true, true_implies, not_true_eq_false, not_false_eq_true, false_implies, and_true, true_and, nI_1]
/-- lookAt: the loop -/
theorem look_l (hx : NetO h kn n P nd wi U) (ok : NdOK n P nd wi U) (hm : made < 65536) (hkn : kn + 10 < 36) (h60 : hT h 60 = 5)
    (k : ∀ g, (∀ j, j ≠ 3 → j ≠ 4 → g j = hI h 60 j) → LKd (setI h 60 g) n P nd wi U made → Q none (setI h 60 g)) :
    ∀ d y g lu y4, n - y = d → y ≤ n → (∀ j, j ≠ 3 → j ≠ 4 → g j = hI h 60 j) → g 3 = nI (hcn (sfB n P nd wi made) y) → g 4 = nI lu → lu < 2 ^ y → (∀ z, z < y → lu.testBit z = luB wi U made z) → WP 42 12 [.ref 60, .ref kn, .int (nI made), .int (nI y), y4] [] (setI h 60 g) Q := by
  obtain ⟨⟨hf, h0, hn, hP⟩, h2, h3, hU⟩ := hx
  obtain ⟨s1, s2, s3, s4, s5⟩ := ok.sm
  have hs1 := hs_setI h 60
  have eI : ∀ g a, a ≠ 60 → hI (setI h 60 g) a = hI h a := fun g a ha => by rw [hI_setI, if_neg ha]
  have e60 : ∀ g, hI (setI h 60 g) 60 = g := fun g => by rw [hI_setI, if_pos rfl]
  have ekn : ∀ g, hI (setI h 60 g) kn = hI h kn := fun g => eI g kn (by omega)
  have ekn5 : ∀ g, hI (setI h 60 g) (kn + 5) = hI h (kn + 5) := fun g => eI g (kn + 5) (by omega)
  intro d
  induction d with
  | zero =>
    intro y g lu y4 hd hy hg g3 g4 hlu hlb
    have hle : nI n ≤ nI y := nI_le (by omega) (by omega)
    have : y = n := by omega
    subst this
    rw [w42_12]
    simp only [w42_a, w42_b, hs1, ekn, hf, h0, hle, true_implies, not_true_eq_false, false_implies, and_true]
    exact k g hg ⟨by rw [e60]; exact g3, lu, by rw [e60]; exact g4, hlu, hlb⟩
  | succ d ih =>
    intro y g lu y4 hd hy hg g3 g4 hlu hlb
    have hyn : y < n := by omega
    have hle : ¬ nI n ≤ nI y := nI_ge (by omega) (by omega)
    have c1 : (nI y).toNatClampNeg = y := nI_clamp (by omega)
    have i1 : inb (nI y) 14 = true := inb_nI (by omega) (by decide)
    have hUy := hU y hyn
    have hb : nI made >>> (nI y &&& 31) &&& 1 = nI (if made.testBit y = true then 1 else 0) := nI_shr_bit (by omega) (by omega)
    have hbw : nI wi >>> (nI y &&& 31) &&& 1 = nI (if wi.testBit y = true then 1 else 0) := nI_shr_bit (by omega) (by omega)
    have hpw : (1 : Int32) <<< (nI y &&& 31) = nI (2 ^ y) := nI_pow y (by omega)
    have hsl : sdf (U y) made < 65536 := Nat.lt_of_le_of_lt (sdf_le _ _) (by have := (s5 y hyn).2; omega)
    have hbc : bcI (nI (U y) &&& (nI made ^^^ -1)) = nI (pc (sdf (U y) made)) := by rw [nI_sdf]; exact bc_pc hsl
    have p1 := users_pos (made := made) ok hyn
    have hpl := pc_le (sdf (U y) made)
    have h2y : (2 : Nat) ^ y < 2 ^ (y + 1) := p2_lt (by omega)
    have hsf : sfB n P nd wi made y = (made.testBit y && (wi.testBit y || decide (0 < pc (sdf (U y) made)))) := by
      unfold sfB
      congr 2
      rw [Bool.eq_iff_iff, decide_eq_true_eq]
      exact p1.symm
    have step0 : sfB n P nd wi made y = false → luB wi U made y = false → ∀ y4, WP 42 12 [.ref 60, .ref kn, .int (nI made), .int (nI (y + 1)), y4] [] (setI h 60 g) Q := fun f1 f2 y4 => by
      refine ih (y + 1) g lu y4 (by omega) (by omega) hg ?_ g4 (by omega) fun z hz => ?_
      · show g 3 = nI (hcn (sfB n P nd wi made) y + if sfB n P nd wi made y = true then 1 else 0)
        rw [f1]
        exact g3
      · by_cases q : z = y
        · subst q
          rw [f2]
          exact Nat.testBit_lt_two_pow hlu
        · exact hlb z (by omega)
    have step1 : sfB n P nd wi made y = true → luB wi U made y = false → ∀ g' y4, (∀ j, j ≠ 3 → j ≠ 4 → g' j = g j) → g' 3 = nI (hcn (sfB n P nd wi made) y + 1) → g' 4 = nI lu → WP 42 12 [.ref 60, .ref kn, .int (nI made), .int (nI (y + 1)), y4] [] (setI h 60 g') Q := fun f1 f2 g' y4 u1 u2 u3 => by
      refine ih (y + 1) g' lu y4 (by omega) (by omega) (fun j j3 j4 => (u1 j j3 j4).trans (hg j j3 j4)) ?_ u3 (by omega) fun z hz => ?_
      · show g' 3 = nI (hcn (sfB n P nd wi made) y + if sfB n P nd wi made y = true then 1 else 0)
        rw [f1]
        exact u2
      · by_cases q : z = y
        · subst q
          rw [f2]
          exact Nat.testBit_lt_two_pow hlu
        · exact hlb z (by omega)
    have step2 : sfB n P nd wi made y = true → luB wi U made y = true → ∀ g' y4, (∀ j, j ≠ 3 → j ≠ 4 → g' j = g j) → g' 3 = nI (hcn (sfB n P nd wi made) y + 1) → g' 4 = nI (lu ||| 2 ^ y) → WP 42 12 [.ref 60, .ref kn, .int (nI made), .int (nI (y + 1)), y4] [] (setI h 60 g') Q := fun f1 f2 g' y4 u1 u2 u3 => by
      refine ih (y + 1) g' (lu ||| 2 ^ y) y4 (by omega) (by omega) (fun j j3 j4 => (u1 j j3 j4).trans (hg j j3 j4)) ?_ u3 (or_lt2 (by omega) h2y) fun z hz => ?_
      · show g' 3 = nI (hcn (sfB n P nd wi made) y + if sfB n P nd wi made y = true then 1 else 0)
        rw [f1]
        exact u2
      · rw [bit_or_pow]
        by_cases q : z = y
        · subst q
          rw [f2]
          simp
        · rw [hlb z (by omega)]
          simp [show ¬ y = z from fun w => q w.symm]
    rw [w42_12]
    cases qm : made.testBit y with
    | false =>
      rw [qm] at hb hsf
      have f2 : luB wi U made y = false := by unfold luB; rw [qm]; rfl
      simp only [w42_a, w42_b, hs1, ekn, hf, h0, hle, s140, hb, if_false, Bool.false_eq_true, show (nI 0 = 0) from rfl, Option.toList_some, List.cons_append, List.nil_append, true_implies, not_true_eq_false, not_false_eq_true, false_implies, and_true, true_and, nI_1]
      exact step0 (by rw [hsf]; rfl) f2 _
    | true =>
      rw [qm] at hb hsf
      cases qw : wi.testBit y with
      | true =>
        rw [qw] at hbw hsf
        have f2 : luB wi U made y = false := by unfold luB; rw [qm, qw]; rfl
        simp only [w42_a, w42_b, hs1, ekn, ekn5, e60, hf, h0, h2, h60, hle, s140, s218, hb, hbw, hbc, hUy, c1, i1, g3, if_true, i32_10, show (nI 1 = 1) from rfl, sI_setI, Option.toList_some, List.cons_append, List.nil_append, true_or, or_true, true_implies, not_true_eq_false, not_false_eq_true, false_implies, and_true, true_and, nI_1]
        exact step1 (by rw [hsf]; rfl) f2 _ _ (fun j j3 j4 => by rw [up_at, if_neg j3]) (by rw [up_at, if_pos rfl]) (by rw [up_at, if_neg (by decide)]; exact g4)
      | false =>
        rw [qw] at hbw hsf
        rcases Nat.eq_zero_or_pos (pc (sdf (U y) made)) with qp | qp
        · have f2 : luB wi U made y = false := by unfold luB; rw [qm, qw, qp]; rfl
          rw [qp] at hsf hbc
          simp only [w42_a, w42_b, hs1, ekn, ekn5, e60, hf, h0, h2, h60, hle, s140, s218, hb, hbw, hbc, hUy, c1, i1, if_true, if_false, Bool.false_eq_true, show ¬ (nI 1 = 0) from by decide, show ¬ (nI 0 = 1) from by decide, show (nI 0 ≤ 0) from by decide, Option.toList_some, List.cons_append, List.nil_append, true_or, or_true, true_implies, not_true_eq_false, not_false_eq_true, false_implies, and_true, true_and, nI_1]
          exact step0 (by rw [hsf]; rfl) f2 _
        · have hnl : ¬ nI (pc (sdf (U y) made)) ≤ 0 := nI_ge (a := 0) qp (by omega)
          have f1 : sfB n P nd wi made y = true := by rw [hsf, decide_eq_true qp]; rfl
          by_cases q1 : pc (sdf (U y) made) = 1
          · have f2 : luB wi U made y = true := by unfold luB; rw [qm, qw, decide_eq_true q1]; rfl
            rw [q1] at hbc hnl
            simp only [w42_a, w42_b, hs1, ekn, ekn5, e60, hf, h0, h2, h60, hle, s140, s218, hb, hbw, hbc, hUy, c1, i1, hnl, show ¬ (1 : Int32) ≤ 0 from by decide, g3, up_at, hpw, if_true, if_false, Bool.false_eq_true, i32_10, show ¬ (nI 0 = 1) from by decide, show (nI 1 = 1) from rfl, sI_setI, show ¬ (4 = 3) from by decide, g4, nI_or, Option.toList_some, List.cons_append, List.nil_append, true_or, or_true, true_implies, not_true_eq_false, not_false_eq_true, false_implies, and_true, true_and, nI_1]
            exact step2 f1 f2 _ _ (fun j j3 j4 => by rw [up_at, if_neg j4, up_at, if_neg j3]) (by rw [up_at, if_neg (by decide), up_at, if_pos rfl]) (by rw [up_at, if_pos rfl])
          · have f2 : luB wi U made y = false := by unfold luB; rw [qm, qw, decide_eq_false q1]; rfl
            have ho0 : nI lu ||| (0 : Int32) = nI lu := by
              have := nI_or lu 0
              rw [Nat.or_zero] at this
              exact this
            have hn1 : ¬ nI (pc (sdf (U y) made)) = 1 := fun z => q1 (nI_inj (b := 1) (by omega) (by omega) z)
            simp only [w42_a, w42_b, hs1, ekn, ekn5, e60, hf, h0, h2, h60, hle, s140, s218, hb, hbw, hbc, hUy, c1, i1, hnl, hn1, g3, up_at, if_true, if_false, Bool.false_eq_true, show ¬ (nI 1 = 0) from by decide, i32_10, show ¬ (nI 0 = 1) from by decide, sI_setI, show ¬ (4 = 3) from by decide, g4, ho0, Option.toList_some, List.cons_append, List.nil_append, true_or, or_true, true_implies, not_true_eq_false, not_false_eq_true, false_implies, and_true, true_and, nI_1]
            exact step1 f1 f2 _ _ (fun j j3 j4 => by rw [up_at, if_neg j4, up_at, if_neg j3]) (by rw [up_at, if_neg (by decide), up_at, if_pos rfl]) (by rw [up_at, if_pos rfl])
theorem s42 (hx : NetO h kn n P nd wi U) (ok : NdOK n P nd wi U) (hm : made < 65536) (hkn : kn + 10 < 36) (h60 : hT h 60 = 5)
    (k : ∀ g, (∀ j, j ≠ 3 → j ≠ 4 → g j = hI h 60 j) → LKd (setI h 60 g) n P nd wi U made → Q none (setI h 60 g)) : WPM 42 [.ref 60, .ref kn, .int (nI made)] h Q := by
  rw [we42]
  simp only [w42_a, w42_b, h60, hs_sI]
  have e : sI (sI h 60 3 0) 60 4 0 = setI h 60 (va_up (va_up (hI h 60) 3 0) 4 0) := by rw [sI_as h 60 3 0, sI_setI]
  rw [e]
  exact look_l hx ok hm hkn h60 k n 0 _ 0 _ rfl (Nat.zero_le _) (fun j j3 j4 => by rw [up_at, if_neg j4, up_at, if_neg j3]) (by rw [up_at, if_neg (by decide), up_at, if_pos rfl]; rfl) (by rw [up_at, if_pos rfl]; rfl) (Nat.pow_pos (by decide)) (fun z hz => absurd hz (Nat.not_lt_zero _))
end Look

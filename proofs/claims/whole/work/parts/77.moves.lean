/-! ===== Small: makeAndWash, upAndDown, keepPromises, washAny, makeAtOnce ===== -/
/-- visiting lists of states, x by x -/
def vf (mo : Nat) (tl : Nat → List Nat) : Nat → Nat → List Nat → List Nat
  | _, 0, qs => qs
  | x, d + 1, qs => vf mo tl (x + 1) d ((tl x).foldl (vis mo) qs)
theorem vf_eq {mo : Nat} {tl : Nat → List Nat} : ∀ d x qs, vf mo tl x d qs = ((List.range' x d).flatMap tl).foldl (vis mo) qs := by
  intro d
  induction d with
  | zero => exact fun _ _ => rfl
  | succ d ih =>
    intro x qs
    show vf mo tl (x + 1) d ((tl x).foldl (vis mo) qs) = _
    rw [ih, List.range'_succ, List.flatMap_cons, List.foldl_append]
theorem vfold_len {mo : Nat} : ∀ (T : List Nat) (qs : List Nat), qs.length ≤ mo → (T.foldl (vis mo) qs).length ≤ mo := by
  intro T
  induction T with
  | nil => exact fun _ h => h
  | cons c T ih => exact fun qs h => ih _ (vis_len h)
def cod (lo hi : Nat) : Nat := 256 * hi + lo
/-- the targets -/
def mwT (P : Nat → Nat) (t c b x : Nat) : List Nat := if t.testBit x = true then [cod (sdf t (2 ^ x)) c] else if pc t < b ∧ P x ≠ 0 ∧ t &&& P x = P x then [cod (t ||| 2 ^ x) c] else []
def udT (t c b x : Nat) : List Nat := if t.testBit x = true then [cod t (c ||| 2 ^ x)] else if pc t < b ∧ c.testBit x = true then [cod (t ||| 2 ^ x) c] else []
def prT (P : Nat → Nat) (f o b x : Nat) : List Nat := if f.testBit x = true then [cod (sdf f (2 ^ x)) o] else if o.testBit x = true then (if (f ||| o) &&& P x = P x then [cod (f ||| 2 ^ x) (sdf o (2 ^ x))] else []) else if pc (f ||| o) < b then (if (f ||| o) &&& P x = P x then [cod f (o ||| 2 ^ x), cod (f ||| 2 ^ x) o] else [cod f (o ||| 2 ^ x)]) else []
section Moves
variable {h : AH} {q l mo kn n b : Nat} {P : Nat → Nat} {Q : Option Value → AH → Prop}
theorem VX.nn (x : VX h q l mo) {a : Nat} (ha : a < 27) (qu mk : Nat → Int32) (m : Nat) : hI (VHp h q l qu mk m) a = hI h a := by
  have := x.2.2.2 a ha
  rw [VHp_I, if_neg this.1, if_neg this.2, if_neg (by omega)]
theorem lt256 {a n : Nat} (ha : a < 2 ^ n) (hn : n ≤ 8) : a < 256 := Nat.lt_of_lt_of_le ha (p2_le (n := 8) hn)
theorem sdf_lt {a c n : Nat} (ha : a < 2 ^ n) : sdf a c < 2 ^ n := Nat.lt_of_le_of_lt (sdf_le _ _) ha
theorem s85 {t c : Nat} {qs : List Nat} {qu mk : Nat → Int32} (x : VX h q l mo) (hmo : mo < 2 ^ 30) (hp : NetP h kn n P) (po : PartsOK n P) (hn8 : n ≤ 8) (hkn : kn + 10 < 27) (ht : t < 2 ^ n) (hc : c < 256) (hb : b < 65536) (hql : qs.length ≤ mo) (vr : VR qu mk qs)
    (k : ∀ qu' mk', VR qu' mk' (vf mo (mwT P t c b) 0 n qs) → Q none (VHp h q l qu' mk' (vf mo (mwT P t c b) 0 n qs).length)) : WPM 85 [.ref 64, .ref kn, .int (nI t), .int (nI c), .int (nI b)] (VHp h q l qu mk qs.length) Q := by
  have t1 := x.1.1
  have hr := VHp_r (h := h) x.2.2.1.1 x.2.2.1.2.1 x.2.2.1.2.2
  have ekn : ∀ qu mk m, hI (VHp h q l qu mk m) kn = hI h kn := fun qu mk m => x.nn (by omega) qu mk m
  have ekn3 : ∀ qu mk m, hI (VHp h q l qu mk m) (kn + 3) = hI h (kn + 3) := fun qu mk m => x.nn (by omega) qu mk m
  obtain ⟨hf, h0, hn14, hP⟩ := hp
  have ht6 := lt256 ht hn8
  have hbc : bcI (nI t) = nI (pc t) := bc_pc (by omega)
  have hpl := pc_le t
  have lp : ∀ d y qs qu mk, n - y = d → y ≤ n → qs.length ≤ mo → VR qu mk qs → (∀ qu' mk', VR qu' mk' (vf mo (mwT P t c b) y d qs) → Q none (VHp h q l qu' mk' (vf mo (mwT P t c b) y d qs).length)) → WP 85 19 [.ref 64, .ref kn, .int (nI t), .int (nI c), .int (nI b), .int (if pc t < b then 1 else 0), .int (nI y)] [] (VHp h q l qu mk qs.length) Q := by
    intro d
    induction d with
    | zero =>
      intro y qs qu mk hd hy hql vr kk
      have hle : nI n ≤ nI y := nI_le (by omega) (by omega)
      rw [w85_19]
      simp only [w85_a, w85_b, hr, ekn, hf, h0, hle, true_implies, not_true_eq_false, false_implies, and_true]
      exact kk qu mk vr
    | succ d ih =>
      intro y qs qu mk hd hy hql vr kk
      have hyn : y < n := by omega
      have hle : ¬ nI n ≤ nI y := nI_ge (by omega) (by omega)
      have hbit : nI t >>> (nI y &&& 31) &&& 1 = nI (if t.testBit y = true then 1 else 0) := nI_shr_bit32 (by omega)
      have hpw : (1 : Int32) <<< (nI y &&& 31) = nI (2 ^ y) := nI_pow y (by omega)
      have cy : (nI y).toNatClampNeg = y := nI_clamp (by omega)
      have iy : inb (nI y) 14 = true := inb_nI (by omega) (by decide)
      have hPy := hP y hyn
      have hP6 := lt256 (po.lt hyn) hn8
      have h2y := p2_lt hyn
      have go : ∀ qu' mk', VR qu' mk' ((mwT P t c b y).foldl (vis mo) qs) → WP 85 19 [.ref 64, .ref kn, .int (nI t), .int (nI c), .int (nI b), .int (if pc t < b then 1 else 0), .int (nI (y + 1))] [] (VHp h q l qu' mk' ((mwT P t c b y).foldl (vis mo) qs).length) Q := fun qu' mk' g => ih (y + 1) _ qu' mk' (by omega) (by omega) (vfold_len _ _ hql) g kk
      rw [w85_19]
      cases qb : t.testBit y with
      | true =>
        rw [qb] at hbit
        have eT : mwT P t c b y = [cod (sdf t (2 ^ y)) c] := by unfold mwT; rw [if_pos qb]
        rw [eT] at go
        have hs6 := lt256 (sdf_lt (c := 2 ^ y) ht) hn8
        simp only [w85_a, w85_b, hr, ekn, hf, h0, hle, t1, s140, hbit, hpw, nI_sdf, if_true, show (nI 1 = 1) from rfl, Option.toList_some, List.cons_append, List.nil_append, true_or, or_true, true_implies, not_true_eq_false, not_false_eq_true, false_implies, and_true, true_and]
        refine s83 x hmo hs6 hc hql vr fun qu' mk' g => ?_
        simp only [w85_a, w85_b, Option.toList_none, List.nil_append, nI_1]
        exact go qu' mk' g
      | false =>
        rw [qb] at hbit
        by_cases q1 : pc t < b
        · by_cases q2 : P y = 0
          · have eT : mwT P t c b y = [] := by unfold mwT; rw [if_neg (by rw [qb]; exact Bool.false_ne_true), if_neg (fun z => z.2.1 q2)]
            rw [eT] at go
            rw [q2] at hPy
            have hz : hI h (kn + 3) y = 0 := hPy
            simp only [w85_a, w85_b, hr, ekn, ekn3, hf, h0, hle, t1, s140, hbit, cy, iy, hz, if_pos q1, i32_10, if_false, Bool.false_eq_true, show ¬ (nI 0 = 1) from by decide, Option.toList_some, List.cons_append, List.nil_append, true_or, or_true, true_implies, not_true_eq_false, not_false_eq_true, false_implies, and_true, true_and, nI_1]
            have := go qu mk vr
            simp only [if_pos q1] at this
            exact this
          · have hz : ¬ nI (P y) = 0 := nI_ne0 (by omega) (by omega)
            by_cases q3 : t &&& P y = P y
            · have q3' : nI t &&& nI (P y) = nI (P y) := by rw [nI_and, q3]
              have eT : mwT P t c b y = [cod (t ||| 2 ^ y) c] := by unfold mwT; rw [if_neg (by rw [qb]; exact Bool.false_ne_true), if_pos ⟨q1, q2, q3⟩]
              rw [eT] at go
              have hs6 := lt256 (or_lt2 ht h2y) hn8
              simp only [w85_a, w85_b, hr, ekn, ekn3, hf, h0, hle, t1, s140, s141, hbit, cy, iy, hPy, hz, q3', hpw, nI_or, if_pos q1, i32_10, if_true, if_false, Bool.false_eq_true, show ¬ (nI 0 = 1) from by decide, Option.toList_some, List.cons_append, List.nil_append, true_or, or_true, true_implies, not_true_eq_false, not_false_eq_true, false_implies, and_true, true_and, nI_1]
              refine s83 x hmo hs6 hc hql vr fun qu' mk' g => ?_
              simp only [w85_a, w85_b, Option.toList_none, List.nil_append, nI_1]
              have := go qu' mk' g
              simp only [if_pos q1] at this
              exact this
            · have hab : t &&& P y < 2 ^ 31 := Nat.lt_of_le_of_lt Nat.and_le_left (by omega)
              have q3' : ¬ nI t &&& nI (P y) = nI (P y) := fun z => by rw [nI_and] at z; exact q3 (nI_inj hab (by omega) z)
              have eT : mwT P t c b y = [] := by unfold mwT; rw [if_neg (by rw [qb]; exact Bool.false_ne_true), if_neg (fun z => q3 z.2.2)]
              rw [eT] at go
              simp only [w85_a, w85_b, hr, ekn, ekn3, hf, h0, hle, t1, s140, s141, hbit, cy, iy, hPy, hz, q3', if_pos q1, i32_10, if_false, Bool.false_eq_true, show ¬ (nI 0 = 1) from by decide, Option.toList_some, List.cons_append, List.nil_append, true_or, or_true, true_implies, not_true_eq_false, not_false_eq_true, false_implies, and_true, true_and, nI_1]
              have := go qu mk vr
              simp only [if_pos q1] at this
              exact this
        · have eT : mwT P t c b y = [] := by unfold mwT; rw [if_neg (by rw [qb]; exact Bool.false_ne_true), if_neg (fun z => q1 z.1)]
          rw [eT] at go
          simp only [w85_a, w85_b, hr, ekn, hf, h0, hle, t1, s140, hbit, if_neg q1, if_false, Bool.false_eq_true, show ¬ (nI 0 = 1) from by decide, Option.toList_some, List.cons_append, List.nil_append, true_or, or_true, true_implies, not_true_eq_false, not_false_eq_true, false_implies, and_true, true_and, nI_1]
          have := go qu mk vr
          simp only [if_neg q1] at this
          exact this
  rw [we85]
  have start := lp n 0 qs qu mk rfl (Nat.zero_le _) hql vr k
  by_cases q1 : pc t < b
  · have hlt : ¬ nI b ≤ nI (pc t) := nI_ge q1 (by omega)
    simp only [if_pos q1] at start
    simp only [w85_a, w85_b, s218, hbc, hlt, Option.toList_some, List.cons_append, List.nil_append, true_or, or_true, true_implies, not_true_eq_false, not_false_eq_true, false_implies, and_true, true_and]
    exact start
  · have hlt : nI b ≤ nI (pc t) := nI_le (by omega) (by omega)
    simp only [if_neg q1] at start
    simp only [w85_a, w85_b, s218, hbc, hlt, Option.toList_some, List.cons_append, List.nil_append, true_or, or_true, true_implies, not_true_eq_false, not_false_eq_true, false_implies, and_true, true_and]
    exact start
theorem s86 {t c : Nat} {qs : List Nat} {qu mk : Nat → Int32} (x : VX h q l mo) (hmo : mo < 2 ^ 30) (hp : NetP h kn n P) (hn8 : n ≤ 8) (hkn : kn + 10 < 27) (ht : t < 2 ^ n) (hc : c < 2 ^ n) (hb : b < 65536) (hql : qs.length ≤ mo) (vr : VR qu mk qs)
    (k : ∀ qu' mk', VR qu' mk' (vf mo (udT t c b) 0 n qs) → Q none (VHp h q l qu' mk' (vf mo (udT t c b) 0 n qs).length)) : WPM 86 [.ref 64, .ref kn, .int (nI t), .int (nI c), .int (nI b)] (VHp h q l qu mk qs.length) Q := by
  have t1 := x.1.1
  have hr := VHp_r (h := h) x.2.2.1.1 x.2.2.1.2.1 x.2.2.1.2.2
  have ekn : ∀ qu mk m, hI (VHp h q l qu mk m) kn = hI h kn := fun qu mk m => x.nn (by omega) qu mk m
  obtain ⟨hf, h0, hn14, hP⟩ := hp
  have ht6 := lt256 ht hn8
  have hc6 := lt256 hc hn8
  have hbc : bcI (nI t) = nI (pc t) := bc_pc (by omega)
  have hpl := pc_le t
  have lp : ∀ d y qs qu mk, n - y = d → y ≤ n → qs.length ≤ mo → VR qu mk qs → (∀ qu' mk', VR qu' mk' (vf mo (udT t c b) y d qs) → Q none (VHp h q l qu' mk' (vf mo (udT t c b) y d qs).length)) → WP 86 19 [.ref 64, .ref kn, .int (nI t), .int (nI c), .int (nI b), .int (if pc t < b then 1 else 0), .int (nI y)] [] (VHp h q l qu mk qs.length) Q := by
    intro d
    induction d with
    | zero =>
      intro y qs qu mk hd hy hql vr kk
      have hle : nI n ≤ nI y := nI_le (by omega) (by omega)
      rw [w86_19]
      simp only [w86_a, w86_b, hr, ekn, hf, h0, hle, true_implies, not_true_eq_false, false_implies, and_true]
      exact kk qu mk vr
    | succ d ih =>
      intro y qs qu mk hd hy hql vr kk
      have hyn : y < n := by omega
      have hle : ¬ nI n ≤ nI y := nI_ge (by omega) (by omega)
      have hbit : nI t >>> (nI y &&& 31) &&& 1 = nI (if t.testBit y = true then 1 else 0) := nI_shr_bit32 (by omega)
      have hbitc : nI c >>> (nI y &&& 31) &&& 1 = nI (if c.testBit y = true then 1 else 0) := nI_shr_bit32 (by omega)
      have hpw : (1 : Int32) <<< (nI y &&& 31) = nI (2 ^ y) := nI_pow y (by omega)
      have h2y := p2_lt hyn
      have go : ∀ qu' mk', VR qu' mk' ((udT t c b y).foldl (vis mo) qs) → WP 86 19 [.ref 64, .ref kn, .int (nI t), .int (nI c), .int (nI b), .int (if pc t < b then 1 else 0), .int (nI (y + 1))] [] (VHp h q l qu' mk' ((udT t c b y).foldl (vis mo) qs).length) Q := fun qu' mk' g => ih (y + 1) _ qu' mk' (by omega) (by omega) (vfold_len _ _ hql) g kk
      rw [w86_19]
      cases qb : t.testBit y with
      | true =>
        rw [qb] at hbit
        have eT : udT t c b y = [cod t (c ||| 2 ^ y)] := by unfold udT; rw [if_pos qb]
        rw [eT] at go
        have hs6 := lt256 (or_lt2 hc h2y) hn8
        simp only [w86_a, w86_b, hr, ekn, hf, h0, hle, t1, s140, hbit, hpw, nI_or, if_true, show (nI 1 = 1) from rfl, Option.toList_some, List.cons_append, List.nil_append, true_or, or_true, true_implies, not_true_eq_false, not_false_eq_true, false_implies, and_true, true_and]
        refine s83 x hmo ht6 hs6 hql vr fun qu' mk' g => ?_
        simp only [w86_a, w86_b, Option.toList_none, List.nil_append, nI_1]
        exact go qu' mk' g
      | false =>
        rw [qb] at hbit
        by_cases q1 : pc t < b
        · cases qc : c.testBit y with
          | true =>
            rw [qc] at hbitc
            have eT : udT t c b y = [cod (t ||| 2 ^ y) c] := by unfold udT; rw [if_neg (by rw [qb]; exact Bool.false_ne_true), if_pos ⟨q1, qc⟩]
            rw [eT] at go
            have hs6 := lt256 (or_lt2 ht h2y) hn8
            simp only [w86_a, w86_b, hr, ekn, hf, h0, hle, t1, s140, hbit, hbitc, hpw, nI_or, if_pos q1, i32_10, if_true, if_false, Bool.false_eq_true, show ¬ (nI 0 = 1) from by decide, show (nI 1 = 1) from rfl, Option.toList_some, List.cons_append, List.nil_append, true_or, or_true, true_implies, not_true_eq_false, not_false_eq_true, false_implies, and_true, true_and, nI_1]
            refine s83 x hmo hs6 hc6 hql vr fun qu' mk' g => ?_
            simp only [w86_a, w86_b, Option.toList_none, List.nil_append, nI_1]
            have := go qu' mk' g
            simp only [if_pos q1] at this
            exact this
          | false =>
            rw [qc] at hbitc
            have eT : udT t c b y = [] := by unfold udT; rw [if_neg (by rw [qb]; exact Bool.false_ne_true), if_neg (fun z => by rw [qc] at z; cases z.2)]
            rw [eT] at go
            simp only [w86_a, w86_b, hr, ekn, hf, h0, hle, t1, s140, hbit, hbitc, if_pos q1, i32_10, if_false, Bool.false_eq_true, show ¬ (nI 0 = 1) from by decide, Option.toList_some, List.cons_append, List.nil_append, true_or, or_true, true_implies, not_true_eq_false, not_false_eq_true, false_implies, and_true, true_and, nI_1]
            have := go qu mk vr
            simp only [if_pos q1] at this
            exact this
        · have eT : udT t c b y = [] := by unfold udT; rw [if_neg (by rw [qb]; exact Bool.false_ne_true), if_neg (fun z => q1 z.1)]
          rw [eT] at go
          simp only [w86_a, w86_b, hr, ekn, hf, h0, hle, t1, s140, hbit, if_neg q1, if_false, Bool.false_eq_true, show ¬ (nI 0 = 1) from by decide, Option.toList_some, List.cons_append, List.nil_append, true_or, or_true, true_implies, not_true_eq_false, not_false_eq_true, false_implies, and_true, true_and, nI_1]
          have := go qu mk vr
          simp only [if_neg q1] at this
          exact this
  rw [we86]
  have start := lp n 0 qs qu mk rfl (Nat.zero_le _) hql vr k
  by_cases q1 : pc t < b
  · have hlt : ¬ nI b ≤ nI (pc t) := nI_ge q1 (by omega)
    simp only [if_pos q1] at start
    simp only [w86_a, w86_b, s218, hbc, hlt, Option.toList_some, List.cons_append, List.nil_append, true_or, or_true, true_implies, not_true_eq_false, not_false_eq_true, false_implies, and_true, true_and]
    exact start
  · have hlt : nI b ≤ nI (pc t) := nI_le (by omega) (by omega)
    simp only [if_neg q1] at start
    simp only [w86_a, w86_b, s218, hbc, hlt, Option.toList_some, List.cons_append, List.nil_append, true_or, or_true, true_implies, not_true_eq_false, not_false_eq_true, false_implies, and_true, true_and]
    exact start
end Moves

/-! ===== Small: keepPromises, washAny, makeAtOnce ===== -/
def waT (full r : Nat) : List Nat := if full &&& r = r then [cod r 1] else []
/-- what may come at once -/
def mcN (P : Nat → Nat) (full : Nat) : Nat → Nat
  | 0 => 0
  | x + 1 => if full.testBit x = false ∧ full &&& P x = P x then mcN P full x ||| 2 ^ x else mcN P full x
theorem mcN_lt {P : Nat → Nat} {full : Nat} : ∀ x, mcN P full x < 2 ^ x
  | 0 => Nat.one_pos
  | x + 1 => by
    have h1 := mcN_lt (P := P) (full := full) x
    have h2 : (2 : Nat) ^ x < 2 ^ (x + 1) := p2_lt (Nat.lt_succ_self x)
    show (if _ then _ else _) < _
    split
    · exact or_lt2 (by omega) h2
    · omega
def atT (full mc ck b m : Nat) : List Nat := if mc &&& m = m ∧ pc m ≤ ck ∧ pc (full ||| m) ≤ b then [cod (full ||| m) 0] else []
section Moves2
variable {h : AH} {q l mo kn n b : Nat} {P : Nat → Nat} {Q : Option Value → AH → Prop}
theorem s91 {f o : Nat} {qs : List Nat} {qu mk : Nat → Int32} (x : VX h q l mo) (hmo : mo < 2 ^ 30) (hp : NetP h kn n P) (po : PartsOK n P) (hn8 : n ≤ 8) (hkn : kn + 10 < 27) (hf : f < 2 ^ n) (ho : o < 2 ^ n) (hb : b < 65536) (hql : qs.length ≤ mo) (vr : VR qu mk qs)
    (k : ∀ qu' mk', VR qu' mk' (vf mo (prT P f o b) 0 n qs) → Q none (VHp h q l qu' mk' (vf mo (prT P f o b) 0 n qs).length)) : WPM 91 [.ref 64, .ref kn, .int (nI f), .int (nI o), .int (nI b)] (VHp h q l qu mk qs.length) Q := by
  have t1 := x.1.1
  have hr := VHp_r (h := h) x.2.2.1.1 x.2.2.1.2.1 x.2.2.1.2.2
  have ekn : ∀ qu mk m, hI (VHp h q l qu mk m) kn = hI h kn := fun qu mk m => x.nn (by omega) qu mk m
  have ekn3 : ∀ qu mk m, hI (VHp h q l qu mk m) (kn + 3) = hI h (kn + 3) := fun qu mk m => x.nn (by omega) qu mk m
  obtain ⟨hF, h0, hn14, hP⟩ := hp
  have hf6 := lt256 hf hn8
  have ho6 := lt256 ho hn8
  have hfo : f ||| o < 2 ^ n := or_lt2 hf ho
  have hfo6 := lt256 hfo hn8
  have hbc : bcI (nI (f ||| o)) = nI (pc (f ||| o)) := bc_pc (by omega)
  have hpl := pc_le (f ||| o)
  have lp : ∀ d y qs qu mk y8 y9, n - y = d → y ≤ n → qs.length ≤ mo → VR qu mk qs → (∀ qu' mk', VR qu' mk' (vf mo (prT P f o b) y d qs) → Q none (VHp h q l qu' mk' (vf mo (prT P f o b) y d qs).length)) → WP 91 25 [.ref 64, .ref kn, .int (nI f), .int (nI o), .int (nI b), .int (nI (f ||| o)), .int (if pc (f ||| o) < b then 1 else 0), .int (nI y), y8, y9] [] (VHp h q l qu mk qs.length) Q := by
    intro d
    induction d with
    | zero =>
      intro y qs qu mk y8 y9 hd hy hql vr kk
      have hle : nI n ≤ nI y := nI_le (by omega) (by omega)
      rw [w91_25]
      simp only [w91_a, w91_b, hr, ekn, hF, h0, hle, true_implies, not_true_eq_false, false_implies, and_true]
      exact kk qu mk vr
    | succ d ih =>
      intro y qs qu mk y8 y9 hd hy hql vr kk
      have hyn : y < n := by omega
      have hle : ¬ nI n ≤ nI y := nI_ge (by omega) (by omega)
      have hbf : nI f >>> (nI y &&& 31) &&& 1 = nI (if f.testBit y = true then 1 else 0) := nI_shr_bit32 (by omega)
      have hbo : nI o >>> (nI y &&& 31) &&& 1 = nI (if o.testBit y = true then 1 else 0) := nI_shr_bit32 (by omega)
      have hpw : (1 : Int32) <<< (nI y &&& 31) = nI (2 ^ y) := nI_pow y (by omega)
      have cy : (nI y).toNatClampNeg = y := nI_clamp (by omega)
      have iy : inb (nI y) 14 = true := inb_nI (by omega) (by decide)
      have hPy := hP y hyn
      have hP6 := lt256 (po.lt hyn) hn8
      have h2y := p2_lt hyn
      have hab : (f ||| o) &&& P y < 2 ^ 31 := Nat.lt_of_le_of_lt Nat.and_le_left (by omega)
      have go : ∀ y8 y9 qu' mk', VR qu' mk' ((prT P f o b y).foldl (vis mo) qs) → WP 91 25 [.ref 64, .ref kn, .int (nI f), .int (nI o), .int (nI b), .int (nI (f ||| o)), .int (if pc (f ||| o) < b then 1 else 0), .int (nI (y + 1)), y8, y9] [] (VHp h q l qu' mk' ((prT P f o b y).foldl (vis mo) qs).length) Q := fun y8 y9 qu' mk' g => ih (y + 1) _ qu' mk' y8 y9 (by omega) (by omega) (vfold_len _ _ hql) g kk
      have hsv : ∀ s : Prop, (s ↔ (f ||| o) &&& P y = P y) → (nI (f ||| o) &&& nI (P y) = nI (P y) ↔ s) := fun s hs => by
        rw [nI_and, nI_eq hab (by omega), hs]
      rw [w91_25]
      cases qf : f.testBit y with
      | true =>
        rw [qf] at hbf
        have eT : prT P f o b y = [cod (sdf f (2 ^ y)) o] := by unfold prT; rw [if_pos qf]
        rw [eT] at go
        have hs6 := lt256 (sdf_lt (c := 2 ^ y) hf) hn8
        simp only [w91_a, w91_b, hr, ekn, ekn3, hF, h0, hle, t1, s140, s141, cy, iy, hPy, hbf, hpw, nI_sdf, if_true, show (nI 1 = 1) from rfl, Option.toList_some, List.cons_append, List.nil_append, true_or, or_true, true_implies, not_true_eq_false, not_false_eq_true, false_implies, and_true, true_and]
        refine s83 x hmo hs6 ho6 hql vr fun qu' mk' g => ?_
        simp only [w91_a, w91_b, Option.toList_none, List.nil_append, nI_1]
        exact go _ _ qu' mk' g
      | false =>
        rw [qf] at hbf
        cases qo : o.testBit y with
        | true =>
          rw [qo] at hbo
          by_cases q3 : (f ||| o) &&& P y = P y
          · have q3' : nI (f ||| o) &&& nI (P y) = nI (P y) := by rw [nI_and, q3]
            have eT : prT P f o b y = [cod (f ||| 2 ^ y) (sdf o (2 ^ y))] := by unfold prT; rw [if_neg (by rw [qf]; exact Bool.false_ne_true), if_pos qo, if_pos q3]
            rw [eT] at go
            have hs6 := lt256 (or_lt2 hf h2y) hn8
            have hs7 := lt256 (sdf_lt (c := 2 ^ y) ho) hn8
            simp only [w91_a, w91_b, hr, ekn, ekn3, hF, h0, hle, t1, s140, s141, cy, iy, hPy, hbf, hbo, q3', hpw, nI_sdf, nI_or, i32_10, if_true, if_false, Bool.false_eq_true, show ¬ (nI 0 = 1) from by decide, show (nI 1 = 1) from rfl, Option.toList_some, List.cons_append, List.nil_append, true_or, or_true, true_implies, not_true_eq_false, not_false_eq_true, false_implies, and_true, true_and]
            refine s83 x hmo hs6 hs7 hql vr fun qu' mk' g => ?_
            simp only [w91_a, w91_b, Option.toList_none, List.nil_append, nI_1]
            exact go _ _ qu' mk' g
          · have q3' : ¬ nI (f ||| o) &&& nI (P y) = nI (P y) := fun z => by rw [nI_and] at z; exact q3 (nI_inj hab (by omega) z)
            have eT : prT P f o b y = [] := by unfold prT; rw [if_neg (by rw [qf]; exact Bool.false_ne_true), if_pos qo, if_neg q3]
            rw [eT] at go
            simp only [w91_a, w91_b, hr, ekn, ekn3, hF, h0, hle, t1, s140, s141, cy, iy, hPy, hbf, hbo, q3', i32_10, if_true, if_false, Bool.false_eq_true, show ¬ (nI 0 = 1) from by decide, show (nI 1 = 1) from rfl, Option.toList_some, List.cons_append, List.nil_append, true_or, or_true, true_implies, not_true_eq_false, not_false_eq_true, false_implies, and_true, true_and, nI_1]
            exact go _ _ qu mk vr
        | false =>
          rw [qo] at hbo
          by_cases q1 : pc (f ||| o) < b
          · simp only [if_pos q1] at go ⊢
            have hs6 := lt256 (or_lt2 ho h2y) hn8
            have hs7 := lt256 (or_lt2 hf h2y) hn8
            by_cases q3 : (f ||| o) &&& P y = P y
            · have q3' : nI (f ||| o) &&& nI (P y) = nI (P y) := by rw [nI_and, q3]
              have eT : prT P f o b y = [cod f (o ||| 2 ^ y), cod (f ||| 2 ^ y) o] := by unfold prT; rw [if_neg (by rw [qf]; exact Bool.false_ne_true), if_neg (by rw [qo]; exact Bool.false_ne_true), if_pos q1, if_pos q3]
              rw [eT] at go
              simp only [w91_a, w91_b, hr, ekn, ekn3, hF, h0, hle, t1, s140, s141, cy, iy, hPy, hbf, hbo, q3', hpw, nI_or, i32_10, if_true, if_false, Bool.false_eq_true, show ¬ (nI 0 = 1) from by decide, show (nI 1 = 1) from rfl, Option.toList_some, List.cons_append, List.nil_append, true_or, or_true, true_implies, not_true_eq_false, not_false_eq_true, false_implies, and_true, true_and]
              refine s83 x hmo hf6 hs6 hql vr fun qu' mk' g => ?_
              simp only [w91_a, w91_b, hr, t1, nI_or, i32_10, Option.toList_none, List.nil_append, true_or, or_true, true_implies, not_true_eq_false, not_false_eq_true, false_implies, and_true, true_and]
              refine s83 x hmo hs7 ho6 (vis_len hql) g fun qu2 mk2 g2 => ?_
              simp only [w91_a, w91_b, Option.toList_none, List.nil_append, nI_1]
              exact go _ _ qu2 mk2 g2
            · have q3' : ¬ nI (f ||| o) &&& nI (P y) = nI (P y) := fun z => by rw [nI_and] at z; exact q3 (nI_inj hab (by omega) z)
              have eT : prT P f o b y = [cod f (o ||| 2 ^ y)] := by unfold prT; rw [if_neg (by rw [qf]; exact Bool.false_ne_true), if_neg (by rw [qo]; exact Bool.false_ne_true), if_pos q1, if_neg q3]
              rw [eT] at go
              simp only [w91_a, w91_b, hr, ekn, ekn3, hF, h0, hle, t1, s140, s141, cy, iy, hPy, hbf, hbo, q3', hpw, nI_or, i32_10, if_true, if_false, Bool.false_eq_true, show ¬ (nI 0 = 1) from by decide, show (nI 1 = 1) from rfl, Option.toList_some, List.cons_append, List.nil_append, true_or, or_true, true_implies, not_true_eq_false, not_false_eq_true, false_implies, and_true, true_and]
              refine s83 x hmo hf6 hs6 hql vr fun qu' mk' g => ?_
              simp only [w91_a, w91_b, Option.toList_none, List.nil_append, true_or, or_true, true_implies, not_true_eq_false, not_false_eq_true, false_implies, and_true, true_and, nI_1]
              exact go _ _ qu' mk' g
          · simp only [if_neg q1] at go ⊢
            have eT : prT P f o b y = [] := by unfold prT; rw [if_neg (by rw [qf]; exact Bool.false_ne_true), if_neg (by rw [qo]; exact Bool.false_ne_true), if_neg q1]
            rw [eT] at go
            simp only [w91_a, w91_b, hr, ekn, ekn3, hF, h0, hle, t1, s140, s141, cy, iy, hPy, hbf, hbo, i32_10, if_true, if_false, Bool.false_eq_true, show ¬ (nI 0 = 1) from by decide, Option.toList_some, List.cons_append, List.nil_append, true_or, or_true, true_implies, not_true_eq_false, not_false_eq_true, false_implies, and_true, true_and, nI_1]
            exact go _ _ qu mk vr
  rw [we91]
  have start := fun y8 y9 => lp n 0 qs qu mk y8 y9 rfl (Nat.zero_le _) hql vr k
  by_cases q1 : pc (f ||| o) < b
  · have hlt : ¬ nI b ≤ nI (pc (f ||| o)) := nI_ge q1 (by omega)
    simp only [if_pos q1] at start
    simp only [w91_a, w91_b, nI_or, s218, hbc, hlt, Option.toList_some, List.cons_append, List.nil_append, true_or, or_true, true_implies, not_true_eq_false, not_false_eq_true, false_implies, and_true, true_and]
    exact start _ _
  · have hlt : nI b ≤ nI (pc (f ||| o)) := nI_le (by omega) (by omega)
    simp only [if_neg q1] at start
    simp only [w91_a, w91_b, nI_or, s218, hbc, hlt, Option.toList_some, List.cons_append, List.nil_append, true_or, or_true, true_implies, not_true_eq_false, not_false_eq_true, false_implies, and_true, true_and]
    exact start _ _
theorem s88 {full : Nat} {qs : List Nat} {qu mk : Nat → Int32} (x : VX h q l mo) (hmo : mo < 2 ^ 30) (hf : full < 256) (hql : qs.length ≤ mo) (vr : VR qu mk qs)
    (k : ∀ qu' mk', VR qu' mk' (vf mo (waT full) 0 (full + 1) qs) → Q none (VHp h q l qu' mk' (vf mo (waT full) 0 (full + 1) qs).length)) : WPM 88 [.ref 64, .int (nI full)] (VHp h q l qu mk qs.length) Q := by
  have t1 := x.1.1
  have hr := VHp_r (h := h) x.2.2.1.1 x.2.2.1.2.1 x.2.2.1.2.2
  have lp : ∀ d y qs qu mk, full + 1 - y = d → y ≤ full + 1 → qs.length ≤ mo → VR qu mk qs → (∀ qu' mk', VR qu' mk' (vf mo (waT full) y d qs) → Q none (VHp h q l qu' mk' (vf mo (waT full) y d qs).length)) → WP 88 2 [.ref 64, .int (nI full), .int (nI y)] [] (VHp h q l qu mk qs.length) Q := by
    intro d
    induction d with
    | zero =>
      intro y qs qu mk hd hy hql vr kk
      have hle : nI full < nI y := nI_lt (by omega) (by omega)
      rw [w88_2]
      simp only [w88, hle, true_implies, not_true_eq_false, false_implies, and_true]
      exact kk qu mk vr
    | succ d ih =>
      intro y qs qu mk hd hy hql vr kk
      have hle : ¬ nI full < nI y := nI_nlt (by omega) (by omega)
      have hab : full &&& y < 2 ^ 31 := Nat.lt_of_le_of_lt Nat.and_le_left (by omega)
      have go : ∀ qu' mk', VR qu' mk' ((waT full y).foldl (vis mo) qs) → WP 88 2 [.ref 64, .int (nI full), .int (nI (y + 1))] [] (VHp h q l qu' mk' ((waT full y).foldl (vis mo) qs).length) Q := fun qu' mk' g => ih (y + 1) _ qu' mk' (by omega) (by omega) (vfold_len _ _ hql) g kk
      rw [w88_2]
      by_cases q3 : full &&& y = y
      · have q3' : nI full &&& nI y = nI y := by rw [nI_and, q3]
        have eT : waT full y = [cod y 1] := by unfold waT; rw [if_pos q3]
        rw [eT] at go
        simp only [w88, hle, t1, hr, s141, q3', if_true, i32_10, Option.toList_some, List.cons_append, List.nil_append, true_or, or_true, true_implies, not_true_eq_false, not_false_eq_true, false_implies, and_true, true_and]
        refine s83 (b := 1) x hmo (show y < 256 by omega) (by decide) hql vr fun qu' mk' g => ?_
        simp only [w88, Option.toList_none, List.nil_append, nI_1]
        exact go qu' mk' g
      · have q3' : ¬ nI full &&& nI y = nI y := fun z => by rw [nI_and] at z; exact q3 (nI_inj hab (by omega) z)
        have eT : waT full y = [] := by unfold waT; rw [if_neg q3]
        rw [eT] at go
        simp only [w88, hle, s141, q3', if_false, Option.toList_some, List.cons_append, List.nil_append, true_or, or_true, true_implies, not_true_eq_false, not_false_eq_true, false_implies, and_true, true_and, nI_1]
        exact go qu mk vr
  rw [we88]
  simp only [w88]
  exact lp (full + 1) 0 qs qu mk rfl (Nat.zero_le _) hql vr k
theorem s89 {full ck : Nat} {qs : List Nat} {qu mk : Nat → Int32} (x : VX h q l mo) (hmo : mo < 2 ^ 30) (hp : NetP h kn n P) (po : PartsOK n P) (hn8 : n ≤ 8) (hkn : kn + 10 < 27) (hf : full < 2 ^ n) (hck : ck < 65536) (hb : b < 65536) (hql : qs.length ≤ mo) (vr : VR qu mk qs)
    (k : ∀ qu' mk', VR qu' mk' (vf mo (atT full (mcN P full n) ck b) 1 (mcN P full n) qs) → Q none (VHp h q l qu' mk' (vf mo (atT full (mcN P full n) ck b) 1 (mcN P full n) qs).length)) : WPM 89 [.ref 64, .ref kn, .int (nI full), .int (nI ck), .int (nI b)] (VHp h q l qu mk qs.length) Q := by
  have t1 := x.1.1
  have hr := VHp_r (h := h) x.2.2.1.1 x.2.2.1.2.1 x.2.2.1.2.2
  have ekn : ∀ qu mk m, hI (VHp h q l qu mk m) kn = hI h kn := fun qu mk m => x.nn (by omega) qu mk m
  have ekn3 : ∀ qu mk m, hI (VHp h q l qu mk m) (kn + 3) = hI h (kn + 3) := fun qu mk m => x.nn (by omega) qu mk m
  obtain ⟨hF, h0, hn14, hP⟩ := hp
  have hf6 := lt256 hf hn8
  have hmc := mcN_lt (P := P) (full := full) n
  have hmc6 := lt256 hmc hn8
  have lp2 : ∀ d y qs qu mk, mcN P full n + 1 - y = d → 1 ≤ y → y ≤ mcN P full n + 1 → qs.length ≤ mo → VR qu mk qs → (∀ qu' mk', VR qu' mk' (vf mo (atT full (mcN P full n) ck b) y d qs) → Q none (VHp h q l qu' mk' (vf mo (atT full (mcN P full n) ck b) y d qs).length)) → WP 89 56 [.ref 64, .ref kn, .int (nI full), .int (nI ck), .int (nI b), .int (nI (mcN P full n)), .int (nI y)] [] (VHp h q l qu mk qs.length) Q := by
    intro d
    induction d with
    | zero =>
      intro y qs qu mk hd hy1 hy hql vr kk
      have hle : nI (mcN P full n) < nI y := nI_lt (by omega) (by omega)
      rw [w89_56]
      simp only [w89_a, w89_b, hle, true_implies, not_true_eq_false, false_implies, and_true]
      exact kk qu mk vr
    | succ d ih =>
      intro y qs qu mk hd hy1 hy hql vr kk
      have hle : ¬ nI (mcN P full n) < nI y := nI_nlt (by omega) (by omega)
      have hab : mcN P full n &&& y < 2 ^ 31 := Nat.lt_of_le_of_lt Nat.and_le_left (by omega)
      have hbc : bcI (nI y) = nI (pc y) := bc_pc (by omega)
      have hpy := pc_le y
      have go : ∀ qu' mk', VR qu' mk' ((atT full (mcN P full n) ck b y).foldl (vis mo) qs) → WP 89 56 [.ref 64, .ref kn, .int (nI full), .int (nI ck), .int (nI b), .int (nI (mcN P full n)), .int (nI (y + 1))] [] (VHp h q l qu' mk' ((atT full (mcN P full n) ck b y).foldl (vis mo) qs).length) Q := fun qu' mk' g => ih (y + 1) _ qu' mk' (by omega) (by omega) (by omega) (vfold_len _ _ hql) g kk
      rw [w89_56]
      by_cases q3 : mcN P full n &&& y = y
      · have q3' : nI (mcN P full n) &&& nI y = nI y := by rw [nI_and, q3]
        by_cases q4 : pc y ≤ ck
        · have c4 : ¬ nI ck < nI (pc y) := nI_nlt q4 (by omega)
          have hor : full ||| y < 2 ^ n := or_lt2 hf (by omega)
          have hor6 := lt256 hor hn8
          have hbc2 : bcI (nI (full ||| y)) = nI (pc (full ||| y)) := bc_pc (by omega)
          have hp2 := pc_le (full ||| y)
          by_cases q5 : pc (full ||| y) ≤ b
          · have c5 : ¬ nI b < nI (pc (full ||| y)) := nI_nlt q5 (by omega)
            have eT : atT full (mcN P full n) ck b y = [cod (full ||| y) 0] := by unfold atT; rw [if_pos ⟨q3, q4, q5⟩]
            rw [eT] at go
            simp only [w89_a, w89_b, hle, t1, hr, s141, s218, hbc, hbc2, nI_or, c4, c5, q3', if_true, i32_10, Option.toList_some, List.cons_append, List.nil_append, true_or, or_true, true_implies, not_true_eq_false, not_false_eq_true, false_implies, and_true, true_and]
            refine s83 (b := 0) x hmo hor6 (by decide) hql vr fun qu' mk' g => ?_
            simp only [w89_a, w89_b, Option.toList_none, List.nil_append, nI_1]
            exact go qu' mk' g
          · have c5 : nI b < nI (pc (full ||| y)) := nI_lt (by omega) (by omega)
            have eT : atT full (mcN P full n) ck b y = [] := by unfold atT; rw [if_neg (fun z => q5 z.2.2)]
            rw [eT] at go
            simp only [w89_a, w89_b, hle, t1, hr, s141, s218, hbc, hbc2, nI_or, c4, c5, q3', if_true, i32_10, Option.toList_some, List.cons_append, List.nil_append, true_or, or_true, true_implies, not_true_eq_false, not_false_eq_true, false_implies, and_true, true_and, nI_1]
            exact go qu mk vr
        · have c4 : nI ck < nI (pc y) := nI_lt (by omega) (by omega)
          have eT : atT full (mcN P full n) ck b y = [] := by unfold atT; rw [if_neg (fun z => q4 z.2.1)]
          rw [eT] at go
          simp only [w89_a, w89_b, hle, s141, s218, hbc, c4, q3', if_true, i32_10, Option.toList_some, List.cons_append, List.nil_append, true_or, or_true, true_implies, not_true_eq_false, not_false_eq_true, false_implies, and_true, true_and, nI_1]
          exact go qu mk vr
      · have q3' : ¬ nI (mcN P full n) &&& nI y = nI y := fun z => by rw [nI_and] at z; exact q3 (nI_inj hab (by omega) z)
        have eT : atT full (mcN P full n) ck b y = [] := by unfold atT; rw [if_neg (fun z => q3 z.1)]
        rw [eT] at go
        simp only [w89_a, w89_b, hle, s141, q3', if_false, Option.toList_some, List.cons_append, List.nil_append, true_or, or_true, true_implies, not_true_eq_false, not_false_eq_true, false_implies, and_true, true_and, nI_1]
        exact go qu mk vr
  have lp1 : ∀ d y, n - y = d → y ≤ n → WP 89 6 [.ref 64, .ref kn, .int (nI full), .int (nI ck), .int (nI b), .int (nI (mcN P full y)), .int (nI y)] [] (VHp h q l qu mk qs.length) Q := by
    intro d
    induction d with
    | zero =>
      intro y hd hy
      have hle : nI n ≤ nI y := nI_le (by omega) (by omega)
      have : y = n := by omega
      subst this
      rw [w89_6]
      simp only [w89_a, w89_b, hr, ekn, hF, h0, hle, true_implies, not_true_eq_false, false_implies, and_true]
      exact lp2 (mcN P full y) 1 qs qu mk (by omega) (Nat.le_refl _) (by omega) hql vr k
    | succ d ih =>
      intro y hd hy
      have hyn : y < n := by omega
      have hle : ¬ nI n ≤ nI y := nI_ge (by omega) (by omega)
      have hbit : nI full >>> (nI y &&& 31) &&& 1 = nI (if full.testBit y = true then 1 else 0) := nI_shr_bit32 (by omega)
      have hpw : (1 : Int32) <<< (nI y &&& 31) = nI (2 ^ y) := nI_pow y (by omega)
      have cy : (nI y).toNatClampNeg = y := nI_clamp (by omega)
      have iy : inb (nI y) 14 = true := inb_nI (by omega) (by decide)
      have hPy := hP y hyn
      have hP6 := lt256 (po.lt hyn) hn8
      have hab : full &&& P y < 2 ^ 31 := Nat.lt_of_le_of_lt Nat.and_le_left (by omega)
      have hgo := ih (y + 1) (by omega) (by omega)
      have em : mcN P full (y + 1) = if full.testBit y = false ∧ full &&& P y = P y then mcN P full y ||| 2 ^ y else mcN P full y := rfl
      rw [w89_6]
      cases qb : full.testBit y with
      | true =>
        rw [qb] at hbit
        rw [em, if_neg (fun z => by rw [qb] at z; cases z.1)] at hgo
        simp only [w89_a, w89_b, hr, ekn, hF, h0, hle, s140, hbit, if_true, show ¬ (nI 1 = 0) from by decide, Option.toList_some, List.cons_append, List.nil_append, true_or, or_true, true_implies, not_true_eq_false, not_false_eq_true, false_implies, and_true, true_and, nI_1]
        exact hgo
      | false =>
        rw [qb] at hbit
        by_cases q3 : full &&& P y = P y
        · have q3' : nI full &&& nI (P y) = nI (P y) := by rw [nI_and, q3]
          rw [em, if_pos ⟨qb, q3⟩] at hgo
          simp only [w89_a, w89_b, hr, ekn, ekn3, hF, h0, hle, s140, s141, cy, iy, hPy, hbit, q3', hpw, nI_or, i32_10, if_true, if_false, Bool.false_eq_true, show (nI 0 = 0) from rfl, Option.toList_some, List.cons_append, List.nil_append, true_or, or_true, true_implies, not_true_eq_false, not_false_eq_true, false_implies, and_true, true_and, nI_1]
          exact hgo
        · have q3' : ¬ nI full &&& nI (P y) = nI (P y) := fun z => by rw [nI_and] at z; exact q3 (nI_inj hab (by omega) z)
          rw [em, if_neg (fun z => q3 z.2)] at hgo
          simp only [w89_a, w89_b, hr, ekn, ekn3, hF, h0, hle, s140, s141, cy, iy, hPy, hbit, q3', if_false, Bool.false_eq_true, show (nI 0 = 0) from rfl, Option.toList_some, List.cons_append, List.nil_append, true_or, or_true, true_implies, not_true_eq_false, not_false_eq_true, false_implies, and_true, true_and, nI_1]
          exact hgo
  rw [we89]
  simp only [w89_a]
  exact lp1 n 0 rfl (Nat.zero_le _)
end Moves2

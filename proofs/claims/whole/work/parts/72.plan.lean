/-! ===== Orders.bowlsOf; Plan.keep, weigh ===== -/
/-- an order told as bytes: the most bowls, or none -/
def ordW (n : Nat) (P : Nat → Nat) (nd wi w : Nat) (t : Nat → Int32) : Nat → Nat → Nat → Nat → Int32
  | 0, _, _, most => nI most
  | k + 1, i, made, most => if (0 ≤ t i ∧ t i < nI n) ∧ mayC P nd made (t i).toNatClampNeg = true then ordW n P nd wi w t k (i + 1) (made ||| 2 ^ (t i).toNatClampNeg) (max most (ndB n P nd wi w made (t i).toNatClampNeg)) else -1
section Bowls
variable {h : AH} {kn n nd wi w len : Nat} {P U : Nat → Nat} {Q : Option Value → AH → Prop}
theorem bowls_l (hx : NetO h kn n P nd wi U) (ok : NdOK n P nd wi U) (hw : w < 2) (hkn : kn + 10 < 36) (h60 : hT h 60 = 5) (h3T : hT h 3 = 101 ∧ hL h 3 = 540) (hlen : len ≤ 540)
    (k : ∀ g, (∀ j, j ≠ 3 → j ≠ 4 → g j = hI h 60 j) → Q (some (.int (ordW n P nd wi w (hI h 3) len 0 0 0))) (setI h 60 g)) :
    ∀ d i made most g y8, len - i = d → i ≤ len → made < 2 ^ n → most ≤ 15 → (∀ j, j ≠ 3 → j ≠ 4 → g j = hI h 60 j) → ordW n P nd wi w (hI h 3) len 0 0 0 = ordW n P nd wi w (hI h 3) d i made most → WP 40 30 [.ref 60, .ref kn, .int (nI w), .ref 3, .int (nI len), .int (nI made), .int (nI most), .int (nI i), y8] [] (setI h 60 g) Q := by
  obtain ⟨s1, s2, s3, s4, s5⟩ := ok.sm
  have hs1 := hs_setI h 60
  have e3 : ∀ g, hI (setI h 60 g) 3 = hI h 3 := fun g => by rw [hI_setI, if_neg (by decide)]
  have hxg : ∀ g, NetO (setI h 60 g) kn n P nd wi U := fun g => NetO.only setI_only (fun a a1 a2 => by omega) hx
  have ekn : ∀ g, hI (setI h 60 g) kn = hI h kn := fun g => by rw [hI_setI, if_neg (by omega)]
  intro d
  induction d with
  | zero =>
    intro i made most g y8 hd hi hm hmo hg he
    have hle : nI len ≤ nI i := nI_le (by omega) (by omega)
    rw [w40_30]
    simp only [w40_a, w40_b, hle, true_implies, not_true_eq_false, false_implies, and_true]
    have := k g hg
    rw [he] at this
    exact this
  | succ d ih =>
    intro i made most g y8 hd hi hm hmo hg he
    have hle : ¬ nI len ≤ nI i := nI_ge (by omega) (by omega)
    have c1 : (nI i).toNatClampNeg = i := nI_clamp (by omega)
    have i1 : inb (nI i) 540 = true := inb_nI (by omega) (by decide)
    have hkt : hT h kn = 4 := hx.1.1.1
    have h0 := hx.1.2.1
    rw [w40_30]
    have hstep : ordW n P nd wi w (hI h 3) (d + 1) i made most = if (0 ≤ hI h 3 i ∧ hI h 3 i < nI n) ∧ mayC P nd made (hI h 3 i).toNatClampNeg = true then ordW n P nd wi w (hI h 3) d (i + 1) (made ||| 2 ^ (hI h 3 i).toNatClampNeg) (max most (ndB n P nd wi w made (hI h 3 i).toNatClampNeg)) else -1 := rfl
    by_cases q1 : 0 ≤ hI h 3 i ∧ hI h 3 i < nI n
    · obtain ⟨x, hx9, ex⟩ := nI_of (x := hI h 3 i) (Int32.not_lt.mpr q1.1)
      have hxn : x < n := (nI_ltI hx9 (by omega)).mp (by rw [← ex]; exact q1.2)
      have cx : (hI h 3 i).toNatClampNeg = x := by rw [ex]; exact nI_clamp hx9
      rw [cx] at hstep
      by_cases q2 : mayC P nd made x = true
      · rw [if_pos ⟨q1, q2⟩] at hstep
        rw [ex] at q1
        simp only [w40_a, hle, hs1, e3, h3T, c1, i1, ex, hkt, s24 (hxg g).1.1, ekn, h0, q1, and_self, if_true, i32_10, s41 (hxg g) ok hxn (show made < 65536 by omega), if_pos q2, h60, Option.toList_some, List.cons_append, List.nil_append, true_or, or_true, true_implies, not_true_eq_false, not_false_eq_true, false_implies, and_true, true_and]
        refine s42 (hxg g) ok (by omega) hkn h60 fun g' hg' lk => ?_
        have hpw : (1 : Int32) <<< (nI x &&& 31) = nI (2 ^ x) := nI_pow x (by omega)
        have hn9 : ndB n P nd wi w made x ≤ n + 1 := ndB_le
        have m1 := mxI (a := most) (b := ndB n P nd wi w made x) (by omega) (by omega)
        rw [setI_setI] at lk ⊢
        simp only [w40_a, w40_b, h60, hs1, s43 (hxg g') ok hxn hw h60 lk q2, m1, hpw, nI_or, Option.toList_some, Option.toList_none, List.cons_append, List.nil_append, true_or, or_true, true_implies, not_true_eq_false, not_false_eq_true, false_implies, and_true, true_and, nI_1]
        refine ih (i + 1) _ _ g' _ (by omega) (by omega) (or_lt2 hm (p2_lt hxn)) (by omega) (fun j j3 j4 => ?_) (by rw [he, hstep])
        rw [hg' j j3 j4, hI_setI, if_pos rfl]
        exact hg j j3 j4
      · rw [if_neg (fun z => q2 z.2)] at hstep
        rw [ex] at q1
        simp only [w40_a, hle, hs1, e3, h3T, c1, i1, ex, hkt, s24 (hxg g).1.1, ekn, h0, q1, and_self, if_true, i32_10, s41 (hxg g) ok hxn (show made < 65536 by omega), if_neg q2, Option.toList_some, List.cons_append, List.nil_append, true_or, or_true, true_implies, not_true_eq_false, not_false_eq_true, false_implies, and_true, true_and]
        have := k g hg
        rw [he, hstep] at this
        exact this
    · rw [if_neg (fun z => q1 z.1)] at hstep
      simp only [w40_a, hle, hs1, e3, h3T, c1, i1, hkt, s24 (hxg g).1.1, ekn, h0, if_neg q1, Option.toList_some, List.cons_append, List.nil_append, true_or, or_true, true_implies, not_true_eq_false, not_false_eq_true, false_implies, and_true, true_and]
      have := k g hg
      rw [he, hstep] at this
      exact this
theorem s40 (hx : NetO h kn n P nd wi U) (ok : NdOK n P nd wi U) (hw : w < 2) (hkn : kn + 10 < 36) (h60 : hT h 60 = 5) (h3T : hT h 3 = 101 ∧ hL h 3 = 540) (hlen : len ≤ 540)
    (k : ∀ g, (∀ j, j ≠ 3 → j ≠ 4 → g j = hI h 60 j) → Q (some (.int (if len = pc nd then ordW n P nd wi w (hI h 3) len 0 0 0 else -1))) (setI h 60 g)) : WPM 40 [.ref 60, .ref kn, .int (nI w), .ref 3, .int (nI len)] h Q := by
  obtain ⟨s1, s2, s3, s4, s5⟩ := ok.sm
  have hbc : bcI (nI nd) = nI (pc nd) := bc_pc (by omega)
  have hf := hx.1.1
  have h3 := hx.2.2.1
  have hp16 := pc_le nd
  rw [we40]
  by_cases q : len = pc nd
  · have q' : nI len = nI (pc nd) := by rw [q]
    have hle : nI len ≤ nI 540 := nI_le hlen (by decide)
    rw [if_pos q] at k
    simp only [w40_a, hf, h3, s218, hbc, q', h3T, Option.toList_some, List.cons_append, List.nil_append, true_or, or_true, true_implies, not_true_eq_false, not_false_eq_true, false_implies, and_true, true_and]
    rw [q'] at hle
    simp only [w40_a, hle, true_implies, not_true_eq_false, not_false_eq_true, false_implies, and_true, true_and]
    have := setI_id h 60
    rw [← q', ← this]
    exact bowls_l hx ok hw hkn h60 h3T hlen k len 0 0 0 _ _ (by omega) (Nat.zero_le _) (Nat.pow_pos (by decide)) (by omega) (fun _ _ _ => rfl) rfl
  · have q' : ¬ nI len = nI (pc nd) := fun z => q (nI_inj (by omega) (by omega) z)
    rw [if_neg q] at k
    have := k (hI h 60) (fun _ _ _ => rfl)
    rw [setI_id] at this
    simp only [w40_a, hf, h3, s218, hbc, q', Option.toList_some, List.cons_append, List.nil_append, true_or, or_true, true_implies, not_true_eq_false, not_false_eq_true, false_implies, and_true, true_and]
    exact this
end Bowls
/-- the plan that is kept -/
def PLn (h : AH) (pl : List Nat) : Prop := hI h 42 3 = nI pl.length ∧ pl.length ≤ 60 ∧ (∀ j v, pl[j]? = some v → hI h 43 j = nI v) ∧ ∀ v, v ∈ pl → v < 1000
theorem findA_some {L : List Act} {k j : Nat} : findA L k = some j → ∃ a, L[j]? = some a ∧ a.1 = k := by
  induction L generalizing j with
  | nil => intro h; cases h
  | cons a L ih =>
    intro h
    change (if a.1 = k then some 0 else (findA L k).map (· + 1)) = some j at h
    by_cases q : a.1 = k
    · rw [if_pos q] at h
      cases h
      exact ⟨a, rfl, q⟩
    · rw [if_neg q] at h
      cases e : findA L k with
      | none => rw [e] at h; cases h
      | some j' =>
        rw [e] at h
        have : j' + 1 = j := Option.some.inj h
        subst this
        exact ih e
/-- the act of that number -/
def actN (L : List Act) (p : Nat) : Option Act := (findA L p).bind (fun j => L[j]?)
/-- going through a plan: where it stops; full, most, spent -/
def jW (L : List Act) (N b : Nat) (C : Nat → Nat) : List Nat → Nat → Nat × Nat × Nat → Option Nat × Nat × Nat × Nat
  | [], _, z => (none, z)
  | p :: l, i, z => match (actN L p).bind (fun a => (aft N b a z.1).map (fun t => (a, t))) with
    | none => (some i, z)
    | some (a, t) => jW L N b C l (i + 1) (t, max z.2.1 (pc t), z.2.2 + prA C none a)
def jR (e : Nat → Bool) (len : Nat) (r : Option Nat × Nat × Nat × Nat) : Int32 := match r.1 with
  | some i => nI i
  | none => if e r.2.1 = true then nI (1000 + len) else -1 - nI len
section Weigh
variable {h : AH} {B M kn n w wi b N : Nat} {P C : Nat → Nat} {L : List Act} {pl : List Nat} {Q : Option Value → AH → Prop}
theorem weigh_l (hf : F_acts h) (hA : ActsHold h N L) (ha : ActsOK L) (hnum : ∀ a ∈ L, a.1 < 1000) (hLm : ∀ a ∈ L, a.2.1 ≤ n) (hN9 : N ≤ 16384) (hb9 : b < 65536) (hw : w < 8) (hwi : wi < 65536) (hp : NetP h kn n P) (hkn : kn + 10 < 36) (hC : ∀ x, x < n → hI h (kn + 2) x = nI (C x)) (h2 : hI h kn 2 = nI wi) (hpl : PLn h pl) (h42 : hT h 42 = 6 ∧ hR h 42 1 = 36 ∧ hR h 42 2 = 43 ∧ hT h 43 = 100 ∧ hL h 43 = 60 ∧ hT h 36 = 1)
    (k : ∀ g, (∀ j, j ≠ 4 → j ≠ 5 → g j = hI h 42 j) → g 4 = nI (jW L N b C pl 0 (0, 0, 0)).2.2.1 → g 5 = nI (jW L N b C pl 0 (0, 0, 0)).2.2.2 → Q (some (.int (jR (isEndB w wi) pl.length (jW L N b C pl 0 (0, 0, 0))))) (setI h 42 g)) :
    ∀ d i f mo sp g y6 y7, pl.length - i = d → i ≤ pl.length → f < N → mo ≤ 16 → (∀ j, j ≠ 4 → j ≠ 5 → g j = hI h 42 j) → g 4 = nI mo → g 5 = nI sp → jW L N b C pl 0 (0, 0, 0) = jW L N b C (pl.drop i) i (f, mo, sp) → WP 46 26 [.ref 42, .ref kn, .int (nI w), .int (nI b), .int (nI f), .int (nI i), y6, y7] [] (setI h 42 g) Q := by
  obtain ⟨ha1, ha2, ha3⟩ := ha
  obtain ⟨t1, t2, t3, t4, t5, t6⟩ := h42
  obtain ⟨p1, p2, p3, p4⟩ := hpl
  have hs1 := hs_setI h 42
  have e42 : ∀ g, hI (setI h 42 g) 42 = g := fun g => by rw [hI_setI, if_pos rfl]
  have eO : ∀ g a, a ≠ 42 → hI (setI h 42 g) a = hI h a := fun g a q => by rw [hI_setI, if_neg q]
  have e43 : ∀ g, hI (setI h 42 g) 43 = hI h 43 := fun g => eO g 43 (by decide)
  have e38 : ∀ g, hI (setI h 42 g) 38 = hI h 38 := fun g => eO g 38 (by decide)
  have ekn : ∀ g, hI (setI h 42 g) kn = hI h kn := fun g => eO g kn (by omega)
  have ekn2 : ∀ g, hI (setI h 42 g) (kn + 2) = hI h (kn + 2) := fun g => eO g (kn + 2) (by omega)
  have hAg : ∀ g, ActsHold (setI h 42 g) N L := fun g => hA.ofI fun a q1 q2 => eO g a (by omega)
  have hFN := hp.1
  have hn14 := hp.2.2.1
  intro d
  induction d with
  | zero =>
    intro i f mo sp g y6 y7 hd hi hfN hmo hg g4 g5 he
    have hle : nI pl.length ≤ nI i := nI_le (by omega) (by omega)
    have : i = pl.length := by omega
    subst this
    rw [List.drop_length] at he
    have hk := k g hg
    rw [he] at hk
    have hk' := hk g4 g5
    have g3 : g 3 = nI pl.length := (hg 3 (by decide) (by decide)).trans p1
    rw [w46_26]
    by_cases q : isEndP w wi f
    · have er : jR (isEndB w wi) pl.length (jW L N b C [] pl.length (f, mo, sp)) = nI (1000 + pl.length) := by
        show (if isEndB w wi f = true then _ else _) = _
        rw [if_pos q]
      rw [er] at hk'
      have e1000 : (1000 : Int32) + nI pl.length = nI (1000 + pl.length) := nI_add 1000 _
      simp only [w46_a, w46_b, w46_c, hs1, e42, ekn, t1, g3, hle, hFN, h2, s142n hw (show f < 65536 by omega) hwi, if_pos q, i32_10, e1000, Option.toList_some, List.cons_append, List.nil_append, true_or, or_true, true_implies, not_true_eq_false, not_false_eq_true, false_implies, and_true, true_and]
      exact hk'
    · have er : jR (isEndB w wi) pl.length (jW L N b C [] pl.length (f, mo, sp)) = -1 - nI pl.length := by
        show (if isEndB w wi f = true then _ else _) = _
        rw [if_neg q]
      rw [er] at hk'
      simp only [w46_a, w46_b, w46_c, hs1, e42, ekn, t1, g3, hle, hFN, h2, s142n hw (show f < 65536 by omega) hwi, if_neg q, Option.toList_some, List.cons_append, List.nil_append, true_or, or_true, true_implies, not_true_eq_false, not_false_eq_true, false_implies, and_true, true_and]
      exact hk'
  | succ d ih =>
    intro i f mo sp g y6 y7 hd hi hfN hmo hg g4 g5 he
    have hil : i < pl.length := by omega
    have hle : ¬ nI pl.length ≤ nI i := nI_ge (by omega) (by omega)
    have g3 : g 3 = nI pl.length := (hg 3 (by decide) (by decide)).trans p1
    have c1 : (nI i).toNatClampNeg = i := nI_clamp (by omega)
    have i1 : inb (nI i) 60 = true := inb_nI (by omega) (by decide)
    have hpi := p3 i pl[i] (List.getElem?_eq_getElem hil)
    have hp9 := p4 pl[i] (List.getElem_mem hil)
    rw [List.drop_eq_getElem_cons hil] at he
    have hstep : jW L N b C (pl[i] :: pl.drop (i + 1)) i (f, mo, sp) = match (actN L pl[i]).bind (fun a => (aft N b a f).map (fun t => (a, t))) with
      | none => (some i, (f, mo, sp))
      | some (a, t) => jW L N b C (pl.drop (i + 1)) (i + 1) (t, max mo (pc t), sp + prA C none a) := rfl
    have hk := k g hg
    have stop : (actN L pl[i]).bind (fun a => (aft N b a f).map (fun t => (a, t))) = none → Q (some (.int (nI i))) (setI h 42 g) := fun hn => by
      rw [hn] at hstep
      rw [he, hstep] at hk
      exact hk g4 g5
    rw [w46_26]
    simp only [w46_a, hs1, e42, e43, t1, t2, t3, t4, t5, t6, g3, hle, c1, i1, hpi, true_or, or_true, true_implies, not_false_eq_true, false_implies, true_and]
    refine s6 (h := setI h 42 g) hf (hAg g) ha3 hp9 hnum ?_
    cases q0 : findA L pl[i] with
    | none =>
      simp only [w46_a, w46_b, oI_none, i32_0m1, Option.toList_some, List.cons_append, List.nil_append, true_or, or_true, true_implies, not_true_eq_false, not_false_eq_true, false_implies, and_true, true_and]
      exact stop (by unfold actN; rw [q0]; rfl)
    | some j =>
      obtain ⟨a, haj, -⟩ := findA_some q0
      have haL := List.mem_of_getElem? haj
      have hjl : j < L.length := by
        obtain ⟨hl, -⟩ := List.getElem?_eq_some_iff.mp haj
        exact hl
      have hact : actN L pl[i] = some a := by unfold actN; rw [q0]; exact haj
      have g0 : (0 : Int32) ≤ nI j := nI_pos' (by omega)
      have h7 := s7N (h := setI h 42 g) (N := N) (b := b) (s := f) hf (show j < 112 by omega) ((hAg g).2.1 j _ haj) (ha1 _ haL) (hAg g).2.2 (by omega) (show f < 65536 by omega) hb9
      have cj : (nI j).toNatClampNeg = j := nI_clamp (by omega)
      have ij : inb (nI j) 112 = true := inb_nI (by omega) (by decide)
      cases q1 : aft N b a f with
      | none =>
        rw [q1] at h7
        simp only [w46_a, w46_b, hs1, t1, t2, t6, h7, g0, oI_some, oI_none, i32_0m1, Option.toList_some, List.cons_append, List.nil_append, true_or, or_true, true_implies, not_true_eq_false, not_false_eq_true, false_implies, and_true, true_and]
        exact stop (by rw [hact]; show (aft N b a f).map _ = none; rw [q1]; rfl)
      | some t =>
        rw [q1] at h7
        have ht := aft_lt q1
        have g1 : (0 : Int32) ≤ nI t := nI_pos' (by omega)
        have hbc : bcI (nI t) = nI (pc t) := bc_pc (by omega)
        have hpl := pc_le t
        have m1 := mxI (a := mo) (b := pc t) (by omega) (by omega)
        have hmd : hI h 38 j = mkI a.2.1 := (hA.2.1 j _ haj).2.1
        have hst : jW L N b C (pl[i] :: pl.drop (i + 1)) i (f, mo, sp) = jW L N b C (pl.drop (i + 1)) (i + 1) (t, max mo (pc t), sp + prA C none a) := by
          rw [hstep, hact]
          show (match (aft N b a f).map (fun t => (a, t)) with
            | none => (some i, (f, mo, sp))
            | some (a, t) => jW L N b C (pl.drop (i + 1)) (i + 1) (t, max mo (pc t), sp + prA C none a)) = _
          rw [q1]
          rfl
        have hgo : ∀ g' y6 y7, (∀ j, j ≠ 4 → j ≠ 5 → g' j = g j) → g' 4 = nI (max mo (pc t)) → g' 5 = nI (sp + prA C none a) → WP 46 26 [.ref 42, .ref kn, .int (nI w), .int (nI b), .int (nI t), .int (nI (i + 1)), y6, y7] [] (setI h 42 g') Q := fun g' y6 y7 u1 u2 u3 => ih (i + 1) t _ _ g' y6 y7 (by omega) (by omega) ht.1 (by omega) (fun j j4 j5 => (u1 j j4 j5).trans (hg j j4 j5)) u2 u3 (by rw [he, hst])
        have hm := hLm a haL
        by_cases q2 : a.2.1 = 0
        · have em : mkI a.2.1 = -1 := by unfold mkI; rw [if_pos q2]
          rw [em] at hmd
          have ep : prA C none a = 0 := by unfold prA prO; rw [if_pos q2]
          simp only [w46_a, w46_b, hs1, e42, e38, t1, t2, t6, h7, g0, g1, oI_some, s218, hbc, g4, m1, sI_setI, hf, hFN, cj, ij, hmd, s24 (n := kn) (show F_net kn (setI h 42 (va_up g 4 (nI (max mo (pc t))))) from hFN), i32_0m1, false_and, if_false, Option.toList_some, List.cons_append, List.nil_append, true_or, or_true, true_implies, not_true_eq_false, not_false_eq_true, false_implies, and_true, true_and, nI_1]
          refine hgo _ _ _ (fun j j4 j5 => by rw [up_at, if_neg j4]) (by rw [up_at, if_pos rfl]) ?_
          rw [up_at, if_neg (by decide), ep]
          exact g5
        · have em : mkI a.2.1 = nI (a.2.1 - 1) := by unfold mkI; rw [if_neg q2]
          rw [em] at hmd
          have ep : prA C none a = C (a.2.1 - 1) := by unfold prA prO; rw [if_neg q2]
          have hhas : (0 : Int32) ≤ nI (a.2.1 - 1) ∧ nI (a.2.1 - 1) < nI n := ⟨nI_pos' (by omega), nI_lt (by omega) (by omega)⟩
          have cm : (nI (a.2.1 - 1)).toNatClampNeg = a.2.1 - 1 := nI_clamp (by omega)
          have im : inb (nI (a.2.1 - 1)) 14 = true := inb_nI (by omega) (by decide)
          have hCm := hC (a.2.1 - 1) (by omega)
          have g5' : va_up g 4 (nI (max mo (pc t))) 5 = nI sp := by rw [up_at, if_neg (by decide)]; exact g5
          simp only [w46_a, w46_b, hs1, e42, e38, ekn, ekn2, t1, t2, t6, h7, g0, g1, oI_some, s218, hbc, g4, m1, sI_setI, hf, hFN, hp.2.1, cj, ij, hmd, s24 (n := kn) (show F_net kn (setI h 42 (va_up g 4 (nI (max mo (pc t))))) from hFN), hhas, i32_10, and_self, if_true, cm, im, hCm, g5', nI_add, Option.toList_some, List.cons_append, List.nil_append, true_or, or_true, true_implies, not_true_eq_false, not_false_eq_true, false_implies, and_true, true_and, nI_1]
          refine hgo _ _ _ (fun j j4 j5 => by rw [up_at, if_neg j5, up_at, if_neg j4]) (by rw [up_at, if_neg (by decide), up_at, if_pos rfl]) ?_
          rw [up_at, if_pos rfl, ep]
end Weigh

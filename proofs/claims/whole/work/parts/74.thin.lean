/-! ===== Plan: keep, weigh, thinOut ===== -/
section Thin
variable {h : AH} {B M kn n w wi b N lr pr : Nat} {P C : Nat → Nat} {L : List Act} {pl : List Nat} {e : Nat → Bool} {Q : Option Value → AH → Prop}
theorem s45 {m : Nat} (t : hT h 42 = 6 ∧ hR h 42 2 = 43 ∧ hT h 43 = 100 ∧ hL h 43 = 60 ∧ hT h 30 = 100 ∧ hL h 30 = 60) (hm : m ≤ 60) (k : ∀ f, (∀ j, j < m → f j = hI h 30 j) → Q none (setI (sI h 42 3 (nI m)) 43 f)) : WPM 45 [.ref 42, .ref 30, .int (nI m)] h Q := by
  obtain ⟨t1, t2, t3, t4, t5, t6⟩ := t
  have m1 : (if (60 : Int32) < nI 60 then 60 else nI 60) = nI 60 := by decide
  have m2 : (if nI 60 < nI m then nI 60 else nI m) = nI m := if_neg (nI_nlt hm (by decide))
  have hs1 := hs_setI (sI h 42 3 (nI m)) 43
  have lp : ∀ d i f, m - i = d → i ≤ m → (∀ j, j < i → f j = hI h 30 j) → WP 45 17 [.ref 42, .ref 30, .int (nI m), .int (nI i)] [] (setI (sI h 42 3 (nI m)) 43 f) Q := by
    intro d
    have e42 : ∀ f, hI (setI (sI h 42 3 (nI m)) 43 f) 42 3 = nI m := fun f => by rw [hI_setI, if_neg (by decide), hI_sI, if_pos ⟨rfl, rfl⟩]
    have e30 : ∀ f, hI (setI (sI h 42 3 (nI m)) 43 f) 30 = hI h 30 := fun f => by rw [hI_setI, if_neg (by decide), hI_sI_o (by decide)]
    induction d with
    | zero =>
      intro i f hd hi hf
      have hle : nI m ≤ nI i := nI_le (by omega) (by omega)
      rw [w45_17]
      simp only [w45, hs1, hs_sI, e42, t1, hle, true_implies, not_true_eq_false, false_implies, and_true]
      exact k f fun j hj => hf j (by omega)
    | succ d ih =>
      intro i f hd hi hf
      have hle : ¬ nI m ≤ nI i := nI_ge (by omega) (by omega)
      have c1 : (nI i).toNatClampNeg = i := nI_clamp (by omega)
      have i1 : inb (nI i) 60 = true := inb_nI (by omega) (by decide)
      rw [w45_17]
      simp only [w45, hs1, hs_sI, e42, e30, t1, t2, t3, t4, t5, t6, c1, i1, hle, sI_setI, true_or, or_true, true_implies, not_false_eq_true, false_implies, true_and, nI_1]
      refine ih (i + 1) _ (by omega) (by omega) fun j hj => ?_
      rw [up_at]
      split
      · next q => rw [q]
      · exact hf j (by omega)
  rw [we45]
  simp only [w45, t1, t5, t6, m1, m2, true_or, or_true]
  have := lp m 0 (hI (sI h 42 3 (nI m)) 43) rfl (Nat.zero_le _) (fun j hj => absurd hj (Nat.not_lt_zero _))
  rw [setI_id] at this
  exact this
theorem s46 (cw : CW B M h) (hkn : kn = 4 ∨ kn = 15) (hp : NetP h kn n P) (po : PartsOK n P) (hw : w < 8) (hwi : wi < 65536) (hb9 : b < 65536) (h2 : hI h kn 2 = nI wi) (hC : ∀ x, x < n → hI h (kn + 2) x = nI (C x)) (hpl : PLn h pl)
    (k : ∀ h', CW B M h' → CFr (fun a => actA a ∨ a = 42) (fun _ => False) h h' → (∀ j, j ≠ 4 → j ≠ 5 → hI h' 42 j = hI h 42 j) → hI h' 42 4 = nI (jW (actsOf n P w) (2 ^ n) b C pl 0 (0, 0, 0)).2.2.1 → hI h' 42 5 = nI (jW (actsOf n P w) (2 ^ n) b C pl 0 (0, 0, 0)).2.2.2 → Q (some (.int (jR (isEndB w wi) pl.length (jW (actsOf n P w) (2 ^ n) b C pl 0 (0, 0, 0))))) h') : WPM 46 [.ref 42, .ref kn, .int (nI w), .int (nI b)] h Q := by
  have hn14 := po.1
  have hN0 : 0 < 2 ^ n := Nat.pow_pos (by decide)
  have hN9 : 2 ^ n ≤ 16384 := p2_le (n := 14) hn14
  have a1 : hT h 42 = 6 := by simp only [cw.1]
  have a2 : hR h 42 1 = 36 := by simp only [cw.1]
  have a3 : hT h 36 = 1 := by simp only [cw.1]
  rw [we46]
  simp only [w46_a, a1, a2, a3]
  refine s2n cw (by omega) hp po hw fun h1 cw1 o1 hA1 => ?_
  have hp1 : NetP h1 kn n P := hp.only o1 (by unfold actA; omega) (by unfold actA; omega)
  have b1 : hT h1 42 = 6 := by simp only [cw1.1]
  have eI : ∀ a, ¬ actA a → hI h1 a = hI h a := o1.2.2.2.2.2.2
  have e42 : hI h1 42 = hI h 42 := eI 42 (by unfold actA; omega)
  simp only [w46_a, b1, hs_sI, Option.toList_none, List.nil_append]
  have e0 : sI (sI h1 42 4 0) 42 5 0 = setI h1 42 (va_up (va_up (hI h1 42) 4 0) 5 0) := by rw [sI_as h1 42 4 0, sI_setI]
  rw [e0]
  refine weigh_l (L := actsOf n P w) (N := 2 ^ n) cw1.1.acts hA1 (po.acts w) (fun a ha => (parts_num hn14 a ha).1) (fun a ha => (parts_num hn14 a ha).2) hN9 hb9 hw hwi hp1 (by omega) (fun x hx => by rw [eI (kn + 2) (by unfold actA; omega)]; exact hC x hx) (by rw [eI kn (by unfold actA; omega)]; exact h2) ⟨by rw [e42]; exact hpl.1, hpl.2.1, fun j v hj => by rw [eI 43 (by unfold actA; omega)]; exact hpl.2.2.1 j v hj, hpl.2.2.2⟩ (by simp only [cw1.1, and_self]) (fun g hg g4 g5 => ?_) pl.length 0 0 0 0 _ _ _ rfl (Nat.zero_le _) hN0 (by omega) (fun j j4 j5 => by rw [up_at, if_neg j5, up_at, if_neg j4]) (by rw [up_at, if_neg (by decide), up_at, if_pos rfl]; rfl) (by rw [up_at, if_pos rfl]; rfl) rfl
  have o3 : OnlyI (fun a => a = 42) h1 (setI h1 42 g) := setI_only
  have eg : hI (setI h1 42 g) 42 = g := by rw [hI_setI, if_pos rfl]
  refine k _ (cw1.ofI o3) ((CFr.ofI o1 fun a q => Or.inl q).trans' (CFr.ofI o3 fun a q => Or.inr q)) (fun j j4 j5 => by rw [eg, hg j j4 j5, e42]) (by rw [eg]; exact g4) (by rw [eg]; exact g5)
/-- the rows of thinOut -/
def THp (h : AH) (lr pr : Nat) (lf : Nat → Int32) (pa : Nat → Int64) : AH := setJ (setI h lr lf) pr pa
theorem THp_r (h : AH) (lr pr : Nat) : ∀ lf pa, hT (THp h lr pr lf pa) = hT h ∧ hL (THp h lr pr lf pa) = hL h ∧ hR (THp h lr pr lf pa) = hR h ∧ hI (THp h lr pr lf pa) lr = lf ∧ hJ (THp h lr pr lf pa) pr = pa ∧ (∀ k v, sI (THp h lr pr lf pa) lr k v = THp h lr pr (va_up lf k v) pa) ∧ ∀ k v, sJ (THp h lr pr lf pa) pr k v = THp h lr pr lf (va_up pa k v) := by
  intro lf pa
  refine ⟨rfl, rfl, rfl, ?_, ?_, fun k v => ?_, fun k v => ?_⟩
  · show hI (setI h lr lf) lr = lf
    rw [hI_setI, if_pos rfl]
  · show hJ (setJ (setI h lr lf) pr pa) pr = pa
    rw [hJ_setJ, if_pos rfl]
  · show setJ (sI (setI h lr lf) lr k v) pr pa = _
    rw [sI_setI]
    rfl
  · unfold THp
    rw [sJ_as]
    refine ah_ext rfl rfl rfl ?_ rfl rfl rfl
    funext a
    rw [hJ_setJ, hJ_setJ, hJ_setJ, hJ_setJ]
    by_cases q : a = pr
    · simp only [q, if_true]
    · simp only [q, if_false]
theorem THp_I {h : AH} {lr pr : Nat} {lf : Nat → Int32} {pa : Nat → Int64} {a : Nat} (q : a ≠ lr) : hI (THp h lr pr lf pa) a = hI h a := by
  show hI (setI h lr lf) a = _
  rw [hI_setI, if_neg q]
theorem THp_only {h : AH} {lr pr : Nat} {lf : Nat → Int32} {pa : Nat → Int64} : OnlyIJ (fun a => a = lr) (fun a => a = pr) h (THp h lr pr lf pa) :=
  ⟨rfl, rfl, rfl, rfl, rfl, fun a q => THp_I q, fun a q => by show hJ (setJ (setI h lr lf) pr pa) a = _; rw [hJ_setJ, if_neg q]; rfl⟩
theorem THp_id {h : AH} {lr pr : Nat} : THp h lr pr (hI h lr) (hJ h pr) = h := by
  unfold THp
  rw [setI_id, setJ_id]
/-- what thinOut needs of the heap -/
def TX (h : AH) (lr pr N : Nat) (L : List Act) (pl : List Nat) : Prop := (hT h 42 = 6 ∧ hT h 36 = 1 ∧ hT h 43 = 100 ∧ hL h 43 = 60 ∧ hT h 44 = 100 ∧ hL h 44 = 60 ∧ hR h 42 1 = 36 ∧ hR h 42 2 = 43 ∧ hR h 42 6 = 44 ∧ hR h 42 8 = lr ∧ hR h 42 9 = pr ∧ hT h lr = 100 ∧ hT h pr = 103) ∧ (N ≤ hL h lr ∧ hL h lr ≤ 65536 ∧ N ≤ hL h pr ∧ hL h pr ≤ 65536) ∧ (∀ a, a < 48 → a ≠ 32 → a ≠ lr) ∧ F_acts h ∧ ActsHold h N L ∧ PLn h pl
theorem TX.acts (x : TX h lr pr N L pl) (lf : Nat → Int32) (pa : Nat → Int64) : ActsHold (THp h lr pr lf pa) N L := x.2.2.2.2.1.ofI fun a a1 a2 => THp_I (x.2.2.1 a (by omega) (by omega))
/-- the state before the places from i on are weighed -/
def TS (L : List Act) (N b : Nat) (e : Nat → Bool) (pl : List Nat) (i : Nat) (lf : Nat → Int32) (pa : Nat → Int64) : Prop := (∀ s, s < N → lf s = nI (kp L N b e (pl.drop i) s)) ∧ ∀ s, s < N → ∃ K, pa s = lN K ∧ K < 2 ^ 60 ∧ ∀ j, j < 60 → K.testBit j = (decide (i ≤ j) && (match pl[j]? with
  | some p => kpU L N b e p (pl.drop (j + 1)) s
  | none => false))
theorem thin_w {i j p : Nat} {a : Act} (x : TX h lr pr N L pl) (ha : ActsOK L) (hw' : ∀ a ∈ L, actW a) (hne : ∀ a ∈ L, aGn a ≠ 0 ∨ aLs a ≠ 0) (hN9 : N ≤ 16384) (hb9 : b < 65536) (hpi : pl[i]? = some p) (hfa : findA L p = some j) (haj : L[j]? = some a)
    (k : ∀ lf pa, TS L N b e pl i lf pa → Q none (THp h lr pr lf pa)) :
    ∀ d y lf pa y6, N - y = d → y ≤ N → (∀ s, s < N → lf s = nI (if s < y then kp L N b e (pl.drop i) s else kp L N b e (pl.drop (i + 1)) s)) → (∀ s, s < N → ∃ K, pa s = lN K ∧ K < 2 ^ 60 ∧ ∀ j, j < 60 → K.testBit j = (decide ((if s < y then i else i + 1) ≤ j) && (match pl[j]? with
      | some p => kpU L N b e p (pl.drop (j + 1)) s
      | none => false))) → WP 48 3 [.ref 42, .int (nI i), .int (nI j), .int (nI N), .int (nI b), .int (nI y), y6] [] (THp h lr pr lf pa) Q := by
  obtain ⟨⟨t1, t2, t3, t4, t5, t6, t7, t8, t9, t10, t11, t12, t13⟩, ⟨l1, l2, l3, l4⟩, x1, x2, x3, x4⟩ := id x
  obtain ⟨ha1, ha2, ha3⟩ := ha
  have hr := THp_r h lr pr
  have haL := List.mem_of_getElem? haj
  have hjl : j < L.length := by
    obtain ⟨hl, -⟩ := List.getElem?_eq_some_iff.mp haj
    exact hl
  have hil : i < pl.length := by
    obtain ⟨hl, -⟩ := List.getElem?_eq_some_iff.mp hpi
    exact hl
  have hi60 : i < 60 := by have := x4.2.1; omega
  have hdrop : pl.drop i = p :: pl.drop (i + 1) := by
    rw [List.drop_eq_getElem_cons hil]
    congr 1
    obtain ⟨hl, e9⟩ := List.getElem?_eq_some_iff.mp hpi
    exact e9
  have hacN : ∀ s, acN L N b p s = aft N b a s := fun s => by
    unfold acN actN
    rw [hfa]
    show (L[j]?).bind _ = _
    rw [haj]
    rfl
  have kp9 : ∀ l s, l.length ≤ 60 → kp L N b e l s ≤ 1000 := fun l s hl => by
    have := kp_le (L := L) (N := N) (b := b) (e := e) l s
    omega
  have hl60 : (pl.drop (i + 1)).length ≤ 60 := by have := x4.2.1; rw [List.length_drop]; omega
  intro d
  induction d with
  | zero =>
    intro y lf pa y6 hd hy hlf hpa
    have hle : nI N ≤ nI y := nI_le (by omega) (by omega)
    rw [w48_3]
    simp only [w48_a, w48_b, hle, true_implies, not_true_eq_false, false_implies, and_true]
    refine k lf pa ⟨fun s hs => ?_, fun s hs => ?_⟩
    · rw [hlf s hs, if_pos (by omega)]
    · obtain ⟨K, k1, k2, k3⟩ := hpa s hs
      refine ⟨K, k1, k2, fun j' hj' => ?_⟩
      rw [k3 j' hj', if_pos (by omega)]
  | succ d ih =>
    intro y lf pa y6 hd hy hlf hpa
    have hyN : y < N := by omega
    have hle : ¬ nI N ≤ nI y := nI_ge (by omega) (by omega)
    have hA := x.acts lf pa
    have h7 := s7N (h := THp h lr pr lf pa) (N := N) (b := b) (s := y) x2 (show j < 112 by omega) (hA.2.1 j _ haj) (ha1 _ haL) hA.2.2 (by omega) (show y < 65536 by omega) hb9
    have cy : (nI y).toNatClampNeg = y := nI_clamp (by omega)
    have iy : inb (nI y) (hL h lr) = true := inb_nI (by omega) (by omega)
    have iy2 : inb (nI y) (hL h pr) = true := inb_nI (by omega) (by omega)
    have hly := hlf y hyN
    rw [if_neg (Nat.lt_irrefl y)] at hly
    have ky9 := kp9 (pl.drop (i + 1)) y hl60
    -- nothing is kept here
    have hno : kpU L N b e p (pl.drop (i + 1)) y = false → ∀ y6, WP 48 3 [.ref 42, .int (nI i), .int (nI j), .int (nI N), .int (nI b), .int (nI (y + 1)), y6] [] (THp h lr pr lf pa) Q := fun hU y6 => by
      refine ih (y + 1) lf pa y6 (by omega) (by omega) (fun s hs => ?_) (fun s hs => ?_)
      · rw [hlf s hs]
        by_cases q : s = y
        · subst q
          rw [if_neg (Nat.lt_irrefl _), if_pos (Nat.lt_succ_self _), hdrop, kp_cons, if_neg (by rw [hU]; exact Bool.false_ne_true)]
        · have : s < y + 1 ↔ s < y := by omega
          simp only [this]
      · obtain ⟨K, k1, k2, k3⟩ := hpa s hs
        refine ⟨K, k1, k2, fun j' hj' => ?_⟩
        rw [k3 j' hj']
        by_cases q : s = y
        · subst q
          rw [if_neg (Nat.lt_irrefl _), if_pos (Nat.lt_succ_self _)]
          by_cases q2 : j' = i
          · subst q2
            rw [hpi]
            show _ = (_ && kpU L N b e p (pl.drop (j' + 1)) s)
            rw [hU, Bool.and_false]
            have : ¬ j' + 1 ≤ j' := by omega
            simp [this]
          · have : (i + 1 ≤ j') ↔ (i ≤ j') := by omega
            simp only [this]
        · have : s < y + 1 ↔ s < y := by omega
          simp only [this]
    rw [w48_3]
    cases q0 : aft N b a y with
    | none =>
      rw [q0] at h7
      simp only [w48_a, w48_b, hr, t1, t2, t7, hle, h7, oI_none, show ((-1 : Int32) < 0) from by decide, Option.toList_some, List.cons_append, List.nil_append, true_or, or_true, true_implies, not_true_eq_false, not_false_eq_true, false_implies, and_true, true_and, nI_1]
      refine hno ?_ _
      unfold kpU
      rw [hacN, q0]
    | some t =>
      rw [q0] at h7
      have ht := aft_lt q0
      have ct : (nI t).toNatClampNeg = t := nI_clamp (by omega)
      have it : inb (nI t) (hL h lr) = true := inb_nI (by omega) (by omega)
      have g0 : ¬ nI t < 0 := nI_pos (by omega)
      have hag := aft_again (hw' a haL) (hne a haL) q0
      have hkt : kp L N b e (pl.drop i) t = kp L N b e (pl.drop (i + 1)) t := by
        rw [hdrop, kp_cons, if_neg]
        unfold kpU
        rw [hacN, hag]
        exact Bool.false_ne_true
      have hlt := hlf t ht.1
      have hlt' : lf t = nI (kp L N b e (pl.drop (i + 1)) t) := by
        rw [hlt]
        split
        · rw [hkt]
        · rfl
      have kt9 := kp9 (pl.drop (i + 1)) t hl60
      have hUi : kpU L N b e p (pl.drop (i + 1)) y = decide (kp L N b e (pl.drop (i + 1)) t < 1000 ∧ kp L N b e (pl.drop (i + 1)) t < kp L N b e (pl.drop (i + 1)) y) := by
        unfold kpU
        rw [hacN, q0]
      by_cases q1 : kp L N b e (pl.drop (i + 1)) t < 1000
      · have c1 : ¬ (1000 : Int32) ≤ nI (kp L N b e (pl.drop (i + 1)) t) := nI_ge (b := 1000) q1 (by decide)
        by_cases q2 : kp L N b e (pl.drop (i + 1)) t < kp L N b e (pl.drop (i + 1)) y
        · have c2 : ¬ nI (kp L N b e (pl.drop (i + 1)) y) ≤ nI (kp L N b e (pl.drop (i + 1)) t) := nI_ge q2 (by omega)
          obtain ⟨K, k1, k2, k3⟩ := hpa y hyN
          simp only [if_neg (Nat.lt_irrefl y)] at k3
          have hor : lN K ||| lN (2 ^ i) = lN (K ||| 2 ^ i) := lN_or _ _
          simp only [w48_a, w48_b, hr, t1, t2, t7, t10, t11, t12, t13, hle, h7, oI_some, g0, ct, it, cy, iy, iy2, hlt', hly, c1, c2, k1, lN_pow i hi60, hor, Option.toList_some, List.cons_append, List.nil_append, true_or, or_true, true_implies, not_true_eq_false, not_false_eq_true, false_implies, and_true, true_and, nI_1]
          have hUt : kpU L N b e p (pl.drop (i + 1)) y = true := by rw [hUi]; exact decide_eq_true ⟨q1, q2⟩
          refine ih (y + 1) _ _ _ (by omega) (by omega) (fun s hs => ?_) (fun s hs => ?_)
          · rw [up_at]
            by_cases q : s = y
            · subst q
              rw [if_pos rfl, if_pos (Nat.lt_succ_self _), hdrop, kp_cons, if_pos hUt, hacN, q0]
              rfl
            · rw [if_neg q, hlf s hs]
              have : s < y + 1 ↔ s < y := by omega
              simp only [this]
          · rw [up_at]
            by_cases q : s = y
            · subst q
              rw [if_pos rfl]
              refine ⟨K ||| 2 ^ i, rfl, or_lt2 k2 (p2_lt hi60), fun j' hj' => ?_⟩
              rw [bit_or_pow, k3 j' hj', if_pos (Nat.lt_succ_self _)]
              by_cases q2 : i = j'
              · subst q2
                rw [hpi]
                show _ = (_ && kpU L N b e p (pl.drop (i + 1)) s)
                rw [hUt]
                simp
              · have : (i + 1 ≤ j') ↔ (i ≤ j') := by omega
                simp only [this, q2, decide_false, Bool.or_false]
            · rw [if_neg q]
              obtain ⟨K, k1, k2, k3⟩ := hpa s hs
              refine ⟨K, k1, k2, fun j' hj' => ?_⟩
              rw [k3 j' hj']
              have : s < y + 1 ↔ s < y := by omega
              simp only [this]
        · have c2 : nI (kp L N b e (pl.drop (i + 1)) y) ≤ nI (kp L N b e (pl.drop (i + 1)) t) := nI_le (by omega) (by omega)
          simp only [w48_a, w48_b, hr, t1, t2, t7, t10, t12, hle, h7, oI_some, g0, ct, it, cy, iy, hlt', hly, c1, c2, Option.toList_some, List.cons_append, List.nil_append, true_or, or_true, true_implies, not_true_eq_false, not_false_eq_true, false_implies, and_true, true_and, nI_1]
          exact hno (by rw [hUi]; exact decide_eq_false (fun z => q2 z.2)) _
      · have c1 : (1000 : Int32) ≤ nI (kp L N b e (pl.drop (i + 1)) t) := nI_le (a := 1000) (by omega) (by omega)
        simp only [w48_a, w48_b, hr, t1, t2, t7, t10, t12, hle, h7, oI_some, g0, ct, it, hlt', c1, Option.toList_some, List.cons_append, List.nil_append, true_or, or_true, true_implies, not_true_eq_false, not_false_eq_true, false_implies, and_true, true_and, nI_1]
        exact hno (by rw [hUi]; exact decide_eq_false (fun z => q1 z.1)) _
end Thin

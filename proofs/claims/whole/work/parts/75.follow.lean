/-! ===== Plan.follow, thinOut ===== -/
def FHp (h : AH) (g f : Nat → Int32) : AH := setI (setI h 44 f) 42 g
theorem FHp_r (h : AH) : ∀ g f, hT (FHp h g f) = hT h ∧ hL (FHp h g f) = hL h ∧ hJ (FHp h g f) = hJ h ∧ hR (FHp h g f) = hR h ∧ hI (FHp h g f) 42 = g ∧ (∀ k v, sI (FHp h g f) 44 k v = FHp h g (va_up f k v)) ∧ (∀ k v, sI (FHp h g f) 42 k v = FHp h (va_up g k v) f) := by
  intro g f
  refine ⟨rfl, rfl, rfl, rfl, by unfold FHp; rw [hI_setI, if_pos rfl], fun k v => ?_, fun k v => ?_⟩
  · unfold FHp
    rw [sI_setI_o (by decide), sI_setI]
  · unfold FHp
    rw [sI_setI]
theorem FHp_I {h : AH} {g f : Nat → Int32} {a : Nat} (q1 : a ≠ 42) (q2 : a ≠ 44) : hI (FHp h g f) a = hI h a := by
  unfold FHp
  rw [hI_setI, if_neg q1, hI_setI, if_neg q2]
theorem FHp_only {h : AH} {g f : Nat → Int32} : OnlyI (fun a => a = 42 ∨ a = 44) h (FHp h g f) := ⟨rfl, rfl, rfl, rfl, rfl, rfl, fun a ha => FHp_I (fun z => ha (Or.inl z)) (fun z => ha (Or.inr z))⟩
/-- what was spared: the places that are kept -/
def SPn (h : AH) (ks : List Nat) : Prop := hI h 42 7 = nI ks.length ∧ ks.length ≤ 60 ∧ ∀ j v, ks[j]? = some v → hI h 44 j = nI v
section Follow
variable {h : AH} {B M kn n w wi b N lr pr : Nat} {P C : Nat → Nat} {L : List Act} {pl : List Nat} {e : Nat → Bool} {Q : Option Value → AH → Prop}
theorem fl_le {L : List Act} {N b : Nat} {e : Nat → Bool} : ∀ (l : List Nat) (i s : Nat), (fl L N b e l i s).length ≤ l.length := by
  intro l
  induction l with
  | nil => exact fun _ _ => Nat.le_refl _
  | cons p l ih =>
    intro i s
    show (if kpU L N b e p l s = true then i :: fl L N b e l (i + 1) ((acN L N b p s).getD 0) else fl L N b e l (i + 1) s).length ≤ l.length + 1
    split
    · rw [List.length_cons]
      have := ih (i + 1) ((acN L N b p s).getD 0)
      omega
    · have := ih (i + 1) s
      omega
theorem follow_l {pa : Nat → Int64} {lf : Nat → Int32} (x : TX h lr pr N L pl) (ha : ActsOK L) (hnum : ∀ a ∈ L, a.1 < 1000) (hN9 : N ≤ 16384) (hb9 : b < 65536) (ts : TS L N b e pl 0 lf pa) (hpa : hJ h pr = pa)
    (k : ∀ g f, (∀ j, j ≠ 7 → g j = hI h 42 j) → SPn (FHp h g f) (fl L N b e pl 0 0) → Q none (FHp h g f)) :
    ∀ d i s g f out y4 y5, pl.length - i = d → i ≤ pl.length → s < N → (∀ j, j ≠ 7 → g j = hI h 42 j) → g 7 = nI out.length → (∀ j v, out[j]? = some v → f j = nI v) → out.length ≤ i → fl L N b e pl 0 0 = out ++ fl L N b e (pl.drop i) i s → WP 49 9 [.ref 42, .int (nI b), .int (nI s), .int (nI i), y4, y5] [] (FHp h g f) Q := by
  obtain ⟨⟨t1, t2, t3, t4, t5, t6, t7, t8, t9, t10, t11, t12, t13⟩, ⟨l1, l2, l3, l4⟩, x1, x2, x3, x4⟩ := id x
  obtain ⟨ha1, ha2, ha3⟩ := ha
  obtain ⟨p1, p2, p3, p4⟩ := x4
  have hr := FHp_r h
  have hA : ∀ g f, ActsHold (FHp h g f) N L := fun g f => x3.ofI fun a a1 a2 => FHp_I (by omega) (by omega)
  have e43 : ∀ g f, hI (FHp h g f) 43 = hI h 43 := fun g f => FHp_I (by decide) (by decide)
  intro d
  induction d with
  | zero =>
    intro i s g f out y4 y5 hd hi hs hg g7 hf ho he
    have hle : nI pl.length ≤ nI i := nI_le (by omega) (by omega)
    have g3 : g 3 = nI pl.length := (hg 3 (by decide)).trans p1
    have : i = pl.length := by omega
    subst this
    rw [List.drop_length] at he
    have he' : fl L N b e pl 0 0 = out := by rw [he]; exact List.append_nil out
    rw [w49_9]
    simp only [w49_a, w49_b, hr, t1, g3, hle, true_implies, not_true_eq_false, false_implies, and_true]
    refine k g f hg ⟨by rw [he', (hr g f).2.2.2.2.1]; exact g7, by rw [he']; omega, fun j v hj => ?_⟩
    rw [he'] at hj
    unfold FHp
    rw [hI_setI, if_neg (by decide), hI_setI, if_pos rfl]
    exact hf j v hj
  | succ d ih =>
    intro i s g f out y4 y5 hd hi hs hg g7 hf ho he
    have hil : i < pl.length := by omega
    have hle : ¬ nI pl.length ≤ nI i := nI_ge (by omega) (by omega)
    have g3 : g 3 = nI pl.length := (hg 3 (by decide)).trans p1
    have ci : (nI i).toNatClampNeg = i := nI_clamp (by omega)
    have ii : inb (nI i) 60 = true := inb_nI (by omega) (by decide)
    have cs : (nI s).toNatClampNeg = s := nI_clamp (by omega)
    have is : inb (nI s) (hL h pr) = true := inb_nI (by omega) (by omega)
    obtain ⟨K, k1, k2, k3⟩ := ts.2 s hs
    have hbit := lN_shr_bit (s := K) (k := i) (by omega) (by omega)
    have hpi : pl[i]? = some pl[i] := List.getElem?_eq_getElem hil
    have hKi := k3 i (by omega)
    rw [hpi] at hKi
    change K.testBit i = (decide (0 ≤ i) && kpU L N b e pl[i] (pl.drop (i + 1)) s) at hKi
    rw [decide_eq_true (Nat.zero_le i), Bool.true_and] at hKi
    rw [hKi] at hbit
    rw [List.drop_eq_getElem_cons hil] at he
    have hfl : fl L N b e (pl[i] :: pl.drop (i + 1)) i s = if kpU L N b e pl[i] (pl.drop (i + 1)) s = true then i :: fl L N b e (pl.drop (i + 1)) (i + 1) ((acN L N b pl[i] s).getD 0) else fl L N b e (pl.drop (i + 1)) (i + 1) s := rfl
    rw [w49_9]
    cases qU : kpU L N b e pl[i] (pl.drop (i + 1)) s with
    | false =>
      rw [qU] at hbit hfl
      have hcm : ¬ lg_cmp (lN 0) 1 = 0 := by decide
      simp only [w49_a, w49_b, hr, t1, t11, t13, g3, hle, cs, is, hpa, k1, hbit, if_false, Bool.false_eq_true, hcm, i32_0m1, show ((-1 : Int32) < 0) from by decide, true_or, or_true, true_implies, not_true_eq_false, not_false_eq_true, false_implies, and_true, true_and, nI_1]
      refine ih (i + 1) s g f out _ _ (by omega) (by omega) hs hg g7 hf (by omega) ?_
      rw [he, hfl, if_neg Bool.false_ne_true]
    | true =>
      rw [qU] at hbit hfl
      rw [if_pos rfl] at hfl
      have hcm : lg_cmp (lN 1) 1 = 0 := by decide
      have hp9 := p4 pl[i] (List.getElem_mem hil)
      have hpv := p3 i pl[i] hpi
      simp only [w49_a, w49_b, hr, e43, t1, t2, t3, t4, t7, t8, t11, t13, g3, hle, cs, is, ci, ii, hpa, k1, hbit, hpv, if_true, hcm, true_or, or_true, true_implies, not_true_eq_false, not_false_eq_true, false_implies, and_true, true_and]
      refine s6 (h := FHp h g f) x2 (hA g f) ha3 hp9 hnum ?_
      unfold kpU at qU
      cases qa : acN L N b pl[i] s with
      | none => rw [qa] at qU; cases qU
      | some t =>
        rw [qa] at hfl
        have qa' := qa
        unfold acN actN at qa'
        cases qf : findA L pl[i] with
        | none => rw [qf] at qa'; cases qa'
        | some j =>
          obtain ⟨a, haj, -⟩ := findA_some qf
          rw [qf] at qa'
          change (L[j]?).bind _ = _ at qa'
          rw [haj] at qa'
          change aft N b a s = some t at qa'
          have haL := List.mem_of_getElem? haj
          have hjl : j < L.length := by
            obtain ⟨hl, -⟩ := List.getElem?_eq_some_iff.mp haj
            exact hl
          have g0 : (0 : Int32) ≤ nI j := nI_pos' (by omega)
          have h7 := s7N (h := FHp h g f) (N := N) (b := b) (s := s) x2 (show j < 112 by omega) ((hA g f).2.1 j _ haj) (ha1 _ haL) (hA g f).2.2 (by omega) (show s < 65536 by omega) hb9
          rw [qa'] at h7
          have ht := aft_lt qa'
          have g1 : ¬ nI t < 0 := nI_pos (by omega)
          have co : (nI out.length).toNatClampNeg = out.length := nI_clamp (by omega)
          have io : inb (nI out.length) 60 = true := inb_nI (by omega) (by decide)
          simp only [w49_a, w49_b, hr, t1, t2, t5, t6, t7, t9, h7, g0, g1, g7, co, io, oI_some, Option.toList_some, List.cons_append, List.nil_append, true_or, or_true, true_implies, not_true_eq_false, not_false_eq_true, false_implies, and_true, true_and, nI_1]
          refine ih (i + 1) t _ _ (out ++ [i]) _ _ (by omega) (by omega) ht.1 (fun j' hj' => by rw [up_at, if_neg hj']; exact hg j' hj') (by rw [up_at, if_pos rfl, List.length_append]; rfl) (fun j' v' hj' => ?_) (by rw [List.length_append, List.length_singleton]; omega) ?_
          · rw [up_at]
            rcases Nat.lt_trichotomy j' out.length with w9 | w9 | w9
            · rw [List.getElem?_append_left w9] at hj'
              rw [if_neg (by omega)]
              exact hf j' v' hj'
            · subst w9
              rw [List.getElem?_append_right (Nat.le_refl _), Nat.sub_self] at hj'
              rw [if_pos rfl]
              have : i = v' := Option.some.inj hj'
              rw [this]
            · rw [List.getElem?_eq_none (by rw [List.length_append, List.length_singleton]; omega)] at hj'
              cases hj'
          · rw [he, hfl, List.append_assoc]
            rfl
theorem s49 {pa : Nat → Int64} {lf : Nat → Int32} (x : TX h lr pr N L pl) (ha : ActsOK L) (hnum : ∀ a ∈ L, a.1 < 1000) (hN9 : 0 < N ∧ N ≤ 16384) (hb9 : b < 65536) (ts : TS L N b e pl 0 lf pa) (hpa : hJ h pr = pa)
    (k : ∀ g f, (∀ j, j ≠ 7 → g j = hI h 42 j) → SPn (FHp h g f) (fl L N b e pl 0 0) → Q none (FHp h g f)) : WPM 49 [.ref 42, .int (nI b)] h Q := by
  have t1 := x.1.1
  rw [we49]
  simp only [w49_a, t1]
  have e0 : sI h 42 7 0 = FHp h (va_up (hI h 42) 7 0) (hI h 44) := by
    unfold FHp
    rw [setI_id, sI_as]
  rw [e0]
  exact follow_l x ha hnum hN9.2 hb9 ts hpa k pl.length 0 0 _ _ [] _ _ rfl (Nat.zero_le _) hN9.1 (fun j hj => by rw [up_at, if_neg hj]) (by rw [up_at, if_pos rfl]; rfl) (fun j v hj => by simp at hj) (Nat.le_refl _) rfl
/-- the loop over the places -/
theorem thin_l {pa0 : Nat → Int64} (x : TX h lr pr N L pl) (ha : ActsOK L) (hw' : ∀ a ∈ L, actW a) (hne : ∀ a ∈ L, aGn a ≠ 0 ∨ aLs a ≠ 0) (hnum : ∀ a ∈ L, a.1 < 1000) (hN9 : 0 < N ∧ N ≤ 16384) (hb9 : b < 65536)
    (k1 : ∀ lf pa, 1000 ≤ kp L N b e pl 0 → Q (some (.int (-1))) (THp h lr pr lf pa))
    (k2 : ∀ lf pa g f, kp L N b e pl 0 < 1000 → (∀ j, j ≠ 7 → g j = hI h 42 j) → SPn (FHp (THp h lr pr lf pa) g f) (fl L N b e pl 0 0) → Q (some (.int (nI (fl L N b e pl 0 0).length))) (FHp (THp h lr pr lf pa) g f)) :
    ∀ m lf pa y6, m ≤ pl.length → TS L N b e pl m lf pa → WP 47 101 [.ref 42, .ref kn, .int (nI w), .int (nI b), .int (nI N), .int (mkI m), y6] [] (THp h lr pr lf pa) Q := by
  obtain ⟨⟨t1, t2, t3, t4, t5, t6, t7, t8, t9, t10, t11, t12, t13⟩, ⟨l1, l2, l3, l4⟩, x1, x2, x3, x4⟩ := id x
  have hr := THp_r h lr pr
  have p2 := x4.2.1
  have e43 : ∀ lf pa, hI (THp h lr pr lf pa) 43 = hI h 43 := fun lf pa => THp_I (x1 43 (by decide) (by decide))
  have e42 : ∀ lf pa, hI (THp h lr pr lf pa) 42 = hI h 42 := fun lf pa => THp_I (x1 42 (by decide) (by decide))
  intro m
  induction m with
  | zero =>
    intro lf pa y6 hm ts
    have i0 : inb 0 (hL h lr) = true := inb_nI (k := 0) (by omega) (by omega)
    have hl0 := ts.1 0 hN9.1
    rw [List.drop_zero] at hl0
    have hk9 := kp_le (L := L) (N := N) (b := b) (e := e) pl 0
    rw [w47_101]
    by_cases q : kp L N b e pl 0 < 1000
    · have c1 : nI (kp L N b e pl 0) < 1000 := nI_lt (b := 1000) q (by decide)
      simp only [w47_a, w47_b, w47_c, hr, t1, t10, t12, i0, cl_0, hl0, c1, mkI, if_true, show ((-1 : Int32) < 0) from by decide, true_or, or_true, true_implies, not_true_eq_false, not_false_eq_true, false_implies, and_true, true_and]
      have xT : TX (THp h lr pr lf pa) lr pr N L pl := ⟨⟨t1, t2, t3, t4, t5, t6, t7, t8, t9, t10, t11, t12, t13⟩, ⟨l1, l2, l3, l4⟩, x1, x2, x.acts lf pa, by rw [e42]; exact x4.1, p2, fun j v hj => by rw [e43]; exact x4.2.2.1 j v hj, x4.2.2.2⟩
      refine s49 xT ha hnum hN9 hb9 ts (hr lf pa).2.2.2.2.1 fun g f hg sp => ?_
      have hF := FHp_r (THp h lr pr lf pa) g f
      have h7 : g 7 = nI (fl L N b e pl 0 0).length := by
        have := sp.1
        rw [hF.2.2.2.2.1] at this
        exact this
      simp only [w47_c, hF, hr, t1, h7, Option.toList_none, List.nil_append]
      exact k2 lf pa g f q (fun j hj => by rw [hg j hj, e42]) sp
    · have c1 : ¬ nI (kp L N b e pl 0) < 1000 := nI_nlt (b := 1000) (by omega) (by omega)
      simp only [w47_a, w47_b, w47_c, hr, t1, t10, t12, i0, cl_0, hl0, c1, mkI, if_true, show ((-1 : Int32) < 0) from by decide, true_or, or_true, true_implies, not_true_eq_false, not_false_eq_true, false_implies, and_true, true_and]
      exact k1 lf pa (by omega)
  | succ m ih =>
    intro lf pa y6 hm ts
    have em : mkI (m + 1) = nI m := by unfold mkI; rw [if_neg (Nat.succ_ne_zero _), Nat.add_sub_cancel]
    have g0 : ¬ nI m < 0 := nI_pos (by omega)
    have cm : (nI m).toNatClampNeg = m := nI_clamp (by omega)
    have im : inb (nI m) 60 = true := inb_nI (by omega) (by decide)
    have hml : m < pl.length := by omega
    have hpi : pl[m]? = some pl[m] := List.getElem?_eq_getElem hml
    have hpv := x4.2.2.1 m pl[m] hpi
    have hp9 := x4.2.2.2 pl[m] (List.getElem_mem hml)
    rw [w47_101]
    simp only [w47_a, w47_b, hr, e43, t1, t2, t3, t4, t7, t8, em, g0, cm, im, hpv, true_or, or_true, true_implies, not_false_eq_true, false_implies, true_and]
    refine s6 (h := THp h lr pr lf pa) x2 (x.acts lf pa) ha.2.2 hp9 hnum ?_
    cases qf : findA L pl[m] with
    | none =>
      simp only [w47_a, w47_b, w47_c, oI_none, show ((-1 : Int32) < 0) from by decide, m1_mk, Option.toList_some, List.cons_append, List.nil_append, true_or, or_true, true_implies, not_true_eq_false, not_false_eq_true, false_implies, and_true, true_and]
      have hU : ∀ s, kpU L N b e pl[m] (pl.drop (m + 1)) s = false := fun s => by
        unfold kpU acN actN
        rw [qf]
        rfl
      refine ih lf pa _ (by omega) ⟨fun s hs => ?_, fun s hs => ?_⟩
      · rw [ts.1 s hs, List.drop_eq_getElem_cons hml, kp_cons, if_neg (by rw [hU]; exact Bool.false_ne_true)]
      · obtain ⟨K, k1, k2, k3⟩ := ts.2 s hs
        refine ⟨K, k1, k2, fun j hj => ?_⟩
        rw [k3 j hj]
        by_cases q : j = m
        · subst q
          rw [hpi]
          show _ = (_ && kpU L N b e pl[j] (pl.drop (j + 1)) s)
          rw [hU]
          have : ¬ j + 1 ≤ j := by omega
          simp [this]
        · have : (m + 1 ≤ j) ↔ (m ≤ j) := by omega
          simp only [this]
    | some j =>
      obtain ⟨a, haj, -⟩ := findA_some qf
      have hjl : j < L.length := by
        obtain ⟨hl, -⟩ := List.getElem?_eq_some_iff.mp haj
        exact hl
      have ha3 := ha.2.2
      have g1 : ¬ nI j < 0 := nI_pos (by omega)
      simp only [w47_a, w47_b, w47_c, hr, t1, oI_some, g1, Option.toList_some, List.cons_append, List.nil_append, true_or, or_true, true_implies, not_true_eq_false, not_false_eq_true, false_implies, and_true, true_and]
      rw [we48]
      simp only [w48_a]
      refine thin_w x ha hw' hne hN9.2 hb9 hpi qf haj (fun lf' pa' ts' => ?_) N 0 lf pa _ rfl (Nat.zero_le _) (fun s hs => by rw [if_neg (Nat.not_lt_zero _)]; exact ts.1 s hs) (fun s hs => ?_)
      · simp only [w47_a, w47_b, w47_c, m1_mk, Option.toList_none, List.nil_append]
        exact ih lf' pa' _ (by omega) ts'
      · obtain ⟨K, k1, k2, k3⟩ := ts.2 s hs
        refine ⟨K, k1, k2, fun j' hj' => ?_⟩
        rw [k3 j' hj', if_neg (Nat.not_lt_zero _)]
/-- the first loop -/
theorem thin_0 (x : TX h lr pr N L pl) (hN9 : N ≤ 16384) (hw : w < 8) (hwi : wi < 65536) (hkt : hT h kn = 4) (hkn : kn < 32) (h2 : hI h kn 2 = nI wi)
    (k : ∀ lf pa, TS L N b (isEndB w wi) pl pl.length lf pa → WP 47 101 [.ref 42, .ref kn, .int (nI w), .int (nI b), .int (nI N), .int (mkI pl.length), .retAddr 0] [] (THp h lr pr lf pa) Q) :
    ∀ d y lf pa, N - y = d → y ≤ N → (∀ s, s < y → lf s = nI (if isEndB w wi s = true then 0 else 1000) ∧ pa s = lN 0) → WP 47 45 [.ref 42, .ref kn, .int (nI w), .int (nI b), .int (nI N), .int (nI y), .retAddr 0] [] (THp h lr pr lf pa) Q := by
  obtain ⟨⟨t1, t2, t3, t4, t5, t6, t7, t8, t9, t10, t11, t12, t13⟩, ⟨l1, l2, l3, l4⟩, x1, x2, x3, x4⟩ := id x
  have hr := THp_r h lr pr
  have e42 : ∀ lf pa, hI (THp h lr pr lf pa) 42 = hI h 42 := fun lf pa => THp_I (x1 42 (by decide) (by decide))
  have ekn : ∀ lf pa, hI (THp h lr pr lf pa) kn = hI h kn := fun lf pa => THp_I (x1 kn (by omega) (by omega))
  intro d
  induction d with
  | zero =>
    intro y lf pa hd hy hh
    have hle : nI N ≤ nI y := nI_le (by omega) (by omega)
    have em : nI pl.length - 1 = mkI pl.length := by
      rw [← m1_mk, Int32.sub_eq_add_neg]
    rw [w47_45]
    simp only [w47_a, w47_b, hr, e42, t1, x4.1, em, hle, true_implies, not_true_eq_false, false_implies, and_true]
    refine k lf pa ⟨fun s hs => ?_, fun s hs => ⟨0, (hh s (by omega)).2, by decide, fun j hj => ?_⟩⟩
    · rw [(hh s (by omega)).1, List.drop_length]
      rfl
    · rw [Nat.zero_testBit]
      by_cases q : pl.length ≤ j
      · rw [List.getElem?_eq_none q]
        simp
      · simp [q]
  | succ d ih =>
    intro y lf pa hd hy hh
    have hle : ¬ nI N ≤ nI y := nI_ge (by omega) (by omega)
    have cy : (nI y).toNatClampNeg = y := nI_clamp (by omega)
    have iy : inb (nI y) (hL h lr) = true := inb_nI (by omega) (by omega)
    have iy2 : inb (nI y) (hL h pr) = true := inb_nI (by omega) (by omega)
    rw [w47_45]
    by_cases q : isEndP w wi y
    · simp only [w47_a, w47_b, hr, ekn, t1, t10, t11, t12, t13, cy, iy, iy2, hle, hkt, h2, s142n hw (show y < 65536 by omega) hwi, if_pos q, i32_10, Option.toList_some, List.cons_append, List.nil_append, true_or, or_true, true_implies, not_true_eq_false, not_false_eq_true, false_implies, and_true, true_and, nI_1]
      refine ih (y + 1) _ _ (by omega) (by omega) fun s hs => ?_
      rw [up_at, up_at]
      by_cases q2 : s = y
      · subst q2
        rw [if_pos rfl, if_pos rfl, if_pos q]
        exact ⟨rfl, rfl⟩
      · rw [if_neg q2, if_neg q2]
        exact hh s (by omega)
    · simp only [w47_a, w47_b, hr, ekn, t1, t10, t11, t12, t13, cy, iy, iy2, hle, hkt, h2, s142n hw (show y < 65536 by omega) hwi, if_neg q, Option.toList_some, List.cons_append, List.nil_append, true_or, or_true, true_implies, not_true_eq_false, not_false_eq_true, false_implies, and_true, true_and, nI_1]
      refine ih (y + 1) _ _ (by omega) (by omega) fun s hs => ?_
      rw [up_at, up_at]
      by_cases q2 : s = y
      · subst q2
        rw [if_pos rfl, if_pos rfl, if_neg q]
        exact ⟨rfl, rfl⟩
      · rw [if_neg q2, if_neg q2]
        exact hh s (by omega)
def thA (a : Nat) : Prop := actA a ∨ a = 42 ∨ a = 44
theorem s47 (cw : CW B M h) (hkn : kn = 4 ∨ kn = 15) (hp : NetP h kn n P) (po : PartsOK n P) (hw : w < 8) (hwi : wi < 65536) (hb9 : b < 65536) (h2 : hI h kn 2 = nI wi) (hpl : PLn h pl)
    (k1 : ∀ h', 1000 ≤ kp (actsOf n P w) (2 ^ n) b (isEndB w wi) pl 0 → CW B M h' → CFr thA (fun _ => False) h h' → hI h' 42 = hI h 42 → hI h' 44 = hI h 44 → Q (some (.int (-1))) h')
    (k2 : ∀ h', kp (actsOf n P w) (2 ^ n) b (isEndB w wi) pl 0 < 1000 → CW B M h' → CFr thA (fun _ => False) h h' → (∀ j, j ≠ 7 → hI h' 42 j = hI h 42 j) → SPn h' (fl (actsOf n P w) (2 ^ n) b (isEndB w wi) pl 0 0) → Q (some (.int (nI (fl (actsOf n P w) (2 ^ n) b (isEndB w wi) pl 0 0).length))) h') : WPM 47 [.ref 42, .ref kn, .int (nI w), .int (nI b)] h Q := by
  have hn14 := po.1
  have hm1 : 2 ^ n ∈ sizes1 := pow_sizes1 (by omega)
  have hm : 2 ^ n ∈ sizes := s1_s hm1
  have hN0 : 0 < 2 ^ n := Nat.pow_pos (by decide)
  have hN9 : 2 ^ n ≤ 16384 := p2_le (n := 14) hn14
  have hpw : (1 : Int32) <<< (nI n &&& 31) = nI (2 ^ n) := nI_pow n (by omega)
  have a1 : hT h 42 = 6 := by simp only [cw.1]
  have a2 : hR h 42 1 = 36 := by simp only [cw.1]
  have a3 : hT h 36 = 1 := by simp only [cw.1]
  rw [we47]
  simp only [w47_a, a1, a2, a3]
  refine s2n cw (by omega) hp po hw fun h1 cw1 o1 hA1 => ?_
  have hp1 : NetP h1 kn n P := hp.only o1 (by unfold actA; omega) (by unfold actA; omega)
  have b1 : hT h1 42 = 6 := by simp only [cw1.1]
  have b2 : hR h1 42 0 = 31 := by simp only [cw1.1]
  have b3 : hT h1 31 = 3 := by simp only [cw1.1]
  have hkt : hT h1 kn = 4 := hp1.1.1
  have eI : ∀ a, ¬ actA a → hI h1 a = hI h a := o1.2.2.2.2.2.2
  have cf1 : CFr thA (fun _ => False) h h1 := CFr.ofI o1 fun a q => Or.inl q
  simp only [w47_a, s25 hp1.1, hp1.2.1, hpw, b1, b2, b3, hkt, Option.toList_none, Option.toList_some, List.cons_append, List.nil_append]
  refine row0w cw1 hm fun h2' cw2 cf2 le2 eo2 => ?_
  have c1 : hT h2' 42 = 6 := by simp only [cw2.1]
  have cw2' : CW B M (sR h2' 42 8 (hR h2' 31 0)) := cw2.setR (by decide)
  have c2 : hT (sR h2' 42 8 (hR h2' 31 0)) 42 = 6 := by simp only [cw2'.1]
  have c3 : hR (sR h2' 42 8 (hR h2' 31 0)) 42 0 = 31 := by simp only [cw2'.1]
  have c4 : hT (sR h2' 42 8 (hR h2' 31 0)) 31 = 3 := by simp only [cw2'.1]
  have cf2' : CFr (fun _ => False) (fun _ => False) h1 (sR h2' 42 8 (hR h2' 31 0)) := cf2.trans' (CFr.setR (by decide))
  have g1 : hR (sR h2' 42 8 (hR h2' 31 0)) 42 8 = hR (sR h2' 42 8 (hR h2' 31 0)) 31 0 := by rw [hR_sR, hR_sR, if_pos ⟨rfl, rfl⟩, if_neg (by decide)]
  have g3 : 2 ^ n ≤ hL (sR h2' 42 8 (hR h2' 31 0)) (hR (sR h2' 42 8 (hR h2' 31 0)) 31 0) := by rw [hR_sR, if_neg (by decide)]; exact le2
  simp only [w47_a, c1, c2, c3, c4, Option.toList_some, List.cons_append, List.nil_append]
  generalize sR h2' 42 8 (hR h2' 31 0) = h3 at *
  refine row3w cw2' hm1 fun h5 cw5 cf5 le5 eo5 => ?_
  have b9 : hT h5 42 = 6 := by simp only [cw5.1]
  have cw5' : CW B M (sR h5 42 9 (hR h5 31 3)) := cw5.setR (by decide)
  have cf5' : CFr (fun _ => False) (fun _ => False) h1 (sR h5 42 9 (hR h5 31 3)) := (cf2'.trans' cf5).trans' (CFr.setR (by decide))
  have v0 : hR h5 31 0 = hR h3 31 0 := eo5 31 0 (by have := cw2'.c100; omega) (by decide)
  have q1 : hR (sR h5 42 9 (hR h5 31 3)) 42 8 = hR (sR h5 42 9 (hR h5 31 3)) 31 0 := by
    rw [hR_sR, hR_sR, if_neg (by decide), if_neg (by decide), eo5 42 8 (by have := cw2'.c100; omega) (by decide), v0]
    exact g1
  have q3 : hR (sR h5 42 9 (hR h5 31 3)) 42 9 = hR (sR h5 42 9 (hR h5 31 3)) 31 3 := by rw [hR_sR, hR_sR, if_pos ⟨rfl, rfl⟩, if_neg (by decide)]
  have q7 : 2 ^ n ≤ hL (sR h5 42 9 (hR h5 31 3)) (hR (sR h5 42 9 (hR h5 31 3)) 31 0) := by
    rw [hR_sR, if_neg (by decide), v0]
    show 2 ^ n ≤ hL h5 (hR h3 31 0)
    rw [(cf5.1.2.2.1 (hR h3 31 0) cw2'.bl.1).2.1]
    exact g3
  have q9 : 2 ^ n ≤ hL (sR h5 42 9 (hR h5 31 3)) (hR (sR h5 42 9 (hR h5 31 3)) 31 3) := by rw [hR_sR, if_neg (by decide)]; exact le5
  simp only [w47_a, b9, Option.toList_some, List.cons_append, List.nil_append]
  generalize sR h5 42 9 (hR h5 31 3) = h6 at *
  have kI : ∀ a, a < 100 → a ≠ 32 → a ≠ 33 → a ≠ 34 → hI h6 a = hI h1 a := fun a z1 z2 z3 z4 => cf5'.keep cw1 z1 ⟨z2, z3, z4⟩ id
  have x : TX h6 (hR h6 31 0) (hR h6 31 3) (2 ^ n) (actsOf n P w) pl := by
    refine ⟨⟨by simp only [cw5'.1], by simp only [cw5'.1], by simp only [cw5'.1], by simp only [cw5'.1], by simp only [cw5'.1], by simp only [cw5'.1], by simp only [cw5'.1], by simp only [cw5'.1], by simp only [cw5'.1], q1, q3, cw5'.tg.1, cw5'.tg.2.2.2.1⟩, ⟨q7, cw5'.ln.1, q9, cw5'.ln.2.2.2.1⟩, fun a z1 z2 => ?_, cw5'.1.acts, hA1.ofI fun a z1 z2 => kI a (by omega) (by omega) (by omega) (by omega), ?_⟩
    · have := cw5'.2.1.2.2.2.2.1.1
      omega
    · refine ⟨by rw [kI 42 (by decide) (by decide) (by decide) (by decide), eI 42 (by unfold actA; omega)]; exact hpl.1, hpl.2.1, fun j v hj => ?_, hpl.2.2.2⟩
      rw [kI 43 (by decide) (by decide) (by decide) (by decide), eI 43 (by unfold actA; omega)]
      exact hpl.2.2.1 j v hj
  have hkt6 : hT h6 kn = 4 := by rcases hkn with rfl | rfl; exact cw5'.1.net4.1; exact cw5'.1.net15.1
  have e2 : hI h6 kn 2 = nI wi := by rw [kI kn (by omega) (by omega) (by omega) (by omega), eI kn (by unfold actA; omega)]; exact h2
  have cf6 : CFr thA (fun _ => False) h h6 := cf1.trans cf5' (fun _ _ q => q.elim) (fun _ _ q => q)
  have e42 : hI h6 42 = hI h 42 := by rw [kI 42 (by decide) (by decide) (by decide) (by decide), eI 42 (by unfold actA; omega)]
  have e44 : hI h6 44 = hI h 44 := by rw [kI 44 (by decide) (by decide) (by decide) (by decide), eI 44 (by unfold actA; omega)]
  have n42 : (42 : Nat) ≠ hR h6 31 0 := (cw5'.far (a := 42) (by decide)).1
  have n44 : (44 : Nat) ≠ hR h6 31 0 := (cw5'.far (a := 44) (by decide)).1
  have cfT : ∀ lf pa, CFr thA (fun _ => False) h6 (THp h6 (hR h6 31 0) (hR h6 31 3) lf pa) := fun lf pa => CFr.ofIJ THp_only (fun a q => Or.inr (Or.inl q)) (fun a q => Or.inr q)
  have cwT : ∀ lf pa, CW B M (THp h6 (hR h6 31 0) (hR h6 31 3) lf pa) := fun lf pa => cw5'.ofIJ THp_only
  rw [← THp_id (h := h6) (lr := hR h6 31 0) (pr := hR h6 31 3)]
  refine thin_0 x hN9 hw hwi hkt6 (by omega) e2 (fun lf pa ts => ?_) (2 ^ n) 0 _ _ rfl (Nat.zero_le _) (fun s hs => absurd hs (Nat.not_lt_zero _))
  refine thin_l (pa0 := pa) x (po.acts w) (parts_actW po) parts_ne (fun a ha => (parts_num hn14 a ha).1) ⟨hN0, hN9⟩ hb9 (fun lf' pa' hk => ?_) (fun lf' pa' g f hk hg sp => ?_) pl.length lf pa _ (Nat.le_refl _) ts
  · exact k1 _ hk (cwT _ _) (cf6.trans' (cfT _ _)) (by rw [THp_I n42, e42]) (by rw [THp_I n44, e44])
  · refine k2 _ hk ((cwT _ _).ofI FHp_only) ((cf6.trans' (cfT _ _)).trans' (CFr.ofI FHp_only fun a q => by rcases q with q | q; exact Or.inr (Or.inl q); exact Or.inr (Or.inr q))) (fun j hj => ?_) sp
    rw [(FHp_r _ g f).2.2.2.2.1, hg j hj, e42]
end Follow

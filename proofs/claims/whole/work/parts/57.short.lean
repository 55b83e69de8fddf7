/-! ===== Shortest: the heap of the search back ===== -/
def SHp (h : AH) (q l p : Nat) (qu lf : Nat → Int32) (pa : Nat → Int64) (m : Nat) : AH :=
  (hT h, hL h, fun a => if a = l then lf else if a = q then qu else if a = 50 then va_up (hI h 50) 5 (nI m) else hI h a, fun a => if a = p then pa else hJ h a, hR h, hN h, hS h)
theorem SHp_I (h : AH) (q l p : Nat) (qu lf : Nat → Int32) (pa : Nat → Int64) (m a : Nat) : hI (SHp h q l p qu lf pa m) a = if a = l then lf else if a = q then qu else if a = 50 then va_up (hI h 50) 5 (nI m) else hI h a := rfl
theorem SHp_J (h : AH) (q l p : Nat) (qu lf : Nat → Int32) (pa : Nat → Int64) (m a : Nat) : hJ (SHp h q l p qu lf pa m) a = if a = p then pa else hJ h a := rfl
theorem SHp_r {h : AH} {q l p : Nat} (n1 : q ≠ l) (n2 : q ≠ 50) (n3 : l ≠ 50) : ∀ (qu lf : Nat → Int32) (pa : Nat → Int64) (m : Nat), hT (SHp h q l p qu lf pa m) = hT h ∧ hL (SHp h q l p qu lf pa m) = hL h ∧ hR (SHp h q l p qu lf pa m) = hR h ∧
    hI (SHp h q l p qu lf pa m) l = lf ∧ hI (SHp h q l p qu lf pa m) q = qu ∧ hI (SHp h q l p qu lf pa m) 50 5 = nI m ∧ hJ (SHp h q l p qu lf pa m) p = pa ∧
    (∀ k v, sI (SHp h q l p qu lf pa m) l k v = SHp h q l p qu (va_up lf k v) pa m) ∧ (∀ k v, sI (SHp h q l p qu lf pa m) q k v = SHp h q l p (va_up qu k v) lf pa m) ∧ (∀ k v, sJ (SHp h q l p qu lf pa m) p k v = SHp h q l p qu lf (va_up pa k v) m) ∧ (∀ m', sI (SHp h q l p qu lf pa m) 50 5 (nI m') = SHp h q l p qu lf pa m') := by
  intro qu lf pa m
  have n1' : l ≠ q := Ne.symm n1
  have n2' : 50 ≠ q := Ne.symm n2
  have n3' : 50 ≠ l := Ne.symm n3
  refine ⟨rfl, rfl, rfl, ?_, ?_, ?_, ?_, fun k v => ?_, fun k v => ?_, fun k v => ?_, fun m' => ?_⟩
  · rw [SHp_I, if_pos rfl]
  · rw [SHp_I, if_neg n1, if_pos rfl]
  · rw [SHp_I, if_neg n3', if_neg n2', if_pos rfl, up_at, if_pos rfl]
  · rw [SHp_J, if_pos rfl]
  · rw [sI_as]
    refine ah_ext rfl rfl ?_ rfl rfl rfl rfl
    funext a
    rw [hI_setI, SHp_I, SHp_I, SHp_I, if_pos rfl]
    by_cases e : a = l
    · simp only [e, if_true]
    · simp only [e, if_false]
  · rw [sI_as]
    refine ah_ext rfl rfl ?_ rfl rfl rfl rfl
    funext a
    rw [hI_setI, SHp_I, SHp_I, SHp_I, if_neg n1, if_pos rfl]
    by_cases e : a = q
    · simp only [e, if_true, n1, if_false]
    · simp only [e, if_false]
  · rw [sJ_as]
    refine ah_ext rfl rfl rfl ?_ rfl rfl rfl
    funext a
    rw [hJ_setJ, SHp_J, SHp_J, SHp_J, if_pos rfl]
    by_cases e : a = p
    · simp only [e, if_true]
    · simp only [e, if_false]
  · rw [sI_as]
    refine ah_ext rfl rfl ?_ rfl rfl rfl rfl
    funext a
    rw [hI_setI, SHp_I, SHp_I, SHp_I, if_neg n3', if_neg n2', if_pos rfl]
    by_cases e : a = 50
    · simp only [e, if_true, n3', n2', if_false]
      funext j
      rw [up_at, up_at, up_at]
      split <;> rfl
    · simp only [e, if_false]
/-- what the search needs of the heap -/
def SX (h : AH) (q l p N : Nat) (L : List Act) : Prop := (hT h 50 = 9 ∧ hT h 36 = 1 ∧ hR h 50 1 = 36 ∧ hR h 50 2 = q ∧ hR h 50 3 = l ∧ hR h 50 4 = p ∧ hT h q = 100 ∧ hT h l = 100 ∧ hT h p = 103) ∧ (N ≤ hL h q ∧ hL h q ≤ 65536 ∧ N ≤ hL h l ∧ hL h l ≤ 65536 ∧ N ≤ hL h p ∧ hL h p ≤ 65536) ∧ (q ≠ l ∧ q ≠ 50 ∧ l ≠ 50) ∧ (q < 36 ∨ 41 < q) ∧ (l < 36 ∨ 41 < l) ∧ F_acts h ∧ ActsHold h N L
theorem SX.acts {h : AH} {q l p N : Nat} {L : List Act} (x : SX h q l p N L) (qu lf : Nat → Int32) (pa : Nat → Int64) (m : Nat) : ActsHold (SHp h q l p qu lf pa m) N L := by
  obtain ⟨-, -, -, x1, x2, -, x3⟩ := x
  refine x3.ofI fun a a1 a2 => ?_
  rw [SHp_I, if_neg (by omega), if_neg (by omega), if_neg (by omega)]
section Short
variable {h : AH} {q l p N b : Nat} {L : List Act} {Q : Option Value → AH → Prop}
theorem s77 (x : SX h q l p N L) {s m : Nat} {v : Int32} {c : Int64} {qu lf : Nat → Int32} {pa : Nat → Int64} (hs : s < N) (hm : m < N) : WPM 77 [.ref 50, .int (nI s), .int v, .long c] (SHp h q l p qu lf pa m) Q ↔ Q none (SHp h q l p (va_up qu m (nI s)) (va_up lf s v) (va_up pa s c) (m + 1)) := by
  obtain ⟨⟨a1, a2, a3, a4, a5, a6, a7, a8, a9⟩, ⟨l1, l2, l3, l4, l5, l6⟩, ⟨n1, n2, n3⟩, -⟩ := x
  have hr := SHp_r (h := h) (p := p) n1 n2 n3
  have c1 : (nI s).toNatClampNeg = s := nI_clamp (by omega)
  have c2 : (nI m).toNatClampNeg = m := nI_clamp (by omega)
  have i1 : inb (nI s) (hL h l) = true := inb_nI (by omega) (by omega)
  have i2 : inb (nI s) (hL h p) = true := inb_nI (by omega) (by omega)
  have i3 : inb (nI m) (hL h q) = true := inb_nI (by omega) (by omega)
  have hlt : nI m < nI (hL h q) := nI_lt (by omega) (by omega)
  simp only [we77, w77, hr, a1, a4, a5, a6, a7, a8, a9, c1, c2, i1, i2, i3, hlt, true_or, or_true, true_implies, not_true_eq_false, false_implies, and_true, nI_1]
/-- the rows hold the state -/
def SRl (N : Nat) (z : SZ) (qu lf : Nat → Int32) (pa : Nat → Int64) : Prop := (∀ j x, z.2.2[j]? = some x → qu j = nI x) ∧ (∀ s, s < N → lf s = oI (z.1 s)) ∧ ∀ s, z.1 s ≠ none → pa s = lN (z.2.1 s) ∧ z.2.1 s ≤ MR
def ZK (N : Nat) (z : SZ) : Prop := z.2.2.Nodup ∧ (∀ x, z.1 x ≠ none ↔ x ∈ z.2.2) ∧ (∀ x, x ∈ z.2.2 → x < N) ∧ ∀ x k, z.1 x = some k → k ≤ 16385
theorem ZK.len {N : Nat} {z : SZ} (k : ZK N z) {s : Nat} (hs : s < N) (hz : z.1 s = none) : z.2.2.length < N := by
  obtain ⟨k1, k2, k3, -⟩ := k
  have := nodup_len N (s :: z.2.2) (List.nodup_cons.mpr ⟨fun q => (k2 s).mpr q hz, k1⟩) (fun y hy => by
    rcases List.mem_cons.mp hy with rfl | w
    · exact hs
    · exact k3 y w)
  rw [List.length_cons] at this
  omega
theorem sb1_t0 {z : SZ} {t0 dt ct : Nat} {o : Option Nat} (h0 : z.1 t0 = some dt) : (sb1 dt ct o z).1 t0 = some dt ∧ (sb1 dt ct o z).2.1 t0 = z.2.1 t0 := by
  unfold sb1
  cases o with
  | none => exact ⟨h0, rfl⟩
  | some s =>
    by_cases q1 : z.1 s = none
    · have : t0 ≠ s := fun w => by rw [← w, h0] at q1; cases q1
      simp only [q1, if_true, up_at, if_neg this, h0, and_self]
    · by_cases q2 : z.1 s = some (dt + 1)
      · have : t0 ≠ s := fun w => by
          rw [← w, h0] at q2
          have := Option.some.inj q2
          omega
        simp only [q2, if_true, if_neg this, up_at, h0, and_self, reduceCtorEq, if_false]
      · simp only [q1, q2, if_false, h0, and_self]
theorem back_loop (x : SX h q l p N L) (ha : ActsOK L) (hw : ∀ a ∈ L, actW a) (hN9 : N ≤ 16384) (hb9 : b < 65536) {t0 dt ct : Nat} (ht0 : t0 < N ∧ pc t0 ≤ b) (hdt : dt ≤ 16384) :
    ∀ d j z qu lf pa y, L.length - j = d → j ≤ L.length → SRl N z qu lf pa → ZK N z → z.1 t0 = some dt → z.2.1 t0 = ct →
    (∀ qu' lf' pa', SRl N (sbA (L.drop j) N b t0 dt ct z) qu' lf' pa' → ZK N (sbA (L.drop j) N b t0 dt ct z) → Q none (SHp h q l p qu' lf' pa' (sbA (L.drop j) N b t0 dt ct z).2.2.length)) →
    WP 78 12 [.ref 50, .int (nI t0), .int (nI b), .int (nI (dt + 1)), .int (nI j), y] [] (SHp h q l p qu lf pa z.2.2.length) Q := by
  obtain ⟨⟨a1, a2, a3, a4, a5, a6, a7, a8, a9⟩, ⟨l1, l2, l3, l4, l5, l6⟩, ⟨n1, n2, n3⟩, x1, x2, x3, x4⟩ := id x
  have hr := SHp_r (h := h) (p := p) n1 n2 n3
  obtain ⟨ha1, ha2, ha3⟩ := ha
  intro d
  induction d with
  | zero =>
    intro j z qu lf pa y hd hj sr zk h0 hc kk
    have hle : nI L.length ≤ nI j := nI_le (by omega) (by omega)
    have hAs := (x.acts qu lf pa z.2.2.length).1
    have : j = L.length := by omega
    subst this
    rw [List.drop_length] at kk
    rw [w78_12]
    simp only [w78_a, w78_b, hr, a1, a2, a3, hAs, hle, true_implies, not_true_eq_false, false_implies, and_true]
    exact kk qu lf pa sr zk
  | succ d ih =>
    intro j z qu lf pa y hd hj sr zk h0 hc kk
    have hjl : j < L.length := by omega
    have hle : ¬ nI L.length ≤ nI j := nI_ge (by omega) (by omega)
    have hA := x.acts qu lf pa z.2.2.length
    have hAs := hA.1
    have haj : L[j]? = some L[j] := List.getElem?_eq_getElem hjl
    have haL : L[j] ∈ L := List.getElem_mem hjl
    have h8 := s8N (h := SHp h q l p qu lf pa z.2.2.length) (N := N) (b := b) (t := t0) x3 (show j < 112 by omega) (hA.2.1 j _ haj) (ha1 _ haL) hA.2.2 (by omega) (show t0 < 65536 by omega) hb9
    rw [List.drop_eq_getElem_cons hjl] at kk
    obtain ⟨r1, r2, r3⟩ := id sr
    have hgo : ∀ qu' lf' pa' y', SRl N (sb1 dt ct (bef N b L[j] t0) z) qu' lf' pa' → ZK N (sb1 dt ct (bef N b L[j] t0) z) → WP 78 12 [.ref 50, .int (nI t0), .int (nI b), .int (nI (dt + 1)), .int (nI (j + 1)), y'] [] (SHp h q l p qu' lf' pa' (sb1 dt ct (bef N b L[j] t0) z).2.2.length) Q := fun qu' lf' pa' y' g1 g2 =>
      ih (j + 1) (sb1 dt ct (bef N b L[j] t0) z) qu' lf' pa' y' (by omega) (by omega) g1 g2 (sb1_t0 h0).1 ((sb1_t0 h0).2.trans hc) kk
    rw [w78_12]
    cases q0 : bef N b L[j] t0 with
    | none =>
      rw [q0] at hgo h8
      simp only [w78_a, w78_b, hr, a1, a2, a3, hAs, hle, h8, oI_none, i32_0m1, Option.toList_some, List.cons_append, List.nil_append, true_implies, not_true_eq_false, not_false_eq_true, false_implies, and_true, true_and, nI_1]
      exact hgo qu lf pa _ sr zk
    | some s =>
      rw [q0] at hgo h8
      obtain ⟨s1, s2, s3⟩ := (bef_iff (hw _ haL) ht0).mp q0
      have c1 : (nI s).toNatClampNeg = s := nI_clamp (by omega)
      have c2 : (nI t0).toNatClampNeg = t0 := nI_clamp (by omega)
      have i1 : inb (nI s) (hL h l) = true := inb_nI (by omega) (by omega)
      have i2 : inb (nI s) (hL h p) = true := inb_nI (by omega) (by omega)
      have i3 : inb (nI t0) (hL h p) = true := inb_nI (by omega) (by omega)
      have g0 : (0 : Int32) ≤ nI s := nI_pos' (by omega)
      have hl := r2 s s1
      have hpt := r3 t0 (by rw [h0]; exact Option.some_ne_none _)
      rw [hc] at hpt
      cases q1 : z.1 s with
      | none =>
        rw [q1, oI_none] at hl
        have hlen := zk.len s1 q1
        have e1 : sb1 dt ct (some s) z = (va_up z.1 s (some (dt + 1)), va_up z.2.1 s ct, z.2.2 ++ [s]) := by unfold sb1; simp only [q1, if_true]
        rw [e1] at hgo
        simp only [w78_a, w78_b, hr, a1, a2, a3, a5, a6, a8, a9, hAs, hle, h8, oI_some, g0, c1, c2, i1, i3, hl, hpt.1, i32_0m1, s77 x s1 hlen, Option.toList_some, Option.toList_none, List.cons_append, List.nil_append, true_or, or_true, true_implies, not_true_eq_false, not_false_eq_true, false_implies, and_true, true_and, nI_1]
        have elen : (z.2.2 ++ [s]).length = z.2.2.length + 1 := by simp
        refine Eq.mp ?_ (hgo (va_up qu z.2.2.length (nI s)) (va_up lf s (nI (dt + 1))) (va_up pa s (lN ct)) (.int (nI s)) ?_ ?_)
        · rw [elen]
        · refine ⟨fun i y' hi => ?_, fun t ht => ?_, fun t ht => ?_⟩
          · rw [up_at]
            change (z.2.2 ++ [s])[i]? = some y' at hi
            rcases Nat.lt_trichotomy i z.2.2.length with w | w | w
            · rw [List.getElem?_append_left w] at hi
              rw [if_neg (by omega)]
              exact r1 i y' hi
            · subst w
              rw [List.getElem?_append_right (Nat.le_refl _), Nat.sub_self] at hi
              rw [if_pos rfl]
              have : s = y' := Option.some.inj hi
              rw [this]
            · rw [List.getElem?_eq_none (by rw [elen]; omega)] at hi
              cases hi
          · show va_up lf s (nI (dt + 1)) t = oI (va_up z.1 s (some (dt + 1)) t)
            rw [up_at, up_at]
            split
            · rfl
            · exact r2 t ht
          · show va_up pa s (lN ct) t = lN (va_up z.2.1 s ct t) ∧ va_up z.2.1 s ct t ≤ MR
            rw [up_at, up_at]
            change va_up z.1 s (some (dt + 1)) t ≠ none at ht
            rw [up_at] at ht
            split
            · exact ⟨rfl, hpt.2⟩
            · next w =>
              rw [if_neg w] at ht
              exact r3 t ht
        · obtain ⟨k1, k2, k3, k4⟩ := zk
          refine ⟨?_, fun t => ?_, fun t ht => ?_, fun t k ht => ?_⟩
          · show (z.2.2 ++ [s]).Nodup
            rw [List.nodup_append]
            refine ⟨k1, by simp, fun y1 h1 y2 h2 e => ?_⟩
            have : y2 = s := by simpa using h2
            exact (k2 s).mpr (by rw [← this, ← e]; exact h1) q1
          · show va_up z.1 s (some (dt + 1)) t ≠ none ↔ t ∈ z.2.2 ++ [s]
            rw [up_at, List.mem_append, List.mem_singleton]
            by_cases w : t = s
            · simp [w]
            · rw [if_neg w, k2 t]
              simp [w]
          · rcases List.mem_append.mp ht with w | w
            · exact k3 t w
            · have : t = s := by simpa using w
              omega
          · change va_up z.1 s (some (dt + 1)) t = some k at ht
            rw [up_at] at ht
            split at ht
            · have := Option.some.inj ht
              omega
            · exact k4 t k ht
      | some v =>
        rw [q1, oI_some] at hl
        have gv : (0 : Int32) ≤ nI v := nI_pos' (by have := zk.2.2.2 s v q1; omega)
        by_cases q2 : v = dt + 1
        · have e1 : sb1 dt ct (some s) z = (z.1, va_up z.2.1 s (min MR (z.2.1 s + ct)), z.2.2) := by
            unfold sb1
            simp only [q1, q2, reduceCtorEq, if_false, if_true]
          rw [e1] at hgo
          subst q2
          have hps := r3 s (by rw [q1]; exact Option.some_ne_none _)
          have hmin : (if lN (z.2.1 s + ct) < lN 1000000000000000 then lN (z.2.1 s + ct) else lN 1000000000000000) = lN (min MR (z.2.1 s + ct)) := by
            have hb1 := hps.2
            have hb2 := hpt.2
            unfold MR at hb1 hb2 ⊢
            by_cases w : z.2.1 s + ct < 1000000000000000
            · rw [if_pos ((lN_ltI (by omega) (by omega)).mpr w), Nat.min_eq_right (by omega)]
            · rw [if_neg (fun w' => w ((lN_ltI (by omega) (by omega)).mp w')), Nat.min_eq_left (by omega)]
          simp only [w78_a, w78_b, hr, a1, a2, a3, a5, a6, a8, a9, hAs, hle, h8, oI_some, g0, gv, c1, c2, i1, i2, i3, hl, hpt.1, hps.1, lN_add, hmin, Option.toList_some, Option.toList_none, List.cons_append, List.nil_append, true_or, or_true, true_implies, not_true_eq_false, not_false_eq_true, false_implies, and_true, true_and, nI_1]
          refine hgo qu lf (va_up pa s (lN (min MR (z.2.1 s + ct)))) _ ⟨r1, r2, fun t ht => ?_⟩ zk
          show va_up pa s (lN (min MR (z.2.1 s + ct))) t = lN (va_up z.2.1 s (min MR (z.2.1 s + ct)) t) ∧ va_up z.2.1 s (min MR (z.2.1 s + ct)) t ≤ MR
          rw [up_at, up_at]
          split
          · exact ⟨rfl, Nat.min_le_left _ _⟩
          · exact r3 t ht
        · have e1 : sb1 dt ct (some s) z = z := by
            unfold sb1
            have : ¬ (some v = some (dt + 1)) := fun w => q2 (Option.some.inj w)
            simp only [q1, this, reduceCtorEq, if_false]
          rw [e1] at hgo
          have hne : ¬ nI v = nI (dt + 1) := fun w => q2 (nI_inj (by have := zk.2.2.2 s v q1; omega) (by omega) w)
          simp only [w78_a, w78_b, hr, a1, a2, a3, a5, a6, a8, a9, hAs, hle, h8, oI_some, g0, gv, c1, i1, hl, hne, Option.toList_some, Option.toList_none, List.cons_append, List.nil_append, true_or, or_true, true_implies, not_true_eq_false, not_false_eq_true, false_implies, and_true, true_and, nI_1]
          exact hgo qu lf pa _ sr zk
theorem s78 (x : SX h q l p N L) (ha : ActsOK L) (hw : ∀ a ∈ L, actW a) (hN9 : N ≤ 16384) (hb9 : b < 65536) {t0 dt : Nat} {z : SZ} {qu lf : Nat → Int32} {pa : Nat → Int64} (ht0 : t0 < N ∧ pc t0 ≤ b) (hdt : dt ≤ 16384) (sr : SRl N z qu lf pa) (zk : ZK N z) (h0 : z.1 t0 = some dt)
    (k : ∀ qu' lf' pa', SRl N (sbA L N b t0 dt (z.2.1 t0) z) qu' lf' pa' → ZK N (sbA L N b t0 dt (z.2.1 t0) z) → Q none (SHp h q l p qu' lf' pa' (sbA L N b t0 dt (z.2.1 t0) z).2.2.length)) : WPM 78 [.ref 50, .int (nI t0), .int (nI b)] (SHp h q l p qu lf pa z.2.2.length) Q := by
  obtain ⟨⟨a1, a2, a3, a4, a5, a6, a7, a8, a9⟩, ⟨l1, l2, l3, l4, l5, l6⟩, ⟨n1, n2, n3⟩, x1, x2, x3, x4⟩ := id x
  have hr := SHp_r (h := h) (p := p) n1 n2 n3
  have c2 : (nI t0).toNatClampNeg = t0 := nI_clamp (by omega)
  have i3 : inb (nI t0) (hL h l) = true := inb_nI (by omega) (by omega)
  have hl := sr.2.1 t0 ht0.1
  rw [h0, oI_some] at hl
  rw [we78]
  simp only [w78_a, w78_b, hr, a1, a5, a8, c2, i3, hl, true_or, nI_1]
  have := back_loop (Q := Q) x ha hw hN9 hb9 ht0 hdt L.length 0 z qu lf pa (.retAddr 0) rfl (Nat.zero_le _) sr zk h0 rfl
  rw [List.drop_zero] at this
  exact this k
end Short

/-! ===== with n bowls every END is reached; Reach.bestBought ===== -/
theorem aft_big {n s : Nat} {a : Act} (hn : n ≤ 14) (h1 : s &&& (aNd a ||| aGn a) = aNd a) (h2 : sdf (s ||| aGn a) (aLs a) < 2 ^ n) : aft (2 ^ n) n a s = some (sdf (s ||| aGn a) (aLs a)) := by
  unfold aft
  rw [if_pos h1, if_pos ⟨h2, pc_lt h2 (by omega)⟩]
theorem allMade {n w : Nat} {P : Nat → Nat} (po : PartsOK n P) : ∀ k, k ≤ n → Rch (actsOf n P w) (2 ^ n) n (2 ^ k - 1) := by
  intro k
  induction k with
  | zero => exact fun _ => Rch.z _ _ _
  | succ k ih =>
    intro hk
    have hP := (po.2 k (by omega)).1
    have e : sdf ((2 ^ k - 1) ||| aGn (mkA P k)) (aLs (mkA P k)) = 2 ^ (k + 1) - 1 := by
      apply Nat.eq_of_testBit_eq
      intro j
      show (sdf ((2 ^ k - 1) ||| 2 ^ k) 0).testBit j = _
      rw [sdf_bit, bit_or_pow, Nat.testBit_two_pow_sub_one, Nat.testBit_two_pow_sub_one, Nat.zero_testBit]
      by_cases q : j < k
      · simp [q, show j < k + 1 by omega]
      · by_cases q2 : k = j
        · simp [q2]
        · simp [q, q2, show ¬ j < k + 1 by omega]
    refine (ih (by omega)).st (mem_actsOf.mpr (Or.inl ⟨k, by omega, rfl⟩)) ?_
    have hb := aft_big (n := n) (s := 2 ^ k - 1) (a := mkA P k) po.1 ?_ ?_
    · rw [e] at hb
      exact hb
    · show (2 ^ k - 1) &&& (P k ||| 2 ^ k) = P k
      apply Nat.eq_of_testBit_eq
      intro j
      rw [Nat.testBit_and, bit_or_pow, Nat.testBit_two_pow_sub_one]
      by_cases q : j < k
      · simp [q, show ¬ k = j by omega]
      · have : (P k).testBit j = false := Nat.testBit_lt_two_pow (Nat.lt_of_lt_of_le hP (p2_le (by omega)))
        simp [q, this]
    · rw [e]
      have := p2_le (show k + 1 ≤ n by omega)
      have h0 : 0 < 2 ^ (k + 1) := Nat.pow_pos (by decide)
      omega
theorem allWashed {n w wi : Nat} {P : Nat → Nat} (po : PartsOK n P) (hwi : wi < 2 ^ n) : ∀ d k, n - k = d → k ≤ n → Rch (actsOf n P w) (2 ^ n) n ((2 ^ k - 1) ||| wi) := by
  intro d
  induction d with
  | zero =>
    intro k hd hk
    have : k = n := by omega
    subst this
    have e : (2 ^ k - 1) ||| wi = 2 ^ k - 1 := by
      apply Nat.eq_of_testBit_eq
      intro j
      rw [Nat.testBit_or, Nat.testBit_two_pow_sub_one]
      by_cases q : j < k
      · simp [q]
      · have : wi.testBit j = false := Nat.testBit_lt_two_pow (Nat.lt_of_lt_of_le hwi (p2_le (by omega)))
        simp [q, this]
    rw [e]
    exact allMade po k (Nat.le_refl _)
  | succ d ih =>
    intro k hd hk
    have h1 := ih (k + 1) (by omega) (by omega)
    have hP := (po.2 k (by omega)).1
    by_cases q : wi.testBit k = true
    · have e : (2 ^ k - 1) ||| wi = (2 ^ (k + 1) - 1) ||| wi := by
        apply Nat.eq_of_testBit_eq
        intro j
        rw [Nat.testBit_or, Nat.testBit_or, Nat.testBit_two_pow_sub_one, Nat.testBit_two_pow_sub_one]
        by_cases q2 : j < k
        · simp [q2, show j < k + 1 by omega]
        · by_cases q3 : j = k
          · subst q3; simp [q]
          · simp [q2, show ¬ j < k + 1 by omega]
      rw [e]
      exact h1
    · have e : sdf (((2 ^ (k + 1) - 1) ||| wi) ||| aGn (waA w P k)) (aLs (waA w P k)) = (2 ^ k - 1) ||| wi := by
        apply Nat.eq_of_testBit_eq
        intro j
        show (sdf (((2 ^ (k + 1) - 1) ||| wi) ||| 0) (2 ^ k)).testBit j = _
        rw [Nat.or_zero, bit_sdf_pow, Nat.testBit_or, Nat.testBit_or, Nat.testBit_two_pow_sub_one, Nat.testBit_two_pow_sub_one]
        by_cases q2 : j < k
        · simp [q2, show j < k + 1 by omega, show ¬ k = j by omega]
        · by_cases q3 : k = j
          · subst q3
            simp only [Bool.not_eq_true] at q
            simp [q]
          · simp [q2, q3, show ¬ j < k + 1 by omega]
      refine h1.st (mem_actsOf.mpr (Or.inr (Or.inl ⟨k, by omega, rfl⟩))) ?_
      have hb := aft_big (n := n) (s := (2 ^ (k + 1) - 1) ||| wi) (a := waA w P k) po.1 ?_ ?_
      · rw [e] at hb
        exact hb
      · show ((2 ^ (k + 1) - 1) ||| wi) &&& ((2 ^ k ||| tw w P k) ||| 0) = 2 ^ k ||| tw w P k
        rw [Nat.or_zero]
        apply sub_and.mp
        intro j hj
        rw [Nat.testBit_or] at hj
        have hjk : j < k + 1 := by
          have ht : tw w P k < 2 ^ k := by
            show (if w / 2 % 2 = 1 then P k else 0) < 2 ^ k
            split
            · exact hP
            · exact Nat.pow_pos (by decide)
          rcases Nat.lt_or_ge j (k + 1) with z | z
          · exact z
          · have z1 : (tw w P k).testBit j = false := Nat.testBit_lt_two_pow (Nat.lt_of_lt_of_le ht (p2_le (by omega)))
            have z2 : (2 ^ k).testBit j = false := Nat.testBit_lt_two_pow (p2_lt (by omega))
            rw [z1, z2] at hj
            cases hj
        rw [Nat.testBit_or, Nat.testBit_two_pow_sub_one]
        simp [hjk]
      · rw [e]
        refine or_lt2 ?_ hwi
        have := p2_le (show k ≤ n by omega)
        have h0 : 0 < 2 ^ k := Nat.pow_pos (by decide)
        omega
theorem endAtN {n w w' wi : Nat} {P : Nat → Nat} (po : PartsOK n P) (hwi : wi < 2 ^ n) : EndAt (actsOf n P w) (2 ^ n) w' wi n := by
  have h := allWashed (w := w) po hwi n 0 (by omega) (by omega)
  rw [show (2 ^ 0 - 1) ||| wi = wi from Nat.zero_or wi] at h
  refine ⟨wi, hwi, h, isEndP_iff.mpr ?_⟩
  split
  · rfl
  · exact Nat.and_self wi
theorem actsOf_mod {n w : Nat} {P : Nat → Nat} : actsOf n P (w % 4) = actsOf n P w := by
  have e1 : w % 4 % 2 = w % 2 := by omega
  have e2 : w % 4 / 2 % 2 = w / 2 % 2 := by omega
  have h1 : tw (w % 4) P = tw w P := by funext x; unfold tw; rw [e2]
  unfold actsOf
  rw [e1]
  have h2 : waA (w % 4) P = waA w P := by funext x; unfold waA; rw [h1]
  have h3 : rowA (w % 4) P = rowA w P := by funext x; unfold rowA inA; rw [h1]
  rw [h2, h3]
/-- the least bowls -/
def MinB (n : Nat) (P : Nat → Nat) (w wi c : Nat) : Prop := EndAt (actsOf n P (w % 4)) (2 ^ n) w wi c ∧ ∀ c', c' < c → ¬ EndAt (actsOf n P (w % 4)) (2 ^ n) w wi c'
theorem MinB.uniq {n w wi c c' : Nat} {P : Nat → Nat} (h : MinB n P w wi c) (h' : MinB n P w wi c') : c = c' := by
  rcases Nat.lt_trichotomy c c' with q | q | q
  · exact absurd h.1 (h'.2 c q)
  · exact q
  · exact absurd h'.1 (h.2 c' q)
/-- looking at the first k of the things: the least so far, and which -/
def RdK (n : Nat) (P : Nat → Nat) (w wi : Nat) : Nat → Nat → Int32 → Prop
  | 0, c, r => r = -1 ∧ MinB n P w wi c
  | k + 1, c, r => ∃ c0 r0, RdK n P w wi k c0 r0 ∧ if P k = 0 then c = c0 ∧ r = r0 else ∃ c1, MinB n (buy P k) w wi c1 ∧ if c1 < c0 then c = c1 ∧ r = nI k else c = c0 ∧ r = r0
theorem RdK.uniq {n : Nat} {P : Nat → Nat} {w wi : Nat} : ∀ k c r c' r', RdK n P w wi k c r → RdK n P w wi k c' r' → c = c' ∧ r = r' := by
  intro k
  induction k with
  | zero => exact fun c r c' r' h h' => ⟨h.2.uniq h'.2, h.1.trans h'.1.symm⟩
  | succ k ih =>
    rintro c r c' r' ⟨c0, r0, h1, h2⟩ ⟨c0', r0', h1', h2'⟩
    obtain ⟨rfl, rfl⟩ := ih _ _ _ _ h1 h1'
    by_cases q : P k = 0
    · rw [if_pos q] at h2 h2'
      exact ⟨h2.1.trans h2'.1.symm, h2.2.trans h2'.2.symm⟩
    · rw [if_neg q] at h2 h2'
      obtain ⟨c1, m1, e1⟩ := h2
      obtain ⟨c1', m1', e1'⟩ := h2'
      obtain rfl := m1.uniq m1'
      by_cases q2 : c1 < c0
      · rw [if_pos q2] at e1 e1'
        exact ⟨e1.1.trans e1'.1.symm, e1.2.trans e1'.2.symm⟩
      · rw [if_neg q2] at e1 e1'
        exact ⟨e1.1.trans e1'.1.symm, e1.2.trans e1'.2.symm⟩
theorem MinB.le {n w wi c : Nat} {P : Nat → Nat} (h : MinB n P w wi c) (po : PartsOK n P) (hwi : wi < 2 ^ n) : c ≤ n := by
  rcases Nat.lt_or_ge n c with q | q
  · exact absurd (endAtN po hwi) (h.2 n q)
  · exact q
theorem nI_prd {c : Nat} (h : 0 < c) (h2 : c < 100) : nI c - 1 = nI (c - 1) := by
  have : ∀ c, c < 100 → 0 < c → nI c - 1 = nI (c - 1) := by decide +kernel
  exact this c h2 h
section Bought
variable {h : AH} {B M kn n w wi R : Nat} {P : Nat → Nat} {Q : Option Value → AH → Prop}
theorem bought_l (cw0 : CW B M h) (hkn : kn = 4 ∨ kn = 15) (hp : NetP h kn n P) (po : PartsOK n P) (hw : w < 8) (hw0 : 0 < wi) (hwi : wi < 2 ^ n) (hR1 : hI h kn 1 = nI R) (hR9 : R < 2 ^ 31) (hRb : ∀ k, k < n → R.testBit k = decide (P k = 0)) (h2 : hI h kn 2 = nI wi)
    (k : ∀ h' r c, RdK n P w wi n c r → CW B M h' → hI h' 47 6 = -1 → CFr (trI h) (fun _ => False) h h' → Q (some (.int r)) h') :
    ∀ d x h1 c r y, n - x = d → x ≤ n → RdK n P w wi x c r → 0 < c → c ≤ n → CW B M h1 → CFr (trI h) (fun _ => False) h h1 → WP 55 26 [.ref 47, .ref kn, .int (nI w), .int (nI c), .int r, .int (nI x), y] [] h1 Q := by
  have hn14 := po.1
  have hm : 2 ^ n ∈ sizes := pow_sizes (by omega)
  have hN0 : 0 < 2 ^ n := Nat.pow_pos (by decide)
  have hN9 : 2 ^ n ≤ 16384 := p2_le (n := 14) hn14
  have t1 : ¬ trI h kn := by have := (cw0.far (kn_far (j := 0) hkn (by omega))).2.2.2.2.1; unfold trI actA; omega
  have t2 : ¬ trI h (kn + 3) := by have := (cw0.far (kn_far (j := 3) hkn (by omega))).2.2.2.2.1; unfold trI actA; omega
  intro d
  induction d with
  | zero =>
    intro x h1 c r y hd hx hr hc hcn cw cf
    have hp1 := hp.cfr cf cw0 cw hkn t1 t2
    have hkt : hT h1 kn = 4 := hp1.1.1
    have h47 : hT h1 47 = 7 := by simp only [cw.1]
    have hle : nI n ≤ nI x := nI_le (by omega) (by omega)
    have hxn : x = n := by omega
    subst hxn
    rw [w55_26]
    simp only [w55_a, w55_b, hkt, hp1.2.1, hle, h47, s51 h47, Option.toList_none, List.nil_append, true_implies, not_true_eq_false, false_implies, and_true]
    have o3 : OnlyI (fun a => a = 47) h1 (sI h1 47 6 (-1)) := OnlyI.sI (A := fun a => a = 47) OnlyI.rf _ rfl
    exact k _ r c hr (cw.ofI o3) (by rw [hI_sI, if_pos ⟨rfl, rfl⟩]) (cf.trans' (CFr.ofI o3 fun a q => Or.inr (Or.inl q)))
  | succ d ih =>
    intro x h1 c r y hd hx hr hc hcn cw cf
    have hp1 := hp.cfr cf cw0 cw hkn t1 t2
    have hkt : hT h1 kn = 4 := hp1.1.1
    have h47 : hT h1 47 = 7 := by simp only [cw.1]
    have h47r : hR h1 47 1 = 36 := by simp only [cw.1]
    have h36 : hT h1 36 = 1 := by simp only [cw.1]
    have hle : ¬ nI n ≤ nI x := nI_ge (by omega) (by omega)
    have hI1 : hI h1 kn = hI h kn := cf.keep cw0 (by omega) (by omega) t1
    have hbit : (nI R >>> (nI x &&& 31)) &&& 1 = nI (if R.testBit x then 1 else 0) := nI_shr_bit hR9 (by omega)
    have hx9 : x < n := by omega
    rw [hRb x hx9] at hbit
    rw [w55_26]
    by_cases q0 : P x = 0
    · have hb1 : ¬ (nI R >>> (nI x &&& 31)) &&& 1 = 0 := by
        rw [hbit]
        simp only [q0, decide_true, if_true]
        decide
      simp only [w55_a, w55_b, hkt, hp1.2.1, hle, hI1, hR1, s140, hb1, Option.toList_some, List.cons_append, List.nil_append, true_implies, not_true_eq_false, not_false_eq_true, false_implies, and_true, true_and, nI_1]
      exact ih (x + 1) h1 c r y (by omega) (by omega) ⟨c, r, hr, by rw [if_pos q0]; exact ⟨rfl, rfl⟩⟩ hc hcn cw cf
    · have hb1 : (nI R >>> (nI x &&& 31)) &&& 1 = 0 := by
        rw [hbit]
        simp only [q0, decide_false]
        decide
      simp only [w55_a, w55_b, hkt, hp1.2.1, hle, hI1, hR1, s140, hb1, h47, h47r, h36, Option.toList_some, List.cons_append, List.nil_append, true_implies, not_true_eq_false, not_false_eq_true, false_implies, and_true, true_and]
      refine s2b cw (by omega) hp1 po hw hx9 fun h2' cw2 o2 hA2 => ?_
      have t47 : hT h2' 47 = 7 := by simp only [cw2.1]
      have hp2 : NetP h2' kn n P := hp1.only o2 (by unfold actA; omega) (by unfold actA; omega)
      have e2 : hI h2' kn = hI h1 kn := o2.2.2.2.2.2.2 kn (by unfold actA; omega)
      have cf2 : CFr (trI h) (fun _ => False) h h2' := cf.trans' (CFr.ofI o2 fun a q => Or.inl q)
      simp only [w55_a, w55_b, t47, Option.toList_none, List.nil_append]
      refine s57 cw2 hp2 fun h3 cw3 cf3 ej rk => ?_
      have t47' : hT h3 47 = 7 := by simp only [cw3.1]
      have r1 : ¬ rcI h2' kn := by have := (cw2.far (kn_far (j := 0) hkn (by omega))).2.2.2.2.1; unfold rcI; omega
      have r2 : ¬ rcI h2' (kn + 3) := by have := (cw2.far (kn_far (j := 3) hkn (by omega))).2.2.2.2.1; unfold rcI; omega
      have hp3 : NetP h3 kn n P := hp2.cfr cf3 cw2 cw3 hkn r1 r2
      have hkt3 : hT h3 kn = 4 := hp3.1.1
      have e3 : hI h3 kn 2 = nI wi := by rw [cf3.keep cw2 (by omega) (by omega) r1, e2, hI1]; exact h2
      have cf4 : CFr (trI h) (fun _ => False) h h3 := cf2.trans cf3 (fun a ha q => by have z := cf2.2.2.2.2.2.1; unfold sN at z; unfold rcI at q; unfold trI; omega) (fun _ _ q => q)
      have hA3 : ActsHold h3 (2 ^ n) (actsOf n (buy P x) w) := hA2.ofI fun a a1 a2 => cf3.keep cw2 (by omega) (by omega) (by have := cw2.nact.2.2.2.2.1; unfold rcI; omega)
      simp only [w55_a, w55_b, t47', hkt3, e3, nI_prd hc (show c < 100 by omega), Option.toList_none, List.nil_append]
      have pb := po.buy x
      refine s58 cw3 hA3 (Nat.zero_le _) (rk _) (pb.acts w) ⟨hN0, hN9⟩ hm (by omega) hw (by omega) fun h4 r4 b4 fe cw4 hA4 hb4 rk4 cf5 er4 ei4 => ?_
      have cf6 : CFr (trI h) (fun _ => False) h h4 := cf4.trans cf5 (fun a ha q => by have z := cf4.2.2.2.2.2.1; unfold sN at z; unfold rcI at q; unfold trI; omega) (fun _ _ q => q)
      have hmm : actsOf n (buy P x) w = actsOf n (buy P x) (w % 4) := actsOf_mod.symm
      rw [hmm] at fe
      have hex := endAtN (w := w % 4) (w' := w) pb hwi
      rcases fe with ⟨rfl, fe⟩ | ⟨c1, rfl, hc1, fe1, fe2⟩
      · simp only [w55_a, w55_b, show ((-1 : Int32) ≤ 0) from by decide, Option.toList_some, List.cons_append, List.nil_append, true_implies, not_true_eq_false, not_false_eq_true, false_implies, and_true, true_and, nI_1]
        obtain ⟨c1, m1⟩ : ∃ c1, MinB n (buy P x) w wi c1 := by
          have : ∀ m, EndAt (actsOf n (buy P x) (w % 4)) (2 ^ n) w wi m → ∃ c1, MinB n (buy P x) w wi c1 := by
            intro m
            induction m using Nat.strongRecOn with
            | ind m ihm =>
              intro hm9
              by_cases z : ∃ c', c' < m ∧ EndAt (actsOf n (buy P x) (w % 4)) (2 ^ n) w wi c'
              · obtain ⟨c', z1, z2⟩ := z
                exact ihm c' z1 z2
              · exact ⟨m, hm9, fun c' z1 z2 => z ⟨c', z1, z2⟩⟩
          exact this n hex
        refine ih (x + 1) h4 c r _ (by omega) (by omega) ⟨c, r, hr, ?_⟩ hc hcn cw4 cf6
        rw [if_neg q0]
        refine ⟨c1, m1, ?_⟩
        rw [if_neg (fun z => fe c1 (by omega) m1.1)]
        exact ⟨rfl, rfl⟩
      · have hc0 : 0 < c1 := by
          have := fe1.pc
          have := pc_pos (show wi ≠ 0 by omega) (show wi < 65536 by omega)
          omega
        have hlt : ¬ nI c1 ≤ 0 := nI_ge (a := 0) hc0 (by omega)
        simp only [w55_a, w55_b, hlt, Option.toList_some, List.cons_append, List.nil_append, true_implies, not_true_eq_false, not_false_eq_true, false_implies, and_true, true_and, nI_1]
        refine ih (x + 1) h4 c1 (nI x) _ (by omega) (by omega) ⟨c, r, hr, ?_⟩ hc0 (by omega) cw4 cf6
        rw [if_neg q0]
        refine ⟨c1, ⟨fe1, fe2⟩, ?_⟩
        rw [if_pos (by omega)]
        exact ⟨rfl, rfl⟩
theorem s55 (cw : CW B M h) (hkn : kn = 4 ∨ kn = 15) (hp : NetP h kn n P) (po : PartsOK n P) (hw : w < 8) (rc : RC h n P) (hw0 : 0 < wi) (hwi : wi < 2 ^ n) (hR1 : hI h kn 1 = nI R) (hR9 : R < 2 ^ 31) (hRb : ∀ k, k < n → R.testBit k = decide (P k = 0)) (h2 : hI h kn 2 = nI wi)
    (k : ∀ h' r c, RdK n P w wi n c r → CW B M h' → hI h' 47 6 = -1 → CFr (trI h) (fun _ => False) h h' → Q (some (.int r)) h') : WPM 55 [.ref 47, .ref kn, .int (nI w)] h Q := by
  have hn14 := po.1
  have hm : 2 ^ n ∈ sizes := pow_sizes (by omega)
  have hN0 : 0 < 2 ^ n := Nat.pow_pos (by decide)
  have hN9 : 2 ^ n ≤ 16384 := p2_le (n := 14) hn14
  have h47 : hT h 47 = 7 := by simp only [cw.1]
  have t1 : ¬ trI h kn := by have := (cw.far (kn_far (j := 0) hkn (by omega))).2.2.2.2.1; unfold trI actA; omega
  have t2 : ¬ trI h (kn + 3) := by have := (cw.far (kn_far (j := 3) hkn (by omega))).2.2.2.2.1; unfold trI actA; omega
  rw [we55]
  simp only [w55_a, w55_b, h47]
  refine s56 cw (by omega) hp po hw rc fun h1 b cw1 cf1 hA1 e6 hb rk er => ?_
  have h47' : hT h1 47 = 7 := by simp only [cw1.1]
  have hp1 := hp.cfr cf1 cw cw1 hkn t1 t2
  have hkt : hT h1 kn = 4 := hp1.1.1
  have e2 : hI h1 kn 2 = nI wi := by rw [cf1.keep cw (by omega) (by omega) t1]; exact h2
  simp only [w55_a, w55_b, h47', hkt, hp1.2.1, e2, Option.toList_none, List.nil_append]
  refine s58 cw1 hA1 hb rk (po.acts _) ⟨hN0, hN9⟩ hm hn14 hw (by omega) fun h2' r b2 fe cw2 hA2 hb2 rk2 cf2 er2 ei2 => ?_
  simp only [w55_a, w55_b, Option.toList_some, List.cons_append, List.nil_append]
  have cf3 : CFr (trI h) (fun _ => False) h h2' := cf1.trans cf2 (fun a ha q => by unfold rcI at q; unfold trI; omega) (fun _ _ q => q)
  rcases fe with ⟨rfl, fe⟩ | ⟨c, rfl, hc, fe1, fe2⟩
  · exact absurd (endAtN po hwi) (fe n (Nat.le_refl _))
  · have hc0 : 0 < c := by
      have := fe1.pc
      have := pc_pos (show wi ≠ 0 by omega) (show wi < 65536 by omega)
      omega
    exact bought_l cw hkn hp po hw hw0 hwi hR1 hR9 hRb h2 k n 0 h2' c (-1) _ (by omega) (by omega) ⟨rfl, fe1, fe2⟩ hc0 hc cw2 cf3
end Bought

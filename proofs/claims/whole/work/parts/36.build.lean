/-! ===== Acts.build ===== -/
theorem F_net_of {n : Nat} {h h1 : AH} (e1 : hT h1 = hT h) (e2 : hL h1 = hL h) (e3 : hR h1 = hR h) (hf : F_net n h) : F_net n h1 := by
  unfold F_net
  rw [e1, e2, e3]
  exact hf
theorem F_acts_of {h h1 : AH} (e1 : hT h1 = hT h) (e2 : hL h1 = hL h) (e3 : hR h1 = hR h) (hf : F_acts h) : F_acts h1 := by
  unfold F_acts
  rw [e1, e2, e3]
  exact hf
/-- the NET at kn: n THINGS, made of P -/
def NetP (h : AH) (kn n : Nat) (P : Nat → Nat) : Prop := F_net kn h ∧ hI h kn 0 = nI n ∧ n ≤ 14 ∧ ∀ x, x < n → hI h (kn + 3) x = nI (P x)
theorem NetP.only {A : Nat → Prop} {h h1 : AH} {kn n : Nat} {P : Nat → Nat} (hp : NetP h kn n P) (o : OnlyI A h h1) (h1' : ¬ A kn) (h2' : ¬ A (kn + 3)) : NetP h1 kn n P := by
  obtain ⟨q1, q2, q3, q4⟩ := hp
  obtain ⟨e1, e2, e3, e4, e5, e6, e7⟩ := o
  exact ⟨F_net_of e1 e2 e4 q1, by rw [e7 kn h1']; exact q2, q3, fun x hx => by rw [e7 _ h2']; exact q4 x hx⟩
/-- one thing bought -/
def buy (P : Nat → Nat) (bo x : Nat) : Nat := if x = bo then 0 else P x
section Build
variable {h : AH} {kn n w bo N : Nat} {P : Nat → Nat} {bt : Int32} {Q : Option Value → AH → Prop}
theorem build_1 (hkn : kn + 10 < 36) (hf : F_acts h) (hp : NetP h kn n P) (hbt : ∀ x, x < n → (nI x = bt ↔ x = bo)) (k : ∀ h2, OnlyI actA h h2 → ActsHold h2 N ((List.range n).map (mkA (buy P bo))) → WP 2 54 [.ref 36, .ref kn, .int (nI w), .int bt, .int 0, .retAddr 0, .retAddr 0] [] h2 Q) :
    ∀ d x h1, n - x = d → x ≤ n → OnlyI actA h h1 → ActsHold h1 N ((List.range x).map (mkA (buy P bo))) → WP 2 16 [.ref 36, .ref kn, .int (nI w), .int bt, .int (nI x), .retAddr 0, .retAddr 0] [] h1 Q := by
  intro d
  induction d with
  | zero =>
    intro x h1 hd hx o hh
    have hxn : x = n := by omega
    subst hxn
    have hp1 := hp.only o (by unfold actA; omega) (by unfold actA; omega)
    rw [w2_16]
    simp only [w2_a, hp1.1, hp1.2.1]
    exact ⟨fun _ => k h1 o hh, fun q => absurd (nI_le (Nat.le_refl _) (by have := hp.2.2.1; omega)) q⟩
  | succ d ih =>
    intro x h1 hd hx o hh
    have hxn : x < n := by omega
    have hn14 := hp.2.2.1
    have hp1 := hp.only o (by unfold actA; omega) (by unfold actA; omega)
    have hf1 := F_acts_of o.1 o.2.1 o.2.2.2.1 hf
    have hlen : ((List.range x).map (mkA (buy P bo))).length = x := by simp
    have hsz : hI h1 36 0 = nI x := by rw [hh.1, hlen]
    have hpw : (1 : Int32) <<< (nI x &&& 31) = nI (2 ^ x) := nI_pow x (by omega)
    have hnx : ¬ nI n ≤ nI x := nI_ge hxn (by omega)
    have hpx : (if nI x = bt then 0 else hI h1 (kn + 3) x) = nI (buy P bo x) := by
      unfold buy
      by_cases q : x = bo
      · rw [if_pos ((hbt x hxn).mpr q), if_pos q]; rfl
      · rw [if_neg (fun z => q ((hbt x hxn).mp z)), if_neg q]; exact hp1.2.2.2 x hxn
    rw [w2_16]
    simp only [w2_a, hp1.1, hp1.2.1, hnx, s3 hp1.1 (show x < 14 by omega), hpx, hpw, hf1, s5 hf1 hsz (show x < 112 by omega), Option.toList_some, Option.toList_none, List.cons_append, List.nil_append, false_implies, true_and, not_false_eq_true, true_implies, nI_1]
    have hh2 := ent_hold hh (mkA (buy P bo) x)
    rw [hlen] at hh2
    refine ih (x + 1) _ (by omega) (by omega) (o.trans (ent_only _ _ _ _ _ _ _)) ?_
    rw [List.range_succ, List.map_append]
    exact hh2
theorem build_2 (hkn : kn + 10 < 36) (hf : F_acts h) (hp : NetP h kn n P) (hw : w < 8) (hbt : ∀ x, x < n → (nI x = bt ↔ x = bo)) (L0 : List Act) (hL0 : L0.length ≤ 14)
    (k : ∀ h2, OnlyI actA h h2 → ActsHold h2 N (L0 ++ (List.range n).map (waA w (buy P bo))) → WP 2 97 [.ref 36, .ref kn, .int (nI w), .int bt, .int (nI n), .retAddr 0, .retAddr 0] [] h2 Q) :
    ∀ d x h1, n - x = d → x ≤ n → OnlyI actA h h1 → ActsHold h1 N (L0 ++ (List.range x).map (waA w (buy P bo))) → WP 2 54 [.ref 36, .ref kn, .int (nI w), .int bt, .int (nI x), .retAddr 0, .retAddr 0] [] h1 Q := by
  intro d
  induction d with
  | zero =>
    intro x h1 hd hx o hh
    have hxn : x = n := by omega
    subst hxn
    have hp1 := hp.only o (by unfold actA; omega) (by unfold actA; omega)
    have hn14 := hp.2.2.1
    have hnx : nI x ≤ nI x := nI_le (Nat.le_refl _) (by omega)
    have hk := k h1 o hh
    rw [w2_54]
    simp only [w2_a, w2_b, hp1.1, hp1.2.1, hnx, true_implies, not_true_eq_false, false_implies, and_true] at hk ⊢
    exact hk
  | succ d ih =>
    intro x h1 hd hx o hh
    have hxn : x < n := by omega
    have hn14 := hp.2.2.1
    have hp1 := hp.only o (by unfold actA; omega) (by unfold actA; omega)
    have hf1 := F_acts_of o.1 o.2.1 o.2.2.2.1 hf
    have hlen : (L0 ++ (List.range x).map (waA w (buy P bo))).length = L0.length + x := by simp
    have hsz : hI h1 36 0 = nI (L0.length + x) := by rw [hh.1, hlen]
    have hpw : (1 : Int32) <<< (nI x &&& 31) = nI (2 ^ x) := nI_pow x (by omega)
    have hnx : ¬ nI n ≤ nI x := nI_ge hxn (by omega)
    have hw2 : (nI w &&& 2 = 0) ↔ ¬ w / 2 % 2 = 1 := by
      have : ∀ w, w < 8 → ((nI w &&& 2 = 0) ↔ ¬ w / 2 % 2 = 1) := by decide +kernel
      exact this w hw
    have hpx : (if nI w &&& 2 = 0 then 0 else if nI x = bt then 0 else hI h1 (kn + 3) x) = nI (tw w (buy P bo) x) := by
      unfold tw buy
      by_cases q0 : w / 2 % 2 = 1
      · rw [if_neg (fun z => (hw2.mp z) q0), if_pos q0]
        by_cases q : x = bo
        · rw [if_pos ((hbt x hxn).mpr q), if_pos q]; rfl
        · rw [if_neg (fun z => q ((hbt x hxn).mp z)), if_neg q]; exact hp1.2.2.2 x hxn
      · rw [if_pos (hw2.mpr q0), if_neg q0]; rfl
    have h20 : (20 : Int32) + nI x = nI (20 + x) := nI_add 20 x
    rw [w2_54]
    simp only [w2_a, w2_b, hp1.1, hp1.2.1, hnx, s4 hp1.1 (show x < 14 by omega), hpx, hpw, h20, nI_or, hf1, s5 hf1 hsz (show L0.length + x < 112 by omega), Option.toList_some, Option.toList_none, List.cons_append, List.nil_append, false_implies, true_and, not_false_eq_true, true_implies, nI_1]
    have hh2 := ent_hold hh (waA w (buy P bo) x)
    rw [hlen] at hh2
    refine ih (x + 1) _ (by omega) (by omega) (o.trans (ent_only _ _ _ _ _ _ _)) ?_
    rw [List.range_succ, List.map_append, ← List.append_assoc]
    exact hh2
theorem build_y (hkn : kn + 10 < 36) (hf : F_acts h) (hp : NetP h kn n P) (hw : w < 8) (hbt : ∀ x, x < n → (nI x = bt ↔ x = bo)) {x : Nat} (hx : x < n) (L0 : List Act) (hL0 : L0.length + (ysA (buy P bo) x x).length ≤ 112) (hpx : buy P bo x < 65536)
    (k : ∀ h2, OnlyI actA h h2 → ActsHold h2 N (L0 ++ (ysA (buy P bo) x x).map (inA w (buy P bo) x)) → WP 2 184 [.ref 36, .ref kn, .int (nI w), .int bt, .int (nI x), .int (nI (buy P bo x)), .int (nI x)] [] h2 Q) :
    ∀ d y h1, x - y = d → y ≤ x → OnlyI actA h h1 → ActsHold h1 N (L0 ++ (ysA (buy P bo) x y).map (inA w (buy P bo) x)) → WP 2 128 [.ref 36, .ref kn, .int (nI w), .int bt, .int (nI x), .int (nI (buy P bo x)), .int (nI y)] [] h1 Q := by
  intro d
  induction d with
  | zero =>
    intro y h1 hd hy o hh
    have hyx : y = x := by omega
    subst hyx
    have hn14 := hp.2.2.1
    have hnx : nI y ≤ nI y := nI_le (Nat.le_refl _) (by omega)
    have hk := k h1 o hh
    rw [w2_128]
    simp only [w2_a, w2_b, w2_c, hnx, true_implies, not_true_eq_false, false_implies, and_true] at hk ⊢
    exact hk
  | succ d ih =>
    intro y h1 hd hy o hh
    have hyx : y < x := by omega
    have hn14 := hp.2.2.1
    have hp1 := hp.only o (by unfold actA; omega) (by unfold actA; omega)
    have hf1 := F_acts_of o.1 o.2.1 o.2.2.2.1 hf
    have hnx : ¬ nI x ≤ nI y := nI_ge hyx (by omega)
    have hbit : (nI (buy P bo x) >>> (nI y &&& 31)) &&& 1 = nI (if (buy P bo x).testBit y then 1 else 0) := nI_shr_bit (by omega) (by omega)
    have hys : ysA (buy P bo) x (y + 1) = ysA (buy P bo) x y ++ (if (buy P bo x).testBit y then [y] else []) := by
      unfold ysA
      rw [List.range_succ, List.filter_append]
      cases hb : (buy P bo x).testBit y <;> simp [hb]
    by_cases hb : (buy P bo x).testBit y = true
    · have hlen : (L0 ++ (ysA (buy P bo) x y).map (inA w (buy P bo) x)).length = L0.length + (ysA (buy P bo) x y).length := by simp
      have hsz : hI h1 36 0 = nI (L0.length + (ysA (buy P bo) x y).length) := by rw [hh.1, hlen]
      have hlt : L0.length + (ysA (buy P bo) x y).length < 112 := by
        have h9 : (ysA (buy P bo) x (y + 1)).length ≤ (ysA (buy P bo) x x).length := by
          rw [ysA_len, ysA_len]
          exact pcn_mle _ (by omega)
        rw [hys, if_pos hb, List.length_append] at h9
        simp at h9
        omega
      have hpw : (1 : Int32) <<< (nI x &&& 31) = nI (2 ^ x) := nI_pow x (by omega)
      have hpy : (1 : Int32) <<< (nI y &&& 31) = nI (2 ^ y) := nI_pow y (by omega)
      have hw2 : (nI w &&& 2 = 0) ↔ ¬ w / 2 % 2 = 1 := by
        have : ∀ w, w < 8 → ((nI w &&& 2 = 0) ↔ ¬ w / 2 % 2 = 1) := by decide +kernel
        exact this w hw
      have hpt : (if nI w &&& 2 = 0 then 0 else if nI y = bt then 0 else hI h1 (kn + 3) y) = nI (tw w (buy P bo) y) := by
        unfold tw buy
        by_cases q0 : w / 2 % 2 = 1
        · rw [if_neg (fun z => (hw2.mp z) q0), if_pos q0]
          by_cases q : y = bo
          · rw [if_pos ((hbt y (by omega)).mpr q), if_pos q]; rfl
          · rw [if_neg (fun z => q ((hbt y (by omega)).mp z)), if_neg q]; exact hp1.2.2.2 y (by omega)
        · rw [if_pos (hw2.mpr q0), if_neg q0]; rfl
      have hnum : (100 : Int32) + 20 * nI x + nI y = nI (100 + 20 * x + y) := by
        rw [show (20 : Int32) = nI 20 from rfl, show (100 : Int32) = nI 100 from rfl, pk_mul, nI_add, nI_add]
      have h1e : (1 : Int32) = nI 1 := rfl
      rw [w2_128]
      simp only [w2_a, w2_b, w2_c, hp1.1, hnx, s140, hbit, hb, if_true, ← h1e, not_true_eq_false, s1, hnum, s4 hp1.1 (show y < 14 by omega), hpt, hpw, hpy, nI_or, hf1, s5 hf1 hsz hlt, Option.toList_some, Option.toList_none, List.cons_append, List.nil_append, false_implies, true_and, not_false_eq_true, true_implies, nI_1]
      have hh2 := ent_hold hh (inA w (buy P bo) x y)
      rw [hlen] at hh2
      refine ih (y + 1) _ (by omega) (by omega) (o.trans (ent_only _ _ _ _ _ _ _)) ?_
      rw [hys, if_pos hb, List.map_append, ← List.append_assoc]
      exact hh2
    · have hb' : (buy P bo x).testBit y = false := by simpa using hb
      have h01 : ¬ nI 0 = (1 : Int32) := by decide
      rw [w2_128]
      simp only [w2_a, w2_b, w2_c, hnx, s140, hbit, hb', h01, Bool.false_eq_true, if_false, Option.toList_some, List.cons_append, List.nil_append, false_implies, true_and, and_true, not_false_eq_true, true_implies, nI_1]
      refine ih (y + 1) _ (by omega) (by omega) o ?_
      rw [hys, hb']
      simpa using hh
theorem build_3 (hkn : kn + 10 < 36) (hf : F_acts h) (hp : NetP h kn n P) (hw : w < 8) (hbt : ∀ x, x < n → (nI x = bt ↔ x = bo)) (hP : ∀ x, x < n → buy P bo x < 65536) (h6 : ∀ x, x < n → pc (buy P bo x) ≤ 6) (L0 : List Act) (hL0 : L0.length ≤ 28)
    (k : ∀ h2, OnlyI actA h h2 → ActsHold h2 N (L0 ++ (List.range n).flatMap (rowA w (buy P bo))) → Q none h2) :
    ∀ d x h1 v5 v6, n - x = d → x ≤ n → OnlyI actA h h1 → ActsHold h1 N (L0 ++ (List.range x).flatMap (rowA w (buy P bo))) → WP 2 107 [.ref 36, .ref kn, .int (nI w), .int bt, .int (nI x), v5, v6] [] h1 Q := by
  intro d
  induction d with
  | zero =>
    intro x h1 v5 v6 hd hx o hh
    have hxn : x = n := by omega
    subst hxn
    have hp1 := hp.only o (by unfold actA; omega) (by unfold actA; omega)
    have hn14 := hp.2.2.1
    have hnx : nI x ≤ nI x := nI_le (Nat.le_refl _) (by omega)
    have hk := k h1 o hh
    rw [w2_107]
    simp only [w2_a, w2_b, w2_c, hp1.1, hp1.2.1, hnx, true_implies, not_true_eq_false, false_implies, and_true] at hk ⊢
    exact hk
  | succ d ih =>
    intro x h1 v5 v6 hd hx o hh
    have hxn : x < n := by omega
    have hn14 := hp.2.2.1
    have hp1 := hp.only o (by unfold actA; omega) (by unfold actA; omega)
    have hf1 := F_acts_of o.1 o.2.1 o.2.2.2.1 hf
    have hnx : ¬ nI n ≤ nI x := nI_ge hxn (by omega)
    have hpx : (if nI x = bt then 0 else hI h1 (kn + 3) x) = nI (buy P bo x) := by
      unfold buy
      by_cases q : x = bo
      · rw [if_pos ((hbt x hxn).mpr q), if_pos q]; rfl
      · rw [if_neg (fun z => q ((hbt x hxn).mp z)), if_neg q]; exact hp1.2.2.2 x hxn
    have hrl := rows_len (w := w) h6 (by omega) x (by omega)
    have hyl : (ysA (buy P bo) x x).length ≤ 6 := by
      rw [ysA_len]
      exact Nat.le_trans (pcn_mle _ (show x ≤ 16 by omega)) (h6 x hxn)
    rw [w2_107]
    simp only [w2_a, w2_b, w2_c, hp1.1, hp1.2.1, hnx, s3 hp1.1 (show x < 14 by omega), hpx, Option.toList_some, List.cons_append, List.nil_append, false_implies, true_and, not_false_eq_true, true_implies]
    refine build_y hkn hf1 hp1 hw hbt hxn (L0 ++ (List.range x).flatMap (rowA w (buy P bo))) (by rw [List.length_append]; omega) (hP x hxn) ?_ x 0 h1 (by omega) (by omega) OnlyI.rf (by simpa [ysA] using hh)
    intro h2 o2 hh2
    simp only [w2_a, w2_b, w2_c, nI_1]
    refine ih (x + 1) h2 _ _ (by omega) (by omega) (o.trans o2) ?_
    rw [List.range_succ, List.flatMap_append, ← List.append_assoc]
    simpa [rowA] using hh2
end Build
/-- build: the table of all acts -/
theorem s2 {h : AH} {kn n w bo : Nat} {P : Nat → Nat} {bt : Int32} (hkn : kn + 10 < 36) (hf : F_acts h) (hp : NetP h kn n P) (hw : w < 8) (hbt : ∀ x, x < n → (nI x = bt ↔ x = bo)) (hP : ∀ x, x < n → buy P bo x < 65536) (h6 : ∀ x, x < n → pc (buy P bo x) ≤ 6) :
    WPM 2 [.ref 36, .ref kn, .int (nI w), .int bt] h (fun r h' => r = none ∧ OnlyI actA h h' ∧ ActsHold h' (2 ^ n) (actsOf n (buy P bo) w)) := by
  have hn14 := hp.2.2.1
  have hpw : (1 : Int32) <<< (nI n &&& 31) = nI (2 ^ n) := nI_pow n (by omega)
  have hw1 : (nI w &&& 1 = 0) ↔ ¬ w % 2 = 1 := by
    have : ∀ w, w < 8 → ((nI w &&& 1 = 0) ↔ ¬ w % 2 = 1) := by decide +kernel
    exact this w hw
  have hl1 : ((List.range n).map (mkA (buy P bo))).length ≤ 14 := by simp; omega
  have hl2 : ((List.range n).map (mkA (buy P bo)) ++ (List.range n).map (waA w (buy P bo))).length ≤ 28 := by simp; omega
  have o1 : OnlyI actA h (sI h 36 0 0) := OnlyI.rf.sI _ (by unfold actA; omega)
  have hp0 := hp.only o1 (by unfold actA; omega) (by unfold actA; omega)
  rw [we2]
  simp only [w2_a, w2_b, w2_c, hf, s25 hp0.1, hp.1, hp0.2.1, hpw, hs_sI, Option.toList_some, List.cons_append, List.nil_append]
  obtain ⟨h0, eh0⟩ : ∃ h0, h0 = sI (sI h 36 0 0) 36 1 (nI (2 ^ n)) := ⟨_, rfl⟩
  rw [← eh0]
  have o0 : OnlyI actA h h0 := by rw [eh0]; exact (OnlyI.rf.sI _ (by unfold actA; omega)).sI _ (by unfold actA; omega)
  have hf0 := F_acts_of o0.1 o0.2.1 o0.2.2.2.1 hf
  have hp0' := hp.only o0 (by unfold actA; omega) (by unfold actA; omega)
  have hh0 : ActsHold h0 (2 ^ n) ([] : List Act) := ⟨by rw [eh0]; simp [hI_sI]; rfl, fun j a hj => by simp at hj, by rw [eh0]; simp [hI_sI]⟩
  refine build_1 (N := 2 ^ n) (bo := bo) hkn hf0 hp0' hbt (fun h2 o2 hh2 => ?_) n 0 h0 (by omega) (by omega) OnlyI.rf (by simpa using hh0)
  refine build_2 (N := 2 ^ n) (bo := bo) hkn hf0 hp0' hw hbt ((List.range n).map (mkA (buy P bo))) hl1 (fun h3 o3 hh3 => ?_) n 0 h2 (by omega) (by omega) o2 (by simpa using hh2)
  by_cases hw0 : w % 2 = 1
  · have hz : ¬ nI w &&& 1 = 0 := fun z => (hw1.mp z) hw0
    simp only [w2_a, w2_b, w2_c, hz, not_false_eq_true, true_implies, false_implies, and_true]
    refine build_3 (N := 2 ^ n) (bo := bo) hkn hf0 hp0' hw hbt hP h6 _ hl2 (fun h4 o4 hh4 => ⟨rfl, o0.trans o4, ?_⟩) n 0 h3 _ _ (by omega) (by omega) o3 (by simpa using hh3)
    unfold actsOf
    rw [if_pos hw0]
    exact hh4
  · have hz : nI w &&& 1 = 0 := hw1.mpr hw0
    simp only [w2_a, w2_b, w2_c, hz, not_true_eq_false, true_implies, false_implies, true_and]
    refine ⟨o0.trans o3, ?_⟩
    unfold actsOf
    rw [if_neg hw0, List.append_nil]
    exact hh3

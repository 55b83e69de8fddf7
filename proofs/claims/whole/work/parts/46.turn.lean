/-! ===== the table's facts; Reach.turnTo ===== -/
def PartsOK (n : Nat) (P : Nat → Nat) : Prop := n ≤ 14 ∧ ∀ x, x < n → P x < 2 ^ x ∧ pc (P x) ≤ 6
theorem mem_actsOf {n w : Nat} {P : Nat → Nat} {a : Act} : a ∈ actsOf n P w ↔ (∃ x, x < n ∧ a = mkA P x) ∨ (∃ x, x < n ∧ a = waA w P x) ∨ (w % 2 = 1 ∧ ∃ x y, x < n ∧ y < x ∧ (P x).testBit y = true ∧ a = inA w P x y) := by
  unfold actsOf rowA ysA
  rw [List.mem_append, List.mem_append, or_assoc]
  refine or_congr ?_ (or_congr ?_ ?_)
  · simp only [List.mem_map, List.mem_range]
    exact ⟨fun ⟨x, h1, h2⟩ => ⟨x, h1, h2.symm⟩, fun ⟨x, h1, h2⟩ => ⟨x, h1, h2.symm⟩⟩
  · simp only [List.mem_map, List.mem_range]
    exact ⟨fun ⟨x, h1, h2⟩ => ⟨x, h1, h2.symm⟩, fun ⟨x, h1, h2⟩ => ⟨x, h1, h2.symm⟩⟩
  · by_cases hw : w % 2 = 1
    · rw [if_pos hw]
      simp only [List.mem_flatMap, List.mem_map, List.mem_range, List.mem_filter]
      constructor
      · rintro ⟨x, hx, y, ⟨hy, hb⟩, rfl⟩
        exact ⟨hw, x, y, hx, hy, hb, rfl⟩
      · rintro ⟨-, x, y, hx, hy, hb, rfl⟩
        exact ⟨x, hx, y, ⟨hy, hb⟩, rfl⟩
    · rw [if_neg hw]
      exact ⟨fun h => absurd h List.not_mem_nil, fun h => absurd h.1 hw⟩
theorem actsOf_congr {n w : Nat} {P P' : Nat → Nat} (h : ∀ x, x < n → P x = P' x) : actsOf n P w = actsOf n P' w := by
  unfold actsOf
  have h1 : (List.range n).map (mkA P) = (List.range n).map (mkA P') := List.map_congr_left fun x hx => by
    unfold mkA; rw [h x (List.mem_range.mp hx)]
  have h2 : (List.range n).map (waA w P) = (List.range n).map (waA w P') := List.map_congr_left fun x hx => by
    unfold waA tw; rw [h x (List.mem_range.mp hx)]
  have h3 : (List.range n).flatMap (rowA w P) = (List.range n).flatMap (rowA w P') := by
    rw [List.flatMap_def, List.flatMap_def]
    congr 1
    refine List.map_congr_left fun x hx => ?_
    have hx' := List.mem_range.mp hx
    unfold rowA ysA
    rw [h x hx']
    refine List.map_congr_left fun y hy => ?_
    have hy' : y < x := List.mem_range.mp (List.mem_filter.mp hy).1
    unfold inA tw
    rw [h x hx', h y (by omega)]
  rw [h1, h2, h3]
theorem or_lt2 {a b n : Nat} (h1 : a < 2 ^ n) (h2 : b < 2 ^ n) : a ||| b < 2 ^ n := Nat.or_lt_two_pow h1 h2
theorem p2_lt {x n : Nat} (h : x < n) : 2 ^ x < 2 ^ n := Nat.pow_lt_pow_right (by decide) h
theorem p2_le {x n : Nat} (h : x ≤ n) : 2 ^ x ≤ 2 ^ n := Nat.pow_le_pow_right (by decide) h
theorem PartsOK.lt {n x : Nat} {P : Nat → Nat} (h : PartsOK n P) (hx : x < n) : P x < 2 ^ n := Nat.lt_of_lt_of_le (h.2 x hx).1 (p2_le (by omega))
theorem PartsOK.tw {n x w : Nat} {P : Nat → Nat} (h : PartsOK n P) (hx : x < n) : tw w P x < 2 ^ n := by
  have h0 : 0 < 2 ^ n := Nat.pow_pos (by decide)
  show (if w / 2 % 2 = 1 then P x else 0) < 2 ^ n
  split
  · exact h.lt hx
  · exact h0
theorem PartsOK.sm {n w : Nat} {P : Nat → Nat} (h : PartsOK n P) : ∀ a ∈ actsOf n P w, aNd a < 2 ^ n ∧ aGn a < 2 ^ n ∧ aLs a < 2 ^ n ∧ actOne a := by
  intro a ha
  have h0 : 0 < 2 ^ n := Nat.pow_pos (by decide)
  have hn := h.1
  rcases mem_actsOf.mp ha with ⟨x, hx, rfl⟩ | ⟨x, hx, rfl⟩ | ⟨-, x, y, hx, hy, -, rfl⟩
  · exact ⟨h.lt hx, p2_lt hx, h0, Or.inr ⟨x, by omega, rfl⟩⟩
  · exact ⟨or_lt2 (p2_lt hx) (h.tw hx), h0, p2_lt hx, Or.inl rfl⟩
  · exact ⟨or_lt2 (h.lt hx) (h.tw (by omega)), p2_lt hx, p2_lt (by omega), Or.inr ⟨x, by omega, rfl⟩⟩
theorem PartsOK.acts {n : Nat} {P : Nat → Nat} (h : PartsOK n P) (w : Nat) : ActsOK (actsOf n P w) := by
  have hn := h.1
  have hp : 2 ^ n ≤ 16384 := p2_le (n := 14) hn
  refine ⟨fun a ha => ?_, fun a ha => (h.sm a ha).2.2.2, ?_⟩
  · obtain ⟨q1, q2, q3, -⟩ := h.sm a ha
    exact ⟨by omega, by omega, by omega⟩
  · have h1 := rows_len (w := w) (fun x hx => (h.2 x hx).2) (show n ≤ 16 by omega) n (Nat.le_refl _)
    unfold actsOf
    simp only [List.length_append, List.length_map, List.length_range]
    split
    · omega
    · simp only [List.length_nil]; omega
theorem buy_none {n : Nat} {P : Nat → Nat} (hn : n ≤ 14) {w : Nat} : actsOf n (buy P 99) w = actsOf n P w := actsOf_congr fun x hx => if_neg (by omega)
theorem PartsOK.buy {n : Nat} {P : Nat → Nat} (h : PartsOK n P) (bo : Nat) : PartsOK n (buy P bo) := by
  refine ⟨h.1, fun x hx => ?_⟩
  show (if x = bo then 0 else P x) < 2 ^ x ∧ pc (if x = bo then 0 else P x) ≤ 6
  split
  · exact ⟨Nat.pow_pos (by decide), by rw [pc_0]; omega⟩
  · exact h.2 x hx
theorem nI_ne1 : ∀ x, x < 1000 → nI x ≠ -1 := by decide +kernel
/-- Acts.build with nothing bought -/
theorem s2n {h : AH} {B M kn n w : Nat} {P : Nat → Nat} {Q : Option Value → AH → Prop} (cw : CW B M h) (hkn : kn + 10 < 36) (hp : NetP h kn n P) (po : PartsOK n P) (hw : w < 8)
    (k : ∀ h', CW B M h' → OnlyI actA h h' → ActsHold h' (2 ^ n) (actsOf n P w) → Q none h') : WPM 2 [.ref 36, .ref kn, .int (nI w), .int (-1)] h Q := by
  have hn := po.1
  have pb := po.buy 99
  have hp2 : 2 ^ n ≤ 16384 := p2_le (n := 14) hn
  refine WPM_mono (s2 (bo := 99) (bt := -1) hkn cw.1.acts hp hw (fun x hx => ⟨fun q => ?_, fun q => by omega⟩) (fun x hx => by have := pb.lt hx; omega) (fun x hx => (pb.2 x hx).2)) fun r h' q => ?_
  · exact absurd q (nI_ne1 x (by omega))
  · obtain ⟨rfl, o, hh⟩ := q
    rw [buy_none hn] at hh
    exact k h' (cw.ofI o) o hh
theorem s2b {h : AH} {B M kn n w bo : Nat} {P : Nat → Nat} {Q : Option Value → AH → Prop} (cw : CW B M h) (hkn : kn + 10 < 36) (hp : NetP h kn n P) (po : PartsOK n P) (hw : w < 8) (hbo : bo < n)
    (k : ∀ h', CW B M h' → OnlyI actA h h' → ActsHold h' (2 ^ n) (actsOf n (buy P bo) w) → Q none h') : WPM 2 [.ref 36, .ref kn, .int (nI w), .int (nI bo)] h Q := by
  have hn := po.1
  have pb := po.buy bo
  have hp2 : 2 ^ n ≤ 16384 := p2_le (n := 14) hn
  refine WPM_mono (s2 (bo := bo) (bt := nI bo) hkn cw.1.acts hp hw (fun x hx => nI_eq (by omega) (by omega)) (fun x hx => by have := pb.lt hx; omega) (fun x hx => (pb.2 x hx).2)) fun r h' q => ?_
  obtain ⟨rfl, o, hh⟩ := q
  exact k h' (cw.ofI o) o hh
/-- the levels that are kept, if any -/
def RC (h : AH) (n : Nat) (P : Nat → Nat) : Prop := hI h 47 6 = -1 ∨ ∃ w b, w < 4 ∧ b ≤ 14 ∧ hI h 47 6 = nI w ∧ RKn h (2 ^ n) (actsOf n P w) b
theorem RKn.ofI {h h' : AH} {N b : Nat} {L : List Act} (e5 : hI h' 47 5 = hI h 47 5) (e7 : hI h' 47 7 = hI h 47 7) (eL : hL h' (hR h' 47 2) = hL h (hR h 47 2)) (eI : hI h' (hR h' 47 2) = hI h (hR h 47 2)) (r : RKn h N L b) : RKn h' N L b := by
  obtain ⟨r1, l, r2, r3⟩ := r
  exact ⟨by rw [e7]; exact r1, l, r2.ofI e5 eL eI, r3⟩
def trI (h : AH) (x : Nat) : Prop := actA x ∨ x = 47 ∨ x = hR h 47 2
theorem s56 {h : AH} {B M kn n w : Nat} {P : Nat → Nat} {Q : Option Value → AH → Prop} (cw : CW B M h) (hkn : kn + 10 < 36) (hp : NetP h kn n P) (po : PartsOK n P) (hw : w < 8) (rc : RC h n P)
    (k : ∀ h' b, CW B M h' → CFr (trI h) (fun _ => False) h h' → ActsHold h' (2 ^ n) (actsOf n P (w % 4)) → hI h' 47 6 = nI (w % 4) → b ≤ 14 → RKn h' (2 ^ n) (actsOf n P (w % 4)) b → (hR h' 47 2 = hR h 47 2 ∨ hN h ≤ hR h' 47 2) → Q none h') : WPM 56 [.ref 47, .ref kn, .int (nI w)] h Q := by
  have h3 : nI w &&& 3 = nI (w % 4) := by
    have : ∀ w, w < 8 → nI w &&& 3 = nI (w % 4) := by decide +kernel
    exact this w hw
  have hw4 : w % 4 < 4 := Nat.mod_lt _ (by decide)
  have h47 : hT h 47 = 7 := by simp only [cw.1]
  have h47r : hR h 47 1 = 36 := by simp only [cw.1]
  have h36 : hT h 36 = 1 := by simp only [cw.1]
  rw [we56]
  simp only [w56, h3, h47, h47r, h36]
  refine s2n cw hkn hp po (by omega) fun h1 w1 o1 hA1 => ?_
  have t47 : hT h1 47 = 7 := by simp only [w1.1]
  have d := cw.2.1
  have d1 := w1.2.1
  have lvO := d.2.2.2.2.1.2.2.2.2.1
  have e6 : hI h1 47 = hI h 47 := o1.2.2.2.2.2.2 47 (by unfold actA; omega)
  have er : hR h1 47 2 = hR h 47 2 := by rw [o1.2.2.2.1]
  have cf1 : CFr (trI h) (fun _ => False) h h1 := CFr.ofI o1 (fun a q => Or.inl q)
  by_cases hc : hI h 47 6 = nI (w % 4)
  · simp only [w56, t47, e6, hc, Option.toList_none, List.nil_append, true_implies, not_true_eq_false, false_implies, and_true]
    rcases rc with rc | ⟨w', b, hw', hb, q1, q2⟩
    · rw [rc] at hc
      exact absurd hc.symm (nI_ne1 _ (by omega))
    · rw [hc] at q1
      have hww : w % 4 = w' := nI_inj (by omega) (by omega) q1
      subst hww
      refine k h1 b w1 cf1 hA1 (by rw [e6]; exact hc) hb (q2.ofI (by rw [e6]) (by rw [e6]) (by rw [o1.2.1, o1.2.2.2.1]) ?_) (Or.inl er)
      rw [er]
      exact o1.2.2.2.2.2.2 _ (by unfold actA; omega)
  · simp only [w56, t47, e6, hc, Option.toList_none, List.nil_append, true_implies, not_false_eq_true, false_implies, true_and]
    have hp1 : NetP h1 kn n P := hp.only o1 (by unfold actA; omega) (by unfold actA; omega)
    refine s57 w1 hp1 fun h2 w2 cf2 ej rk => ?_
    have t47' : hT h2 47 = 7 := by simp only [w2.1]
    simp only [w56, t47', Option.toList_none, List.nil_append]
    have o3 : OnlyI (fun a => a = 47) h2 (sI h2 47 6 (nI (w % 4))) := OnlyI.sI (A := fun a => a = 47) OnlyI.rf _ rfl
    have d2 := w2.2.1
    have lv2 := d2.2.2.2.2.1.2.2.2.2.1
    have f1 := cf2.1.2.2.1
    have d100 := d1.1
    have d1o := d1.2.2.2.2.1
    have f36 : ∀ a, 36 ≤ a → a ≤ 41 → hI h2 a = hI h1 a := fun a a1 a2 => (f1 a (by omega)).2.2.1 (by unfold rcI; omega)
    have cf3 : CFr (trI h) (fun _ => False) h h2 := cf1.trans cf2 (fun a ha q => by unfold rcI at q; unfold trI; omega) (fun _ _ q => q)
    refine k _ 0 (w2.ofI o3) (cf3.trans' (CFr.ofI o3 fun a q => Or.inr (Or.inl q))) ((hA1.ofI f36).ofI fun a a1 a2 => o3.2.2.2.2.2.2 a (by omega)) (by rw [hI_sI, if_pos ⟨rfl, rfl⟩]) (by omega) (RKn.ofI (h := h2) (by rw [hI_sI, if_neg (by decide)]) (by rw [hI_sI, if_neg (by decide)]) rfl (o3.2.2.2.2.2.2 (hR h2 47 2) (by omega)) (rk (actsOf n P (w % 4)))) ?_
    have := cf3.2.2.2.2.2.1
    exact this

/-! ===== Net.finish ===== -/
/-- what is below k is of the first k + 1 -/
theorem bl_lt {P : Nat → Nat} : ∀ k, bl P k < 2 ^ (k + 1) := by
  intro k
  induction k using Nat.strongRecOn with
  | ind k ih =>
    rw [bl_eq]
    have key : ∀ m, m ≤ k → pf P k (fun acc p => acc ||| bl P p) (2 ^ k) m < 2 ^ (k + 1) := by
      intro m
      induction m with
      | zero => exact fun _ => p2_lt (Nat.lt_succ_self k)
      | succ m ihm =>
        intro hm
        rw [pf_succ]
        split
        · exact or_lt2 (ihm (by omega)) (Nat.lt_of_lt_of_le (ih m (by omega)) (p2_le (by omega)))
        · exact ihm (by omega)
    exact key k (Nat.le_refl _)
theorem dp_le {P : Nat → Nat} : ∀ k, dp P k ≤ k := by
  intro k
  induction k using Nat.strongRecOn with
  | ind k ih =>
    rw [dp_eq]
    have key : ∀ m, m ≤ k → pf P k (fun acc p => max acc (dp P p + 1)) 0 m ≤ m := by
      intro m
      induction m with
      | zero => exact fun _ => Nat.le_refl _
      | succ m ihm =>
        intro hm
        rw [pf_succ]
        have h1 := ihm (by omega)
        have h2 := ih m (by omega)
        split
        · omega
        · omega
    exact key k (Nat.le_refl _)
theorem ndN_lt {P : Nat → Nat} {wi : Nat} : ∀ k, ndN P wi k < 2 ^ k ∨ ndN P wi k = 0
  | 0 => Or.inr rfl
  | k + 1 => by
    left
    have h1 := ndN_lt (P := P) (wi := wi) k
    have hp : 0 < 2 ^ k := Nat.pow_pos (by decide)
    have h2 : (2 : Nat) ^ k < 2 ^ (k + 1) := p2_lt (Nat.lt_succ_self k)
    show (if wi.testBit k = true then ndN P wi k ||| bl P k else ndN P wi k) < 2 ^ (k + 1)
    split
    · exact or_lt2 (by omega) (bl_lt k)
    · omega
/-- all that a finished NET holds -/
def NetF (F : Nat → Nat → Int32) (n : Nat) (P : Nat → Nat) (wi : Nat) : Prop := F 0 3 = nI (ndN P wi n) ∧ ∀ x, x < n → F 4 x = nI (bl P x) ∧ F 8 x = nI (cp P x) ∧ F 9 x = nI (dp P x) ∧ F 6 x = nI (brc true P x) ∧ F 7 x = nI (brc false P x) ∧ F 5 x = nI (usN P (ndN P wi n) x n)
section Fin
variable {h : AH} {kn n wi : Nat} {P : Nat → Nat} {F : Nat → Nat → Int32} {Q : Option Value → AH → Prop}
/-- what finish leaves alone -/
def keepF (F F' : Nat → Nat → Int32) : Prop := F' 1 = F 1 ∧ F' 2 = F 2 ∧ F' 3 = F 3 ∧ ∀ j, j ≠ 3 → F' 0 j = F 0 j
theorem s28 (hf : F_net kn h) (po : PartsOK n P) (h0 : F 0 0 = nI n) (h2 : F 0 2 = nI wi) (hwi : wi < 2 ^ 31) (hP : ∀ x, x < n → F 3 x = nI (P x))
    (kk : ∀ F', keepF F F' → NetF F' n P wi → Q (some (.int 1)) (NHp h kn F')) : WPM 28 [.ref kn] (NHp h kn F) Q := by
  have hr := NHp_r h kn
  have hn := po.1
  have hPs : ∀ x, x < n → P x < 2 ^ 31 := fun x hx => by
    have := po.lt hx
    have : (2 : Nat) ^ n ≤ 2 ^ 14 := p2_le hn
    omega
  have lp : ∀ d k F1, n - k = d → k ≤ n → keepF F F1 → F1 0 3 = nI (ndN P wi k) → (∀ x, x < k → F1 4 x = nI (bl P x) ∧ F1 8 x = nI (cp P x) ∧ F1 9 x = nI (dp P x) ∧ F1 6 x = nI (brc true P x) ∧ F1 7 x = nI (brc false P x)) → WP 28 7 [.ref kn, .int (nI k)] [] (NHp h kn F1) Q := by
    intro d
    induction d with
    | zero =>
      intro k F1 hd hk kf hnd hx
      obtain ⟨k1, k2, k3, k4⟩ := kf
      have hle : nI n ≤ nI k := nI_le (by omega) (by omega)
      have e00 : F1 0 0 = nI n := by rw [k4 0 (by decide)]; exact h0
      have : k = n := by omega
      subst this
      have hnl : ndN P wi k < 2 ^ 31 := by
        have := ndN_lt (P := P) (wi := wi) k
        have : (2 : Nat) ^ k ≤ 2 ^ 14 := p2_le hn
        omega
      rw [w28_7]
      simp only [w28_a, w28_b, hr, hf, e00, hle, true_implies, not_true_eq_false, false_implies, and_true]
      refine s32 (P := P) hf hn e00 hnd hnl (fun x hx' => ⟨by rw [k3]; exact hP x hx', hPs x hx'⟩) fun f hff => ?_
      simp only [w28_a, w28_b, Option.toList_none, List.nil_append, true_or, or_true]
      have ne5 : ∀ j, j ≠ 5 → va_up F1 5 f j = F1 j := fun j hj => by rw [up_at, if_neg hj]
      refine kk _ ⟨by rw [ne5 1 (by decide)]; exact k1, by rw [ne5 2 (by decide)]; exact k2, by rw [ne5 3 (by decide)]; exact k3, fun j hj => by rw [ne5 0 (by decide)]; exact k4 j hj⟩ ⟨by rw [ne5 0 (by decide)]; exact hnd, fun x hx' => ?_⟩
      obtain ⟨x1, x2, x3, x4, x5⟩ := hx x hx'
      refine ⟨by rw [ne5 4 (by decide)]; exact x1, by rw [ne5 8 (by decide)]; exact x2, by rw [ne5 9 (by decide)]; exact x3, by rw [ne5 6 (by decide)]; exact x4, by rw [ne5 7 (by decide)]; exact x5, ?_⟩
      rw [up_at, if_pos rfl]
      exact hff x hx'
    | succ d ih =>
      intro k F1 hd hk kf hnd hx
      obtain ⟨k1, k2, k3, k4⟩ := kf
      have hkn' : k < n := by omega
      have hle : ¬ nI n ≤ nI k := nI_ge (by omega) (by omega)
      have e00 : F1 0 0 = nI n := by rw [k4 0 (by decide)]; exact h0
      have e02 : F1 0 2 = nI wi := by rw [k4 2 (by decide)]; exact h2
      have e3 : F1 3 k = nI (P k) := by rw [k3]; exact hP k hkn'
      have ck : (nI k).toNatClampNeg = k := nI_clamp (by omega)
      have ik : inb (nI k) 14 = true := inb_nI (by omega) (by decide)
      have hpk := (po.2 k hkn').2
      have hp6 : pcn k (P k) ≤ 6 := Nat.le_trans (pcn_mle (P k) (show k ≤ 16 by omega)) hpk
      have hbc : bcI (nI (P k)) = nI (pc (P k)) := bc_pc (by have := po.lt hkn'; have : (2 : Nat) ^ n ≤ 2 ^ 14 := p2_le hn; omega)
      have hbw : nI wi >>> (nI k &&& 31) &&& 1 = nI (if wi.testBit k = true then 1 else 0) := nI_shr_bit hwi (by omega)
      have hbrl : ∀ ap p, p < k → brc ap P p < 1000 := fun ap p hp => by have := brc_le (ap := ap) po p (by omega); omega
      rw [w28_7]
      simp only [w28_a, hr, hf, e00, hle, true_implies, not_false_eq_true, false_implies, true_and]
      refine s29 (P := P) hf (by omega) e3 (hPs k hkn') (fun p hp => by
        obtain ⟨x1, x2, x3, -⟩ := hx p hp
        exact ⟨x1, x2, x3, by have := dp_le (P := P) p; omega⟩) ?_
      have hG : ∀ j i, G3 F1 k (nI (bl P k)) (nI (cp P k)) (nI (dp P k)) j i = if j = 9 ∧ i = k then nI (dp P k) else if j = 8 ∧ i = k then nI (cp P k) else if j = 4 ∧ i = k then nI (bl P k) else F1 j i := fun j i => G3_at j i
      generalize G3 F1 k (nI (bl P k)) (nI (cp P k)) (nI (dp P k)) = F2 at hG ⊢
      have g3 : F2 3 k = nI (P k) := by rw [hG]; simp [e3]
      simp only [w28_a, hr, hf, ck, ik, g3, s218, hbc, nI_1, Option.toList_some, Option.toList_none, List.cons_append, List.nil_append, true_or, or_true]
      refine s30 (P := P) (br := brc true P) (bc := 6) hf (Or.inl rfl) (by omega) g3 (hPs k hkn') hp6 (fun p hp => ⟨by rw [hG]; simp [(hx p hp).2.2.2.1], hbrl true p hp⟩) (by omega) fun f => ?_
      have e6 : mxF (srt P (brc true P) k k).1 (if (srt P (brc true P) k k).2 = 0 then 1 else pc (P k) + 1) (srt P (brc true P) k k).2 = brc true P k := by
        rw [brc_eq]
        unfold brF
        simp only [if_true]
      rw [e6]
      have hH : ∀ j i, j ≠ 10 → upF (va_up F2 10 f) 6 k (nI (brc true P k)) j i = if j = 6 ∧ i = k then nI (brc true P k) else F2 j i := fun j i hj => by rw [upF_at, up_at, if_neg hj]
      simp only [w28_a, hr, hf, ck, ik, Option.toList_some, List.cons_append, List.nil_append, true_or, or_true]
      generalize upF (va_up F2 10 f) 6 k (nI (brc true P k)) = F3 at hH ⊢
      have g33 : F3 3 k = nI (P k) := by rw [hH 3 k (by decide)]; simp [g3]
      refine s30 (P := P) (br := brc false P) (bc := 7) (ls := 1) hf (Or.inr rfl) (by omega) g33 (hPs k hkn') hp6 (fun p hp => ⟨by rw [hH 7 p (by decide)]; simp [hG, (hx p hp).2.2.2.2], hbrl false p hp⟩) (by omega) fun f' => ?_
      have e7 : mxF (srt P (brc false P) k k).1 (if (srt P (brc false P) k k).2 = 0 then 1 else 1) (srt P (brc false P) k k).2 = brc false P k := by
        rw [brc_eq]
        unfold brF
        simp only [Bool.false_eq_true, if_false]
      rw [e7]
      have hH2 : ∀ j i, j ≠ 10 → upF (va_up F3 10 f') 7 k (nI (brc false P k)) j i = if j = 7 ∧ i = k then nI (brc false P k) else F3 j i := fun j i hj => by rw [upF_at, up_at, if_neg hj]
      have final : ∀ F4, (∀ j i, j ≠ 10 → ¬ (j = 0 ∧ i = 3) → F4 j i = if j = 7 ∧ i = k then nI (brc false P k) else F3 j i) → F4 0 3 = nI (ndN P wi (k + 1)) → WP 28 7 [.ref kn, .int (nI (k + 1))] [] (NHp h kn F4) Q := fun F4 h4 hn4 => by
        have eo : ∀ j i, j ≠ 10 → ¬ (j = 0 ∧ i = 3) → (j ≠ 7 ∨ i ≠ k) → (j ≠ 6 ∨ i ≠ k) → (j ≠ 9 ∨ i ≠ k) → (j ≠ 8 ∨ i ≠ k) → (j ≠ 4 ∨ i ≠ k) → F4 j i = F1 j i := fun j i a1 a2 a3 a4 a5 a6 a7 => by
          rw [h4 j i a1 a2, if_neg (by omega), hH j i a1, if_neg (by omega), hG, if_neg (by omega), if_neg (by omega), if_neg (by omega)]
        refine ih (k + 1) F4 (by omega) (by omega) ⟨?_, ?_, ?_, fun j hj => ?_⟩ hn4 fun x hx' => ?_
        · funext i; rw [eo 1 i (by decide) (by omega) (Or.inl (by decide)) (Or.inl (by decide)) (Or.inl (by decide)) (Or.inl (by decide)) (Or.inl (by decide)), k1]
        · funext i; rw [eo 2 i (by decide) (by omega) (Or.inl (by decide)) (Or.inl (by decide)) (Or.inl (by decide)) (Or.inl (by decide)) (Or.inl (by decide)), k2]
        · funext i; rw [eo 3 i (by decide) (by omega) (Or.inl (by decide)) (Or.inl (by decide)) (Or.inl (by decide)) (Or.inl (by decide)) (Or.inl (by decide)), k3]
        · rw [eo 0 j (by decide) (by omega) (Or.inl (by decide)) (Or.inl (by decide)) (Or.inl (by decide)) (Or.inl (by decide)) (Or.inl (by decide)), k4 j hj]
        · rcases Nat.lt_or_ge x k with z | z
          · obtain ⟨x1, x2, x3, x4, x5⟩ := hx x z
            refine ⟨?_, ?_, ?_, ?_, ?_⟩
            · rw [eo 4 x (by decide) (by omega) (Or.inl (by decide)) (Or.inl (by decide)) (Or.inl (by decide)) (Or.inl (by decide)) (Or.inr (by omega))]; exact x1
            · rw [eo 8 x (by decide) (by omega) (Or.inl (by decide)) (Or.inl (by decide)) (Or.inl (by decide)) (Or.inr (by omega)) (Or.inl (by decide))]; exact x2
            · rw [eo 9 x (by decide) (by omega) (Or.inl (by decide)) (Or.inl (by decide)) (Or.inr (by omega)) (Or.inl (by decide)) (Or.inl (by decide))]; exact x3
            · rw [eo 6 x (by decide) (by omega) (Or.inl (by decide)) (Or.inr (by omega)) (Or.inl (by decide)) (Or.inl (by decide)) (Or.inl (by decide))]; exact x4
            · rw [eo 7 x (by decide) (by omega) (Or.inr (by omega)) (Or.inl (by decide)) (Or.inl (by decide)) (Or.inl (by decide)) (Or.inl (by decide))]; exact x5
          · have : x = k := by omega
            subst this
            refine ⟨?_, ?_, ?_, ?_, ?_⟩
            · rw [h4 4 x (by decide) (by omega), if_neg (by omega), hH 4 x (by decide), if_neg (by omega), hG]; simp
            · rw [h4 8 x (by decide) (by omega), if_neg (by omega), hH 8 x (by decide), if_neg (by omega), hG]; simp
            · rw [h4 9 x (by decide) (by omega), if_neg (by omega), hH 9 x (by decide), if_neg (by omega), hG]; simp
            · rw [h4 6 x (by decide) (by omega), if_neg (by omega), hH 6 x (by decide), if_pos ⟨rfl, rfl⟩]
            · rw [h4 7 x (by decide) (by omega), if_pos ⟨rfl, rfl⟩]
      have es : ndN P wi (k + 1) = if wi.testBit k = true then ndN P wi k ||| bl P k else ndN P wi k := rfl
      have v03 : ∀ i, upF (va_up F3 10 f') 7 k (nI (brc false P k)) 0 i = F1 0 i := fun i => by
        rw [hH2 0 i (by decide), if_neg (by omega), hH 0 i (by decide), if_neg (by omega), hG, if_neg (by omega), if_neg (by omega), if_neg (by omega)]
      have v4 : upF (va_up F3 10 f') 7 k (nI (brc false P k)) 4 k = nI (bl P k) := by
        rw [hH2 4 k (by decide), if_neg (by omega), hH 4 k (by decide), if_neg (by omega), hG]
        simp
      simp only [w28_a, hr, hf, ck, ik, Option.toList_some, List.cons_append, List.nil_append, true_or, or_true]
      generalize upF (va_up F3 10 f') 7 k (nI (brc false P k)) = F4 at hH2 v03 v4 ⊢
      have v02 : F4 0 2 = nI wi := by rw [v03]; exact e02
      have v033 : F4 0 3 = nI (ndN P wi k) := by rw [v03]; exact hnd
      cases qb : wi.testBit k with
      | true =>
        rw [qb] at hbw
        rw [if_pos qb] at es
        simp only [w28_a, w28_b, hr, hf, ck, ik, v02, v033, v4, s140, hbw, nI_or, if_true, show (nI 1 = 1) from rfl, Option.toList_some, List.cons_append, List.nil_append, true_or, or_true, true_implies, not_true_eq_false, not_false_eq_true, false_implies, and_true, true_and, nI_1]
        refine final _ (fun j i a1 a2 => by rw [upF_at, if_neg a2]; exact hH2 j i a1) (by rw [upF_at, if_pos ⟨rfl, rfl⟩, es])
      | false =>
        rw [qb] at hbw
        rw [if_neg (by rw [qb]; exact Bool.false_ne_true)] at es
        simp only [w28_a, w28_b, hr, hf, v02, s140, hbw, if_false, Bool.false_eq_true, show ¬ (nI 0 = 1) from by decide, Option.toList_some, List.cons_append, List.nil_append, true_or, or_true, true_implies, not_true_eq_false, not_false_eq_true, false_implies, and_true, true_and, nI_1]
        exact final _ (fun j i a1 a2 => hH2 j i a1) (by rw [es]; exact v033)
  rw [we28]
  simp only [w28_a, hr, hf]
  refine lp n 0 _ rfl (Nat.zero_le _) ⟨?_, ?_, ?_, fun j hj => ?_⟩ ?_ (fun x hx => absurd hx (Nat.not_lt_zero _))
  · funext i; rw [upF_at, if_neg (by omega)]
  · funext i; rw [upF_at, if_neg (by omega)]
  · funext i; rw [upF_at, if_neg (by omega)]
  · rw [upF_at, if_neg (by omega)]
  · rw [upF_at, if_pos ⟨rfl, rfl⟩]
    rfl
end Fin

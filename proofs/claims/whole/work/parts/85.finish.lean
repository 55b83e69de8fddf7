/-! ===== Net: branchOf, findUsers, finish ===== -/
theorem insF_lt {g : Nat → Nat} {m v c : Nat} (hg : ∀ i, i < m → g i < c) (hv : v < c) : ∀ i, i < m + 1 → insF g m v i < c := by
  intro i hi
  unfold insF
  have := ipos_le (g := g) (v := v) m
  split
  · exact hg i (by omega)
  · split
    · exact hv
    · exact hg (i - 1) (by omega)
theorem srt_lt {P br : Nat → Nat} {k c : Nat} : ∀ m, (∀ p, p < m → br p < c) → ∀ i, i < (srt P br k m).2 → (srt P br k m).1 i < c := by
  intro m
  induction m with
  | zero => exact fun _ i hi => absurd hi (Nat.not_lt_zero _)
  | succ m ih =>
    intro h i hi
    have e : srt P br k (m + 1) = if (P k).testBit m = true then (insF (srt P br k m).1 (srt P br k m).2 (br m), (srt P br k m).2 + 1) else srt P br k m := rfl
    rw [e] at hi ⊢
    by_cases q : (P k).testBit m = true
    · rw [if_pos q] at hi ⊢
      exact insF_lt (ih (fun p hp => h p (by omega))) (h m (by omega)) i hi
    · rw [if_neg q] at hi ⊢
      exact ih (fun p hp => h p (by omega)) i hi
theorem mxF_le {g : Nat → Nat} {a0 c : Nat} : ∀ m, a0 ≤ c → (∀ i, i < m → g i + i ≤ c) → mxF g a0 m ≤ c := by
  intro m
  induction m with
  | zero => exact fun h _ => h
  | succ m ih =>
    intro h0 h
    show max (mxF g a0 m) (g m + m) ≤ c
    have := ih h0 (fun i hi => h i (by omega))
    have := h m (by omega)
    omega
theorem brc_le {ap : Bool} {n : Nat} {P : Nat → Nat} (po : PartsOK n P) : ∀ k, k < n → brc ap P k < 8 + 6 * k + 1 := by
  intro k
  induction k using Nat.strongRecOn with
  | ind k ih =>
    intro hk
    rw [brc_eq]
    unfold brF
    have hpk := (po.2 k hk).2
    have hlen := srt_len (P := P) (br := brc ap P) (k := k) k
    have hle : pcn k (P k) ≤ 6 := Nat.le_trans (pcn_mle (P k) (show k ≤ 16 by have := po.1; omega)) hpk
    refine Nat.lt_succ_of_le (mxF_le _ ?_ fun i hi => ?_)
    · split
      · omega
      · split <;> omega
    · have := srt_lt (P := P) (br := brc ap P) (k := k) (c := 8 + 6 * (k - 1) + 1) k (fun p hp => by have := ih p hp (by omega); omega) i hi
      have hk0 : 0 < k := by
        rcases Nat.eq_zero_or_pos k with z | z
        · subst z
          rw [show (srt P (brc ap P) 0 0).2 = 0 from rfl] at hi
          omega
        · exact z
      omega
theorem usN_low {P : Nat → Nat} {nd k : Nat} : ∀ u, u ≤ k + 1 → usN P nd k u = 0
  | 0, _ => rfl
  | u + 1, h => by
    show (if k < u ∧ _ ∧ _ then _ else _) = 0
    rw [if_neg (fun z => by omega)]
    exact usN_low u (by omega)
section Finish
variable {h : AH} {kn n k : Nat} {P br : Nat → Nat} {F : Nat → Nat → Int32} {Q : Option Value → AH → Prop}
theorem s30 {bc ls : Nat} (hf : F_net kn h) (hbc : bc = 6 ∨ bc = 7) (hk : k < 14) (hP : F 3 k = nI (P k)) (hP9 : P k < 2 ^ 31) (h6 : pcn k (P k) ≤ 6) (hb : ∀ p, p < k → F bc p = nI (br p) ∧ br p < 1000) (hls : ls < 1000)
    (kk : ∀ f, Q (some (.int (nI (mxF (srt P br k k).1 (if (srt P br k k).2 = 0 then 1 else ls) (srt P br k k).2)))) (NHp h kn (va_up F 10 f))) : WPM 30 [.ref kn, .int (nI k), .ref (kn + bc), .int (nI ls)] (NHp h kn F) Q := by
  have hr := NHp_r h kn
  have c1 : (nI k).toNatClampNeg = k := nI_clamp (by omega)
  have i1 : inb (nI k) 14 = true := inb_nI hk (by decide)
  have at3 : ∀ f, va_up F 10 f 3 = F 3 := fun f => by rw [up_at, if_neg (by decide)]
  have atb : ∀ f, va_up F 10 f bc = F bc := fun f => by rw [up_at, if_neg (by omega)]
  have at10 : ∀ f, va_up F 10 f 10 = f := fun f => by rw [up_at, if_pos rfl]
  have hbr : ∀ F', hI (NHp h kn F') (kn + bc) = F' bc := fun F' => NHp_I (by omega)
  have hTb : hT h (kn + bc) = 100 ∧ hL h (kn + bc) = 14 := by
    rcases hbc with rfl | rfl
    · simp only [hf, and_self]
    · simp only [hf, and_self]
  have hslen := srt_len (P := P) (br := br) (k := k)
  have lp2 : ∀ f m, m = (srt P br k k).2 → (∀ i, i < m → f i = nI ((srt P br k k).1 i) ∧ (srt P br k k).1 i < 1000) → ∀ d i a0, m - i = d → i ≤ m → a0 = mxF (srt P br k k).1 (if (srt P br k k).2 = 0 then 1 else ls) i → a0 < 2000 → WP 30 68 [.ref kn, .int (nI k), .ref (kn + bc), .int (nI ls), .int (nI m), .int (nI a0), .int (nI i)] [] (NHp h kn (va_up F 10 f)) Q := by
    intro f m hm hfm d
    have hm6 : m ≤ 6 := by rw [hm, hslen]; exact h6
    induction d with
    | zero =>
      intro i a0 hd hi ha _
      have hle : nI m ≤ nI i := nI_le (by omega) (by omega)
      have e : i = (srt P br k k).2 := by omega
      rw [w30_68]
      simp only [w30_a, w30_b, hle, true_or, or_true, true_implies, not_true_eq_false, false_implies, and_true]
      have := kk f
      rw [e] at ha
      rw [← ha] at this
      exact this
    | succ d ih =>
      intro i a0 hd hi ha ha9
      have hle : ¬ nI m ≤ nI i := nI_ge (by omega) (by omega)
      have ci : (nI i).toNatClampNeg = i := nI_clamp (by omega)
      have ii : inb (nI i) 6 = true := inb_nI (by omega) (by decide)
      obtain ⟨e1, e2⟩ := hfm i (by omega)
      have m1 := mxI (a := a0) (b := (srt P br k k).1 i + i) (by omega) (by omega)
      rw [w30_68]
      simp only [w30_a, w30_b, hr, hf, hle, ci, ii, at10, e1, nI_add, m1, true_or, or_true, true_implies, not_true_eq_false, not_false_eq_true, false_implies, and_true, true_and, nI_1]
      exact ih (i + 1) _ (by omega) (by omega) (by rw [ha]; rfl) (by omega)
  have lp1 : ∀ d p f, k - p = d → p ≤ k → (∀ i, i < (srt P br k p).2 → f i = nI ((srt P br k p).1 i) ∧ (srt P br k p).1 i < 1000) → WP 30 6 [.ref kn, .int (nI k), .ref (kn + bc), .int (nI ls), .int (nI (srt P br k p).2), .int (nI p), .retAddr 0] [] (NHp h kn (va_up F 10 f)) Q := by
    intro d
    induction d with
    | zero =>
      intro p f hd hp hfm
      have hle : nI k ≤ nI p := nI_le (by omega) (by omega)
      have : p = k := by omega
      subst this
      have hm6 : (srt P br p p).2 ≤ 6 := by rw [hslen]; exact h6
      rw [w30_6]
      by_cases q : (srt P br p p).2 = 0
      · have z0 : nI (srt P br p p).2 = 0 := by rw [q]; rfl
        simp only [w30_a, w30_b, hle, z0, true_or, or_true, true_implies, not_true_eq_false, not_false_eq_true, false_implies, and_true, true_and]
        have := lp2 f (srt P br p p).2 rfl hfm _ 0 1 rfl (Nat.zero_le _) (by show 1 = if (srt P br p p).2 = 0 then 1 else ls; rw [if_pos q]) (by omega)
        rw [q] at this
        exact this
      · have z0 : ¬ nI (srt P br p p).2 = 0 := nI_ne0 (by omega) (by omega)
        simp only [w30_a, w30_b, hle, z0, true_or, or_true, true_implies, not_true_eq_false, not_false_eq_true, false_implies, and_true, true_and]
        exact lp2 f (srt P br p p).2 rfl hfm _ 0 ls rfl (Nat.zero_le _) (by show ls = if (srt P br p p).2 = 0 then 1 else ls; rw [if_neg q]) (by omega)
    | succ d ih =>
      intro p f hd hp hfm
      have hpk : p < k := by omega
      have hle : ¬ nI k ≤ nI p := nI_ge (by omega) (by omega)
      have cp' : (nI p).toNatClampNeg = p := nI_clamp (by omega)
      have ip : inb (nI p) 14 = true := inb_nI (by omega) (by decide)
      have hbit : nI (P k) >>> (nI p &&& 31) &&& 1 = nI (if (P k).testBit p = true then 1 else 0) := nI_shr_bit hP9 (by omega)
      obtain ⟨b1, b2⟩ := hb p hpk
      have es : srt P br k (p + 1) = if (P k).testBit p = true then (insF (srt P br k p).1 (srt P br k p).2 (br p), (srt P br k p).2 + 1) else srt P br k p := rfl
      have hgo := ih (p + 1)
      rw [es] at hgo
      rw [w30_6]
      cases qb : (P k).testBit p with
      | true =>
        rw [qb] at hbit hgo
        simp only [if_true] at hgo
        have hm5 : (srt P br k p).2 < 6 := by
          rw [hslen]
          have e1 : pcn (p + 1) (P k) = pcn p (P k) + 1 := by
            show pcn p (P k) + (if (P k).testBit p = true then 1 else 0) = _
            rw [if_pos qb]
          have := pcn_mle (P k) (show p + 1 ≤ k by omega)
          omega
        have hlt : ¬ (6 : Int32) ≤ nI (srt P br k p).2 := nI_ge (b := 6) hm5 (by decide)
        simp only [w30_a, w30_b, hr, hf, hbr, hTb, hle, c1, i1, cp', ip, at3, atb, hP, b1, s140, hbit, hlt, if_true, show (nI 1 = 1) from rfl, Option.toList_some, List.cons_append, List.nil_append, true_or, or_true, true_implies, not_true_eq_false, not_false_eq_true, false_implies, and_true, true_and]
        refine s31 (g := (srt P br k p).1) hf hm5 (fun i hi => by rw [at10]; exact ⟨(hfm i hi).1, by have := (hfm i hi).2; omega⟩) (by omega) fun f' hf' => ?_
        have eF : va_up (va_up F 10 f) 10 f' = va_up F 10 f' := by
          funext j
          rw [up_at, up_at, up_at]
          split <;> rfl
        rw [eF]
        simp only [w30_a, w30_b, Option.toList_none, List.nil_append, nI_1]
        exact hgo f' (by omega) (by omega) fun i hi => ⟨hf' i hi, insF_lt (fun i hi => (hfm i hi).2) b2 i hi⟩
      | false =>
        rw [qb] at hbit hgo
        simp only [Bool.false_eq_true, if_false] at hgo
        simp only [w30_a, w30_b, hr, hf, hle, c1, i1, at3, hP, s140, hbit, if_false, Bool.false_eq_true, show ¬ (nI 0 = 1) from by decide, Option.toList_some, List.cons_append, List.nil_append, true_or, or_true, true_implies, not_true_eq_false, not_false_eq_true, false_implies, and_true, true_and, nI_1]
        exact hgo f (by omega) (by omega) hfm
  have hid : va_up F 10 (F 10) = F := by
    funext j
    rw [up_at]
    split
    · next z => rw [z]
    · rfl
  rw [we30]
  simp only [w30_a]
  have := lp1 k 0 (F 10) rfl (Nat.zero_le _) (fun i hi => absurd hi (Nat.not_lt_zero _))
  rw [hid] at this
  exact this
/-- findUsers -/
theorem s32 {nd : Nat} (hf : F_net kn h) (hn : n ≤ 14) (h0 : F 0 0 = nI n) (h3 : F 0 3 = nI nd) (hnd : nd < 2 ^ 31) (hP : ∀ x, x < n → F 3 x = nI (P x) ∧ P x < 2 ^ 31)
    (kk : ∀ f, (∀ x, x < n → f x = nI (usN P nd x n)) → Q none (NHp h kn (va_up F 5 f))) : WPM 32 [.ref kn] (NHp h kn F) Q := by
  have hr := NHp_r h kn
  have up5 : ∀ f i w, upF (va_up F 5 f) 5 i w = va_up F 5 (va_up f i w) := fun f i w => by
    funext j
    unfold upF
    rw [up_at (va_up F 5 f), up_at F 5 f 5, if_pos rfl, up_at F 5 (va_up f i w)]
    by_cases q : j = 5
    · rw [if_pos q, if_pos q]
    · rw [if_neg q, if_neg q, up_at, if_neg q]
  have at5 : ∀ f, va_up F 5 f 5 = f := fun f => by rw [up_at, if_pos rfl]
  have at0 : ∀ f, va_up F 5 f 0 = F 0 := fun f => by rw [up_at, if_neg (by decide)]
  have at3 : ∀ f, va_up F 5 f 3 = F 3 := fun f => by rw [up_at, if_neg (by decide)]
  have lp2 : ∀ (k : Nat) (f : Nat → Int32), k < n → (∀ f', (∀ x, x < k → f' x = f x) → f' k = nI (usN P nd k n) → WP 32 2 [.ref kn, .int (nI (k + 1)), .int (nI n)] [] (NHp h kn (va_up F 5 f')) Q) → ∀ d u f', n - u = d → k < u → u ≤ n → (∀ x, x < k → f' x = f x) → f' k = nI (usN P nd k u) → WP 32 21 [.ref kn, .int (nI k), .int (nI u)] [] (NHp h kn (va_up F 5 f')) Q := by
    intro k f hk hnext d
    induction d with
    | zero =>
      intro u f' hd hku hu h1 h2
      have hle : nI n ≤ nI u := nI_le (by omega) (by omega)
      have : u = n := by omega
      subst this
      rw [w32_21]
      simp only [w32_a, w32_b, hr, hf, at0, h0, hle, true_implies, not_true_eq_false, false_implies, and_true, nI_1]
      exact hnext f' h1 h2
    | succ d ih =>
      intro u f' hd hku hu h1 h2
      have hun : u < n := by omega
      have hle : ¬ nI n ≤ nI u := nI_ge (by omega) (by omega)
      have cu : (nI u).toNatClampNeg = u := nI_clamp (by omega)
      have iu : inb (nI u) 14 = true := inb_nI (by omega) (by decide)
      have ck : (nI k).toNatClampNeg = k := nI_clamp (by omega)
      have ik : inb (nI k) 14 = true := inb_nI (by omega) (by decide)
      obtain ⟨p1, p2⟩ := hP u hun
      have hbit : nI (P u) >>> (nI k &&& 31) &&& 1 = nI (if (P u).testBit k = true then 1 else 0) := nI_shr_bit p2 (by omega)
      have hbn : nI nd >>> (nI u &&& 31) &&& 1 = nI (if nd.testBit u = true then 1 else 0) := nI_shr_bit hnd (by omega)
      have hpw : (1 : Int32) <<< (nI u &&& 31) = nI (2 ^ u) := nI_pow u (by omega)
      have es : usN P nd k (u + 1) = if k < u ∧ (P u).testBit k = true ∧ nd.testBit u = true then usN P nd k u ||| 2 ^ u else usN P nd k u := rfl
      rw [w32_21]
      cases q1 : (P u).testBit k with
      | true =>
        rw [q1] at hbit
        cases q2 : nd.testBit u with
        | true =>
          rw [q2] at hbn
          rw [if_pos ⟨hku, q1, q2⟩] at es
          simp only [w32_a, w32_b, hr, hf, at0, at3, at5, up5, h0, h3, hle, cu, iu, ck, ik, p1, s140, hbit, hbn, hpw, h2, nI_or, if_true, show (nI 1 = 1) from rfl, Option.toList_some, List.cons_append, List.nil_append, true_or, or_true, true_implies, not_true_eq_false, not_false_eq_true, false_implies, and_true, true_and, nI_1]
          refine ih (u + 1) _ (by omega) (by omega) (by omega) (fun x hx => by rw [up_at, if_neg (by omega)]; exact h1 x hx) (by rw [up_at, if_pos rfl, es])
        | false =>
          rw [q2] at hbn
          rw [if_neg (fun z => by rw [q2] at z; cases z.2.2)] at es
          simp only [w32_a, w32_b, hr, hf, at0, at3, h0, h3, hle, cu, iu, p1, s140, hbit, hbn, if_true, if_false, Bool.false_eq_true, show (nI 1 = 1) from rfl, show ¬ (nI 0 = 1) from by decide, Option.toList_some, List.cons_append, List.nil_append, true_or, or_true, true_implies, not_true_eq_false, not_false_eq_true, false_implies, and_true, true_and, nI_1]
          exact ih (u + 1) f' (by omega) (by omega) (by omega) h1 (by rw [es]; exact h2)
      | false =>
        rw [q1] at hbit
        rw [if_neg (fun z => by rw [q1] at z; cases z.2.1)] at es
        simp only [w32_a, w32_b, hr, hf, at0, at3, h0, hle, cu, iu, p1, s140, hbit, if_false, Bool.false_eq_true, show ¬ (nI 0 = 1) from by decide, Option.toList_some, List.cons_append, List.nil_append, true_or, or_true, true_implies, not_true_eq_false, not_false_eq_true, false_implies, and_true, true_and, nI_1]
        exact ih (u + 1) f' (by omega) (by omega) (by omega) h1 (by rw [es]; exact h2)
  have lp1 : ∀ d k f y, n - k = d → k ≤ n → (∀ x, x < k → f x = nI (usN P nd x n)) → WP 32 2 [.ref kn, .int (nI k), y] [] (NHp h kn (va_up F 5 f)) Q := by
    intro d
    induction d with
    | zero =>
      intro k f y hd hk h1
      have hle : nI n ≤ nI k := nI_le (by omega) (by omega)
      rw [w32_2]
      simp only [w32_a, w32_b, hr, hf, at0, h0, hle, true_implies, not_true_eq_false, false_implies, and_true]
      exact kk f fun x hx => h1 x (by omega)
    | succ d ih =>
      intro k f y hd hk h1
      have hle : ¬ nI n ≤ nI k := nI_ge (by omega) (by omega)
      have ck : (nI k).toNatClampNeg = k := nI_clamp (by omega)
      have ik : inb (nI k) 14 = true := inb_nI (by omega) (by decide)
      rw [w32_2]
      simp only [w32_a, w32_b, hr, hf, at0, up5, h0, hle, ck, ik, true_or, or_true, true_implies, not_true_eq_false, not_false_eq_true, false_implies, and_true, true_and, nI_1]
      refine lp2 k f (by omega) (fun f' g1 g2 => ?_) _ (k + 1) _ rfl (by omega) (by omega) (fun x hx => by rw [up_at, if_neg (by omega)]) (by rw [up_at, if_pos rfl, usN_low (k + 1) (Nat.le_refl _)]; rfl)
      refine ih (k + 1) f' _ (by omega) (by omega) fun x hx => ?_
      rcases Nat.lt_or_ge x k with z | z
      · rw [g1 x z]
        exact h1 x z
      · have : x = k := by omega
        rw [this]
        exact g2
  have hid : va_up F 5 (F 5) = F := by
    funext j
    rw [up_at]
    split
    · next z => rw [z]
    · rfl
  rw [we32]
  simp only [w32_a]
  have := lp1 n 0 (F 5) (.retAddr 0) rfl (Nat.zero_le _) (fun x hx => absurd hx (Nat.not_lt_zero _))
  rw [hid] at this
  exact this
end Finish

/-! ===== the reference's tape: feed, end, order ===== -/
def bI (k : Nat) : Int32 := (nI k).toInt8.toInt32
theorem bI_and : ∀ k, k < 256 → bI k &&& 255 = nI k := by decide +kernel
theorem bI_lo : ∀ k, k < 128 → bI k = nI k := by decide +kernel
theorem bI_hi : ∀ k, k < 256 → 128 ≤ k → bI k < 0 := by decide +kernel
theorem i8_bI (x : Int32) : ∃ k, k < 256 ∧ x.toInt8.toInt32 = bI k := by
  refine ⟨x.toInt8.toBitVec.toNat, x.toInt8.toBitVec.isLt, ?_⟩
  unfold bI
  congr 1
  apply Int8.toBitVec_inj.mp
  show x.toInt8.toBitVec = ((nI x.toInt8.toBitVec.toNat).toBitVec).signExtend 8
  have h1 : (nI x.toInt8.toBitVec.toNat).toBitVec = BitVec.ofNat 32 x.toInt8.toBitVec.toNat := rfl
  rw [h1]
  generalize x.toInt8.toBitVec = b
  revert b
  decide +kernel
/-- bytes -/
def TpB (t : Nat → Int32) : Prop := ∀ i, i < 540 → ∃ k, k < 256 ∧ t i = bI k
def by8 (v s : Int32) : Int32 := (v >>> (s &&& 31)).toInt8.toInt32.toInt8.toInt32
def put4 (t : Nat → Int32) (l : Nat) (v : Int32) : Nat → Int32 := va_up (va_up (va_up (va_up t l (by8 v 24)) (l + 1) (by8 v 16)) (l + 2) (by8 v 8)) (l + 3) (by8 v 0)
theorem TpB.up {t : Nat → Int32} (h : TpB t) (l : Nat) (v s : Int32) : TpB (va_up t l (by8 v s)) := by
  intro i hi
  rw [up_at]
  split
  · exact i8_bI _
  · exact h i hi
theorem TpB.put4 {t : Nat → Int32} (h : TpB t) (l : Nat) (v : Int32) : TpB (put4 t l v) := (((h.up l v 24).up (l + 1) v 16).up (l + 2) v 8).up (l + 3) v 0
def put20 (t : Nat → Int32) (l : Nat) (a b c d e : Int32) : Nat → Int32 := put4 (put4 (put4 (put4 (put4 t l a) (l + 4) b) (l + 8) c) (l + 12) d) (l + 16) e
theorem TpB.put20 {t : Nat → Int32} (h : TpB t) (l : Nat) (a b c d e : Int32) : TpB (put20 t l a b c d e) := (((((TpB.put4 h l a).put4 (l + 4) b).put4 (l + 8) c).put4 (l + 12) d).put4 (l + 16) e)
def TaH (h : AH) (t : Nat → Int32) (l : Nat) : AH := setI (setI h 67 (va_up (hI h 67) 2 (nI l))) 68 t
theorem TaH_r (h : AH) : ∀ t l, hT (TaH h t l) = hT h ∧ hL (TaH h t l) = hL h ∧ hR (TaH h t l) = hR h ∧ hI (TaH h t l) 67 2 = nI l ∧ hI (TaH h t l) 68 = t ∧ (∀ k v, sI (TaH h t l) 68 k v = TaH h (va_up t k v) l) ∧ sI (TaH h t l) 67 2 (nI (l + 1)) = TaH h t (l + 1) := by
  intro t l
  refine ⟨rfl, rfl, rfl, rfl, rfl, fun k v => sI_setI _ _ _ _ _, ?_⟩
  unfold TaH
  rw [sI_setI_o (by decide), sI_setI, up_up]
section Ta
variable {h : AH} {n wi w : Nat} {P : Nat → Nat} {Q : Option Value → AH → Prop}
theorem four_1 {t : Nat → Int32} {l : Nat} {v s : Int32} (ms : MS0 h) (hs : ¬ s < 0) (hl : l < 540) : WP 147 3 [.ref 67, .int v, .int s] [] (TaH h t l) Q ↔ WP 147 3 [.ref 67, .int v, .int (s + (-8))] [] (TaH h (va_up t l (by8 v s)) (l + 1)) Q := by
  have hr := TaH_r h
  have c1 : (nI l).toNatClampNeg = l := nI_clamp (by omega)
  have i1 : inb (nI l) 540 = true := inb_nI hl (by decide)
  rw [w147_3]
  simp only [w147, hs, hr, ms, c1, i1, nI_1, zz]
  exact Iff.rfl
theorem s147 {t : Nat → Int32} {l : Nat} (ms : MS0 h) (hl : l + 4 ≤ 540) (v : Int32) : WPM 147 [.ref 67, .int v] (TaH h t l) Q ↔ Q none (TaH h (put4 t l v) (l + 4)) := by
  have e1 : (24 : Int32) + (-8) = 16 := by decide +kernel
  have e2 : (16 : Int32) + (-8) = 8 := by decide +kernel
  have e3 : (8 : Int32) + (-8) = 0 := by decide +kernel
  have e4 : (0 : Int32) + (-8) = -8 := by decide +kernel
  have hn : (-8 : Int32) < 0 := by decide +kernel
  rw [we147]
  simp only [w147]
  rw [four_1 ms (by decide +kernel) (by omega), e1, four_1 ms (by decide +kernel) (by omega), e2, four_1 ms (by decide +kernel) (by omega), e3, four_1 ms (by decide +kernel) (by omega), e4, w147_3]
  simp only [w147, hn, zz]
  exact Iff.rfl
theorem s146 {l : Nat} (ms : MS0 h) (h2 : hI h 67 2 = nI l) (hl : l + 20 ≤ 540) (a b c d e : Int32) : WPM 146 [.ref 67, .int a, .int b, .int c, .int d, .int e] h Q ↔ Q (some (.int (nI (l + 20)))) (TaH (sI h 67 0 0) (put20 (hI h 68) l a b c d e) (l + 20)) := by
  have e0 : sI h 67 0 0 = TaH (sI h 67 0 0) (hI h 68) l := by
    unfold TaH
    have h1 : va_up (hI (sI h 67 0 0) 67) 2 (nI l) = hI (sI h 67 0 0) 67 := by
      funext j
      rw [up_at]
      split
      · next q => rw [q]; exact h2.symm
      · rfl
    rw [h1, setI_id]
    exact (setI_id (sI h 67 0 0) 68).symm
  have hr := TaH_r (sI h 67 0 0)
  have hle : nI (l + 20) ≤ (540 : Int32) := nI_le (b := 540) (by omega) (by decide)
  have ea : nI l + 20 = nI (l + 20) := nI_add l 20
  have e2 : hI (sI h 67 0 0) 67 2 = nI l := h2
  have p := fun (Q : Option Value → AH → Prop) (t : Nat → Int32) (l : Nat) (hl : l + 4 ≤ 540) (v : Int32) => s147 (h := sI h 67 0 0) (Q := Q) (t := t) (l := l) ms hl v
  rw [we146]
  simp only [w146, ms, hs_sI, e2, ea, hle, zz]
  generalize hF : TaH (sI h 67 0 0) (put20 (hI h 68) l a b c d e) (l + 20) = hF'
  rw [e0]
  simp only [w146, hr, hs_sI, ms, zz, p _ _ l (by omega), p _ _ (l + 4) (by omega), p _ _ (l + 4 + 4) (by omega), p _ _ (l + 4 + 4 + 4) (by omega), p _ _ (l + 4 + 4 + 4 + 4) (by omega)]
  rw [← hF]
  exact Iff.rfl
theorem s146f {l : Nat} (ms : MS0 h) (h2 : hI h 67 2 = nI l) (hl : l ≤ 540) (hl2 : 540 < l + 20) (a b c d e : Int32) : WPM 146 [.ref 67, .int a, .int b, .int c, .int d, .int e] h Q ↔ Q (some (.int (-1))) (sI h 67 0 0) := by
  have hle : ¬ nI (l + 20) ≤ (540 : Int32) := nI_ge (a := 540) hl2 (by omega)
  have ea : nI l + 20 = nI (l + 20) := nI_add l 20
  have e2 : hI (sI h 67 0 0) 67 2 = nI l := h2
  rw [we146]
  simp only [w146, ms, hs_sI, e2, ea, hle, zz]
theorem s148 {l : Nat} (ms : MS0 h) (h2 : hI h 67 2 = nI l) (hl : l ≤ 540) (v : Int32) : WPM 148 [.ref 67, .int v] h Q ↔ if 0 ≤ v ∧ v ≤ nI l then Q (some (.int 1)) (sI (sI h 67 0 0) 67 2 v) else Q (some (.int 0)) (sI h 67 0 0) := by
  have e2 : hI (sI h 67 0 0) 67 2 = nI l := h2
  rw [we148]
  by_cases q1 : v < 0
  · rw [if_neg (fun z => absurd z.1 (Int32.not_le.mpr q1))]
    simp only [w148, ms, hs_sI, q1, zz]
  · by_cases q2 : v ≤ nI l
    · rw [if_pos ⟨Int32.not_lt.mp q1, q2⟩]
      simp only [w148, ms, hs_sI, e2, q1, q2, zz]
    · rw [if_neg (fun z => q2 z.2)]
      simp only [w148, ms, hs_sI, e2, q1, q2, zz]
def tkn (h : AH) : AH := sI (sI (sI h 67 3 (hI h 67 2)) 67 2 0) 67 4 0
theorem s149 (ms : MS0 h) : WPM 149 [.ref 67] h Q ↔ Q none (tkn h) := by
  simp only [we149, w149, ms, hs_sI]
  exact Iff.rfl
theorem s151 {i : Nat} (ms : MS0 h) (hi : i < 540) : WPM 151 [.ref 67, .int (nI i)] h Q ↔ Q (some (.int (hI h 68 i &&& 255))) h := by
  have c1 : (nI i).toNatClampNeg = i := nI_clamp (by omega)
  have i1 : inb (nI i) 540 = true := inb_nI hi (by decide)
  simp only [we151, w151, ms, c1, i1, zz]
theorem ord_l {nd len : Nat} (ms : MS0 h) (nt : MNt h n P wi) (po : PartsOK n P) (h39 : hI h 67 39 = nI nd) (h3 : hI h 67 3 = nI len) (hnd : nd < 2 ^ n) (hw : w < 2) (hlen : len ≤ 540) (tb : TpB (hI h 68))
    (k : Q (some (.int (ordW n P nd wi w (hI h 68) len 0 0 0))) h) :
    ∀ d i made most y5 y6, len - i = d → i ≤ len → made < 2 ^ n → most ≤ 15 → ordW n P nd wi w (hI h 68) len 0 0 0 = ordW n P nd wi w (hI h 68) d i made most → WP 199 60 [.ref 67, .int (nI w), .int (nI made), .int (nI most), .int (nI i), y5, y6] [] h Q := by
  have hn := po.1
  have n0 := nt.1
  intro d
  induction d with
  | zero =>
    intro i made most y5 y6 hd hi hm hmo he
    have hle : nI len ≤ nI i := nI_le (by omega) (by omega)
    rw [w199_60]
    simp only [w199_a, w199_b, ms, h3, hle, zz]
    rw [he] at k
    exact k
  | succ d ih =>
    intro i made most y5 y6 hd hi hm hmo he
    have hle : ¬ nI len ≤ nI i := nI_ge (by omega) (by omega)
    obtain ⟨kb, hk, htb⟩ := tb i (by omega)
    have hoc : hI h 68 i &&& 255 = nI kb := by rw [htb, bI_and kb hk]
    have hstep : ordW n P nd wi w (hI h 68) (d + 1) i made most = if (0 ≤ hI h 68 i ∧ hI h 68 i < nI n) ∧ mayC P nd made (hI h 68 i).toNatClampNeg = true then ordW n P nd wi w (hI h 68) d (i + 1) (made ||| 2 ^ (hI h 68 i).toNatClampNeg) (max most (ndB n P nd wi w made (hI h 68 i).toNatClampNeg)) else -1 := rfl
    rw [w199_60]
    by_cases q : kb < n
    · have hlt : ¬ nI n ≤ nI kb := nI_ge q (by omega)
      have e1 : hI h 68 i = nI kb := by rw [htb, bI_lo kb (by omega)]
      have c1 : (nI kb).toNatClampNeg = kb := nI_clamp (by omega)
      have e2 : (0 : Int32) ≤ nI kb ∧ nI kb < nI n := ⟨nI_pos' (by omega), nI_lt q (by omega)⟩
      rw [e1, c1] at hstep
      have hcan := fun (Q : Option Value → AH → Prop) => s195 (Q := Q) ms nt po h39 hnd hm q
      by_cases q2 : mayC P nd made kb = true
      · rw [if_pos ⟨e2, q2⟩] at hstep
        have hnee := fun (Q : Option Value → AH → Prop) => s194 (Q := Q) ms nt po h39 hnd hm q hw
        have hN : ndB n P nd wi w made kb ≤ n + 1 := ndB_le
        have hcmp : (nI (ndB n P nd wi w made kb) ≤ nI most) ↔ ndB n P nd wi w made kb ≤ most := nI_leI (by omega) (by omega)
        have pw : (1 : Int32) <<< (nI kb &&& 31) = nI (2 ^ kb) := nI_pow kb (by omega)
        by_cases q3 : ndB n P nd wi w made kb ≤ most
        · rw [Nat.max_eq_left q3] at hstep
          simp only [w199_a, w199_b, ms, mz, h3, hle, s151 ms (show i < 540 by omega), hoc, n0, hlt, hcan, if_pos q2, hnee, hcmp, q3, pw, nI_or, zz, nI_1]
          exact ih (i + 1) _ most _ _ (by omega) (by omega) (or_lt2 hm (p2_lt q)) hmo (by rw [he, hstep])
        · rw [Nat.max_eq_right (by omega)] at hstep
          simp only [w199_a, w199_b, ms, mz, h3, hle, s151 ms (show i < 540 by omega), hoc, n0, hlt, hcan, if_pos q2, hnee, hcmp, q3, pw, nI_or, zz, nI_1]
          exact ih (i + 1) _ _ _ _ (by omega) (by omega) (or_lt2 hm (p2_lt q)) (by omega) (by rw [he, hstep])
      · rw [if_neg (fun z => q2 z.2)] at hstep
        simp only [w199_a, w199_b, ms, mz, h3, hle, s151 ms (show i < 540 by omega), hoc, n0, hlt, hcan, if_neg q2, zz]
        rw [he, hstep] at k
        exact k
    · have hlt : nI n ≤ nI kb := nI_le (by omega) (by omega)
      have hno : ¬ ((0 : Int32) ≤ hI h 68 i ∧ hI h 68 i < nI n) := fun z => by
        rcases Nat.lt_or_ge kb 128 with y | y
        · rw [htb, bI_lo kb y] at z
          exact absurd z.2 (nI_nlt (by omega) (by omega))
        · have := bI_hi kb hk y
          rw [← htb] at this
          exact absurd z.1 (Int32.not_le.mpr this)
      rw [if_neg (fun z => hno z.1)] at hstep
      simp only [w199_a, w199_b, ms, mz, h3, hle, s151 ms (show i < 540 by omega), hoc, n0, hlt, zz]
      rw [he, hstep] at k
      exact k
def mtS (j : Nat) : Prop := j = 0 ∨ j = 2 ∨ j = 3 ∨ j = 4 ∨ j = 39
theorem s199 {len nd : Nat} (ms : MS0 h) (nt : MNt h n P wi) (po : PartsOK n P) (hn0 : 0 < n) (hwi : wi < 2 ^ n) (hw : w < 2) (h2 : hI h 67 2 = nI len) (hlen : len ≤ 540) (tb : TpB (hI h 68)) (hnd : nd = ndN P wi n)
    (k : ∀ h', MO nP mtS nP nP h h' → hI h' 67 2 = 0 → Q (some (.int (if len = pc nd then ordW n P nd wi w (hI h 68) len 0 0 0 else -1))) h') : WPM 199 [.ref 67, .int (nI w)] h Q := by
  have hn := po.1
  have hndl : nd < 2 ^ n := by rw [hnd]; exact ndN_lt2 po hwi
  have hnd9 := s_lt hn hndl
  have hq := in_01 w hw
  have hne : ¬ nI n = 0 := nI_ne0 hn0 (by omega)
  have ms0 : MS0 (tkn (sI h 67 0 0)) := ms
  have nt0 : MNt (tkn (sI h 67 0 0)) n P wi := nt
  have h171 := fun Q : Option Value → AH → Prop => s171 (Q := Q) ms0 nt0 po hwi
  rw [← hnd] at h171
  have e3 : hI (tkn (sI h 67 0 0)) 67 3 = nI len := h2
  have e72 : hI (tkn (sI h 67 0 0)) 72 0 = nI n := nt.1
  have hr := show hT (tkn (sI h 67 0 0)) = hT h ∧ hL (tkn (sI h 67 0 0)) = hL h ∧ hR (tkn (sI h 67 0 0)) = hR h from ⟨rfl, rfl, rfl⟩
  have e39 : hI (sI (tkn (sI h 67 0 0)) 67 39 (nI nd)) 67 39 = nI nd := rfl
  have e3' : hI (sI (tkn (sI h 67 0 0)) 67 39 (nI nd)) 67 3 = nI len := h2
  have hb := fun Q : Option Value → AH → Prop => s152 (Q := Q) (h := sI (tkn (sI h 67 0 0)) 67 39 (nI nd)) (s := nd) (by omega)
  have hpc := pc_le nd
  have heq : (nI len = nI (pc nd)) ↔ len = pc nd := nI_eq (by omega) (by omega)
  have m0 : MO nP mtS nP nP h (sI (tkn (sI h 67 0 0)) 67 39 (nI nd)) := ((((MO.rf.sI67 0 (Or.inl rfl)).sI67 _ (Or.inr (Or.inr (Or.inl rfl)))).sI67 0 (Or.inr (Or.inl rfl))).sI67 0 (Or.inr (Or.inr (Or.inr (Or.inl rfl))))).sI67 _ (Or.inr (Or.inr (Or.inr (Or.inr rfl))))
  have k' := k _ m0 rfl
  rw [we199]
  simp only [w199_a, ms, mz, hs_sI, s149 (show MS0 (sI h 67 0 0) from ms), hr, s150, if_pos hq, e72, hne, h171, e39, e3', hb, heq, zz]
  by_cases q : len = pc nd
  · rw [if_pos q] at k'
    simp only [eq_true q, zz]
    have go := ord_l (Q := Q) (h := sI (tkn (sI h 67 0 0)) 67 39 (nI nd)) (w := w) ms nt po e39 e3' hndl hw hlen tb k' len 0 0 0 (.retAddr 0) (.retAddr 0) rfl (Nat.zero_le _) (Nat.pow_pos (by decide)) (Nat.zero_le _) rfl
    rw [nI_0] at go
    exact go
  · rw [if_neg q] at k'
    simp only [eq_false q, zz]
    exact k'
theorem s199f {v : Int32} (ms : MS0 h) (h72 : hI h 72 0 = nI n) (hn : n ≤ 14) (hq : ¬ ((0 ≤ v ∧ v ≤ 1) ∧ 0 < nI n)) (k : ∀ h', MO nP mtS nP nP h h' → hI h' 67 2 = 0 → Q (some (.int (-1))) h') : WPM 199 [.ref 67, .int v] h Q := by
  have hr := show hT (tkn (sI h 67 0 0)) = hT h ∧ hL (tkn (sI h 67 0 0)) = hL h ∧ hR (tkn (sI h 67 0 0)) = hR h from ⟨rfl, rfl, rfl⟩
  have e72 : hI (tkn (sI h 67 0 0)) 72 0 = nI n := h72
  have m0 : MO nP mtS nP nP h (tkn (sI h 67 0 0)) := (((MO.rf.sI67 0 (Or.inl rfl)).sI67 _ (Or.inr (Or.inr (Or.inl rfl)))).sI67 0 (Or.inr (Or.inl rfl))).sI67 0 (Or.inr (Or.inr (Or.inr (Or.inl rfl))))
  have k' := k _ m0 rfl
  rw [we199]
  by_cases q1 : (0 : Int32) ≤ v ∧ v ≤ 1
  · have hz : nI n = 0 := by
      rcases Nat.eq_zero_or_pos n with z | z
      · rw [z]; exact nI_0
      · exact absurd ⟨q1, nI_lt (a := 0) z (by omega)⟩ hq
    simp only [w199_a, ms, mz, hs_sI, s149 (show MS0 (sI h 67 0 0) from ms), hr, s150, if_pos q1, e72, hz, zz]
    exact k'
  · simp only [w199_a, ms, mz, hs_sI, s149 (show MS0 (sI h 67 0 0) from ms), hr, s150, if_neg q1, zz]
    exact k'
end Ta

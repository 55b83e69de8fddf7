/-! ===== the reference: of, wish ===== -/
def FG (f0 f : Nat → Int32) : Prop := ∀ k, k ≠ 4 → k ≠ 11 → k ≠ 12 → k ≠ 13 → k ≠ 14 → k ≠ 15 → k ≠ 16 → f k = f0 k
theorem FF.fg {f0 f : Nat → Int32} (a : FF f0 f) : FG f0 f := fun k h1 h2 h3 h4 h5 _ _ => a k h1 h2 h3 h4 h5
theorem FF.bad {f0 f : Nat → Int32} (a : FF f0 f) (u v : Int32) : FG f0 (va_up (va_up f 15 u) 16 v) := fun k h1 h2 h3 h4 h5 h6 h7 => by
  rw [up_at, if_neg h7, up_at, if_neg h6]
  exact a k h1 h2 h3 h4 h5
theorem FG.tr {f g k : Nat → Int32} (a : FF f g) (b : FG g k) : FG f k := fun i h1 h2 h3 h4 h5 h6 h7 => (b i h1 h2 h3 h4 h5 h6 h7).trans (a i h1 h2 h3 h4 h5)
section Ml
variable {h : AH} {cs my rw : Nat → Int32} {nm : Nat → Int64} {len n : Nat} {nmv : Nat → Nat} {Q : Option Value → AH → Prop}
theorem oI_neg {o : Option Nat} (h : ∀ k, o = some k → k < 2 ^ 31) : (oI o < 0) ↔ o = none := by
  cases o with
  | none => exact ⟨fun _ => rfl, fun _ => by rw [oI_none]; decide⟩
  | some k =>
    rw [oI_some]
    constructor
    · intro z
      exact absurd z (nI_nlt (a := k) (b := 0) (Nat.zero_le _) (h k rfl))
    · intro z; cases z
theorem of_l {f0 md0 wh : Nat → Int32} {j0 : Nat → Int64} (ms : MS0 h) (tb : TpB (hI h 68)) (hl : len ≤ 540) (hmy : my 1 = nI n) (hn : n < 14) (hnm : ∀ k, k < n → nm (14 * 1 + k) = lN (w8 6 (nmv k)) ∧ nmv k < 27 ^ 6) {RS : RR}
    (k1 : ∀ f' j' md' p c', RS.2 = some (p, c') → MT len f' j' c' → FF f0 f' → JJ j0 j' → md' (14 + n) = nI p → (∀ i, i ≠ 14 + n → md' i = md0 i) → p ≠ 0 → Q (some (.int 1)) (MH h f' j' md' cs my wh rw nm))
    (k2 : ∀ f' j' md' fk c', RS.2 = none → RS.1 = (fk, c') → okT c' → FG f0 f' → JJ j0 j' → f' 15 = nI fk → f' 16 = nI c'.2.1 → (∀ i, i ≠ 14 + n → md' i = md0 i) → Q (some (.int 0)) (MH h f' j' md' cs my wh rw nm)) :
    ∀ d m parts c f j md x3, d + m = 6 → parts < 2 ^ n → RS = rpL (hI h 68) len nmv n d parts c → (parts ≠ 0 ∨ c.1 = 7) → MT len f j c → FF f0 f → JJ j0 j → md (14 + n) = nI parts → (∀ i, i ≠ 14 + n → md i = md0 i) → WP 165 35 [.ref 67, .int (nI (14 + n)), .int (nI m), x3] [] (MH h f j md cs my wh rw nm) Q := by
  have hr := MH_r h
  have hs := MH_s h
  intro d
  induction d with
  | zero =>
    intro m parts c f j md x3 hdm hpa he hor mt ff jj hmd hmo
    have h12 := mt.2.1
    have hst : rpL (hI h 68) len nmv n 0 parts c = if c.1 = 7 then (match fnd nmv c.2.2.1 0 n with
      | none => ((3, c), none)
      | some k => if parts.testBit k = true then ((3, c), none) else ((4, c), none)) else if parts = 0 then ((1, c), none) else ((0, c), some (parts, c)) := rfl
    rw [w165_35]
    by_cases q7 : c.1 = 7
    · obtain ⟨t1, t2, t3, t4⟩ := mt.2.2.2.2.2.2.2.1 (by omega)
      rw [if_pos q7] at hst
      simp only [w165_a, w165_b, hr, hs, ms, mz, s161 ms mt, if_pos q7, zz]
      refine s162 (net := 1) (n := n) (nmv := nmv) (v := c.2.2.1) ms (by decide) hmy (by omega) hnm t2 t4 ?_
      cases hf : fnd nmv c.2.2.1 0 n with
      | none =>
        rw [hf] at hst
        have k' := k2 _ j md 3 c (by rw [he, hst]) (by rw [he, hst]) mt.2.2.1 (ff.bad (nI 3) (nI c.2.1)) jj rfl rfl hmo
        simp only [w165_a, w165_b, hr, hs, ms, mz, oI_none, s157 ms, h12, zz]
        exact k'
      | some k =>
        rw [hf] at hst
        have hk := (fnd_lt n 0 k hf).2.1
        have l0 : ¬ nI k < 0 := nI_nlt (a := k) (b := 0) (Nat.zero_le _) (by omega)
        have c1 : (nI (14 + n)).toNatClampNeg = 14 + n := nI_clamp (by omega)
        have i1 : inb (nI (14 + n)) 28 = true := inb_nI (by omega) (by decide)
        have hp9 := s_lt (show n ≤ 14 by omega) hpa
        have eb := mtb1 (s := parts) (x := k) (by omega) (by omega)
        by_cases qb : parts.testBit k = true
        · have hst' : rpL (hI h 68) len nmv n 0 parts c = ((3, c), none) := hst.trans (if_pos qb)
          have k' := k2 _ j md 3 c (by rw [he, hst']) (by rw [he, hst']) mt.2.2.1 (ff.bad (nI 3) (nI c.2.1)) jj rfl rfl hmo
          simp only [w165_a, w165_b, hr, hs, ms, mz, oI_some, l0, c1, i1, hmd, eb, eq_true qb, s157 ms, h12, zz]
          exact k'
        · have hst' : rpL (hI h 68) len nmv n 0 parts c = ((4, c), none) := hst.trans (if_neg qb)
          have hm6 : nI m = 6 := by rw [show m = 6 by omega]; rfl
          have k' := k2 _ j md 4 c (by rw [he, hst']) (by rw [he, hst']) mt.2.2.1 (ff.bad (nI 4) (nI c.2.1)) jj rfl rfl hmo
          simp only [w165_a, w165_b, hr, hs, ms, mz, oI_some, l0, c1, i1, hmd, eb, eq_false qb, hm6, s157 ms, h12, zz]
          exact k'
    · have hp0 := hor.resolve_right q7
      rw [if_neg q7, if_neg hp0] at hst
      simp only [w165_a, w165_b, hr, hs, ms, mz, s161 ms mt, if_neg q7, zz]
      exact k1 f j md parts c (by rw [he, hst]) mt ff jj hmd hmo hp0
  | succ d ih =>
    intro m parts c f j md x3 hdm hpa he hor mt ff jj hmd hmo
    have h12 := mt.2.1
    have hst : rpL (hI h 68) len nmv n (d + 1) parts c = if c.1 = 7 then (match fnd nmv c.2.2.1 0 n with
      | none => ((3, c), none)
      | some k => if parts.testBit k = true then ((3, c), none) else rpL (hI h 68) len nmv n d (parts ||| 2 ^ k) (nxt (hI h 68) len c)) else if parts = 0 then ((1, c), none) else ((0, c), some (parts, c)) := rfl
    rw [w165_35]
    by_cases q7 : c.1 = 7
    · obtain ⟨t1, t2, t3, t4⟩ := mt.2.2.2.2.2.2.2.1 (by omega)
      rw [if_pos q7] at hst
      simp only [w165_a, w165_b, hr, hs, ms, mz, s161 ms mt, if_pos q7, zz]
      refine s162 (net := 1) (n := n) (nmv := nmv) (v := c.2.2.1) ms (by decide) hmy (by omega) hnm t2 t4 ?_
      cases hf : fnd nmv c.2.2.1 0 n with
      | none =>
        rw [hf] at hst
        have k' := k2 _ j md 3 c (by rw [he, hst]) (by rw [he, hst]) mt.2.2.1 (ff.bad (nI 3) (nI c.2.1)) jj rfl rfl hmo
        simp only [w165_a, w165_b, hr, hs, ms, mz, oI_none, s157 ms, h12, zz]
        exact k'
      | some k =>
        rw [hf] at hst
        have hk := (fnd_lt n 0 k hf).2.1
        have l0 : ¬ nI k < 0 := nI_nlt (a := k) (b := 0) (Nat.zero_le _) (by omega)
        have c1 : (nI (14 + n)).toNatClampNeg = 14 + n := nI_clamp (by omega)
        have i1 : inb (nI (14 + n)) 28 = true := inb_nI (by omega) (by decide)
        have hp9 := s_lt (show n ≤ 14 by omega) hpa
        have eb := mtb1 (s := parts) (x := k) (by omega) (by omega)
        have pw : (1 : Int32) <<< (nI k &&& 31) = nI (2 ^ k) := nI_pow k (by omega)
        by_cases qb : parts.testBit k = true
        · have hst' : rpL (hI h 68) len nmv n (d + 1) parts c = ((3, c), none) := hst.trans (if_pos qb)
          have k' := k2 _ j md 3 c (by rw [he, hst']) (by rw [he, hst']) mt.2.2.1 (ff.bad (nI 3) (nI c.2.1)) jj rfl rfl hmo
          simp only [w165_a, w165_b, hr, hs, ms, mz, oI_some, l0, c1, i1, hmd, eb, eq_true qb, s157 ms, h12, zz]
          exact k'
        · have hst' : rpL (hI h 68) len nmv n (d + 1) parts c = rpL (hI h 68) len nmv n d (parts ||| 2 ^ k) (nxt (hI h 68) len c) := hst.trans (if_neg qb)
          have hm6 : ¬ nI m = 6 := fun z => by
            have := nI_inj (a := m) (b := 6) (by omega) (by decide) z
            omega
          have h2k : 2 ^ k < 2 ^ n := p2_lt (by omega)
          have hne : parts ||| 2 ^ k ≠ 0 := fun z => by
            have : (parts ||| 2 ^ k).testBit k = true := by rw [bit_or_pow]; simp
            rw [z, Nat.zero_testBit] at this
            cases this
          simp only [w165_a, w165_b, hr, hs, ms, mz, oI_some, l0, c1, i1, hmd, eb, eq_false qb, hm6, pw, nI_or, zz, nI_1]
          refine mt.next ms tb hl (by omega) fun f' j' mt' ff' jj' => ?_
          simp only [w165_b, zz]
          refine ih (m + 1) (parts ||| 2 ^ k) _ f' j' _ _ (by omega) (or_lt2 hpa h2k) (he.trans hst') (Or.inl hne) mt' (ff.trans ff') (jj.trans jj') (by rw [up_at, if_pos rfl]) (fun i hi => ?_)
          rw [up_at, if_neg hi]
          exact hmo i hi
    · have hp0 := hor.resolve_right q7
      rw [if_neg q7, if_neg hp0] at hst
      simp only [w165_a, w165_b, hr, hs, ms, mz, s161 ms mt, if_neg q7, zz]
      exact k1 f j md parts c (by rw [he, hst]) mt ff jj hmd hmo hp0
theorem s165 {f0 md0 wh : Nat → Int32} {j0 : Nat → Int64} {c : TT} (ms : MS0 h) (tb : TpB (hI h 68)) (hl : len ≤ 540) (hmy : my 1 = nI n) (hn : n < 14) (hnm : ∀ k, k < n → nm (14 * 1 + k) = lN (w8 6 (nmv k)) ∧ nmv k < 27 ^ 6) (mt : MT len f0 j0 c) (hmd : md0 (14 + n) = 0)
    (k1 : ∀ f' j' md' p c', (rdPa (hI h 68) len nmv n c).2 = some (p, c') → MT len f' j' c' → FF f0 f' → JJ j0 j' → md' (14 + n) = nI p → (∀ i, i ≠ 14 + n → md' i = md0 i) → p ≠ 0 → Q (some (.int 1)) (MH h f' j' md' cs my wh rw nm))
    (k2 : ∀ f' j' md' fk c', (rdPa (hI h 68) len nmv n c).2 = none → (rdPa (hI h 68) len nmv n c).1 = (fk, c') → okT c' → FG f0 f' → JJ j0 j' → f' 15 = nI fk → f' 16 = nI c'.2.1 → (∀ i, i ≠ 14 + n → md' i = md0 i) → Q (some (.int 0)) (MH h f' j' md' cs my wh rw nm)) : WPM 165 [.ref 67, .int (nI (14 + n))] (MH h f0 j0 md0 cs my wh rw nm) Q := by
  have hr := MH_r h
  have hs := MH_s h
  have h12 := mt.2.1
  rw [we165]
  by_cases q : c.1 = 2
  · have e : rdPa (hI h 68) len nmv n c = rpL (hI h 68) len nmv n 6 0 (nxt (hI h 68) len c) := by unfold rdPa; rw [if_pos q]
    simp only [w165_a, hr, ms, mz, iw2 ms mt, if_pos q, zz]
    refine mt.next ms tb hl (by omega) fun f' j' mt' ff' jj' => ?_
    have h12' := mt'.2.1
    by_cases q7 : (nxt (hI h 68) len c).1 = 7
    · simp only [w165_a, w165_b, hr, ms, mz, s161 ms mt', if_pos q7, zz]
      have := of_l (f0 := f0) (j0 := j0) (md0 := md0) ms tb hl hmy hn hnm k1 k2 6 0 0 (nxt (hI h 68) len c) f' j' md0 (.retAddr 0) rfl (Nat.pow_pos (by decide)) e (Or.inr q7) mt' ff' jj' hmd (fun i _ => rfl)
      rw [nI_0] at this
      exact this
    · have e2 : rdPa (hI h 68) len nmv n c = ((1, nxt (hI h 68) len c), none) := by
        rw [e]
        show (if (nxt (hI h 68) len c).1 = 7 then _ else if (0 : Nat) = 0 then _ else _) = _
        rw [if_neg q7, if_pos rfl]
      have k' := k2 _ j' md0 1 _ (by rw [e2]) (by rw [e2]) mt'.2.2.1 (ff'.bad (nI 1) (nI (nxt (hI h 68) len c).2.1)) jj' rfl rfl (fun i _ => rfl)
      simp only [w165_a, w165_b, hr, hs, ms, mz, s161 ms mt', if_neg q7, s157 ms, h12', zz]
      exact k'
  · have e : rdPa (hI h 68) len nmv n c = ((1, c), none) := by unfold rdPa; rw [if_neg q]
    have k' := k2 _ j0 md0 1 _ (by rw [e]) (by rw [e]) mt.2.2.1 (FF.rf.bad (nI 1) (nI c.2.1)) JJ.rf rfl rfl (fun i _ => rfl)
    simp only [w165_a, w165_b, hr, hs, ms, mz, iw2 ms mt, if_neg q, s157 ms, h12, zz]
    exact k'
/-- wishes: behind the names anything may stand -/
theorem wish_m {f0 md wh0 : Nat → Int32} {j0 : Nat → Int64} (ms : MS0 h) (tb : TpB (hI h 68)) (hl : len ≤ 540) (hmy : my 1 = nI n) (hn : n ≤ 14) (hnm : ∀ k, k < n → nm (14 * 1 + k) = lN (w8 6 (nmv k)) ∧ nmv k < 27 ^ 6) {RS : RR}
    (k1 : ∀ f' j' wh' w c', RS = (if c'.1 = 9 then ((0, c'), some (w, c')) else ((1, c'), none)) → MT len f' j' c' → FF f0 f' → JJ j0 j' → wh' 1 = nI w → w < 2 ^ n → (∀ i, i ≠ 1 → wh' i = wh0 i) → Q (some (.int 1)) (MH h f' j' md cs my wh' rw nm))
    (k2 : ∀ f' j' wh' fk c', RS.2 = none → RS.1 = (fk, c') → okT c' → FG f0 f' → JJ j0 j' → f' 15 = nI fk → f' 16 = nI c'.2.1 → (∀ i, i ≠ 1 → wh' i = wh0 i) → Q (some (.int 0)) (MH h f' j' md cs my wh' rw nm)) :
    ∀ d m w c f j wh x1, d + m = 15 → m ≤ pc w → w < 2 ^ n → RS = rwL (hI h 68) len nmv n d w m c → (0 < m ∨ c.1 = 7) → MT len f j c → FF f0 f → JJ j0 j → wh 1 = nI w → (∀ i, i ≠ 1 → wh i = wh0 i) → WP 166 13 [.ref 67, x1] [] (MH h f j md cs my wh rw nm) Q := by
  have hr := MH_r h
  have hs := MH_s h
  intro d
  induction d with
  | zero =>
    intro m w c f j wh x1 hdm hm hw
    have := pc_lt hw (by omega)
    omega
  | succ d ih =>
    intro m w c f j wh x1 hdm hm hw he hor mt ff jj hwh hwo
    have h12 := mt.2.1
    have hst : rwL (hI h 68) len nmv n (d + 1) w m c = if c.1 = 7 then (match fnd nmv c.2.2.1 0 n with
      | none => ((3, c), none)
      | some k => if w.testBit k = true then ((3, c), none) else rwL (hI h 68) len nmv n d (w ||| 2 ^ k) (m + 1) (nxt (hI h 68) len c)) else if 0 < m ∧ c.1 = 9 then ((0, c), some (w, c)) else ((1, c), none) := rfl
    rw [w166_13]
    by_cases q7 : c.1 = 7
    · obtain ⟨t1, t2, t3, t4⟩ := mt.2.2.2.2.2.2.2.1 (by omega)
      rw [if_pos q7] at hst
      simp only [w166_a, w166_b, hr, hs, ms, mz, s161 ms mt, if_pos q7, zz]
      refine s162 (net := 1) (n := n) (nmv := nmv) (v := c.2.2.1) ms (by decide) hmy (by omega) hnm t2 t4 ?_
      cases hf : fnd nmv c.2.2.1 0 n with
      | none =>
        rw [hf] at hst
        have k' := k2 _ j wh 3 c (by rw [he, hst]) (by rw [he, hst]) mt.2.2.1 (ff.bad (nI 3) (nI c.2.1)) jj rfl rfl hwo
        simp only [w166_a, w166_b, hr, hs, ms, mz, oI_none, s157 ms, h12, zz]
        exact k'
      | some k =>
        rw [hf] at hst
        have hk := (fnd_lt n 0 k hf).2.1
        have l0 : ¬ nI k < 0 := nI_nlt (a := k) (b := 0) (Nat.zero_le _) (by omega)
        have hp9 := s_lt (show n ≤ 14 by omega) hw
        have eb := mtb1 (s := w) (x := k) (by omega) (by omega)
        have pw : (1 : Int32) <<< (nI k &&& 31) = nI (2 ^ k) := nI_pow k (by omega)
        by_cases qb : w.testBit k = true
        · have hst' : rwL (hI h 68) len nmv n (d + 1) w m c = ((3, c), none) := hst.trans (if_pos qb)
          have k' := k2 _ j wh 3 c (by rw [he, hst']) (by rw [he, hst']) mt.2.2.1 (ff.bad (nI 3) (nI c.2.1)) jj rfl rfl hwo
          simp only [w166_a, w166_b, hr, hs, ms, mz, oI_some, l0, hwh, eb, eq_true qb, s157 ms, h12, zz]
          exact k'
        · have hst' : rwL (hI h 68) len nmv n (d + 1) w m c = rwL (hI h 68) len nmv n d (w ||| 2 ^ k) (m + 1) (nxt (hI h 68) len c) := hst.trans (if_neg qb)
          have h2k : 2 ^ k < 2 ^ n := p2_lt (by omega)
          have hpc := pc_set (s := w) (k := k) (by simpa using qb) (by omega)
          simp only [w166_a, w166_b, hr, hs, ms, mz, oI_some, l0, hwh, eb, eq_false qb, pw, nI_or, zz]
          refine mt.next ms tb hl (by omega) fun f' j' mt' ff' jj' => ?_
          simp only [w166_b, zz]
          refine ih (m + 1) (w ||| 2 ^ k) _ f' j' _ _ (by omega) (by omega) (or_lt2 hw h2k) (he.trans hst') (Or.inl (Nat.succ_pos _)) mt' (ff.trans ff') (jj.trans jj') (by rw [up_at, if_pos rfl]) (fun i hi => ?_)
          rw [up_at, if_neg hi]
          exact hwo i hi
    · have hm0 : 0 < m := hor.resolve_right q7
      rw [if_neg q7] at hst
      simp only [w166_a, w166_b, hr, hs, ms, mz, s161 ms mt, if_neg q7, zz]
      refine k1 f j wh w c ?_ mt ff jj hwh hw hwo
      rw [he, hst]
      by_cases q9 : c.1 = 9
      · rw [if_pos ⟨hm0, q9⟩, if_pos q9]
      · rw [if_neg (fun z => q9 z.2), if_neg q9]
theorem s166 {f0 md wh0 : Nat → Int32} {j0 : Nat → Int64} {w : Nat} {c : TT} (ms : MS0 h) (tb : TpB (hI h 68)) (hl : len ≤ 540) (hmy : my 1 = nI n) (hn : n ≤ 14) (hnm : ∀ k, k < n → nm (14 * 1 + k) = lN (w8 6 (nmv k)) ∧ nmv k < 27 ^ 6) (mt : MT len f0 j0 c) (hw : w < 2 ^ n) (hwh : wh0 1 = nI w)
    (k1 : ∀ f' j' wh' w' c', rwL (hI h 68) len nmv n 15 w 0 c = (if c'.1 = 9 then ((0, c'), some (w', c')) else ((1, c'), none)) → MT len f' j' c' → FF f0 f' → JJ j0 j' → wh' 1 = nI w' → w' < 2 ^ n → (∀ i, i ≠ 1 → wh' i = wh0 i) → Q (some (.int 1)) (MH h f' j' md cs my wh' rw nm))
    (k2 : ∀ f' j' wh' fk c', (rwL (hI h 68) len nmv n 15 w 0 c).2 = none → (rwL (hI h 68) len nmv n 15 w 0 c).1 = (fk, c') → okT c' → FG f0 f' → JJ j0 j' → f' 15 = nI fk → f' 16 = nI c'.2.1 → (∀ i, i ≠ 1 → wh' i = wh0 i) → Q (some (.int 0)) (MH h f' j' md cs my wh' rw nm)) : WPM 166 [.ref 67] (MH h f0 j0 md cs my wh0 rw nm) Q := by
  have hr := MH_r h
  have hs := MH_s h
  have h12 := mt.2.1
  rw [we166]
  by_cases q7 : c.1 = 7
  · simp only [w166_a, hr, ms, mz, s161 ms mt, if_pos q7, zz]
    exact wish_m (f0 := f0) (j0 := j0) (wh0 := wh0) ms tb hl hmy hn hnm k1 k2 15 0 w c f0 j0 wh0 (.retAddr 0) rfl (Nat.zero_le _) hw rfl (Or.inr q7) mt FF.rf JJ.rf hwh (fun i _ => rfl)
  · have e : rwL (hI h 68) len nmv n 15 w 0 c = ((1, c), none) := by
      show (if c.1 = 7 then _ else if 0 < 0 ∧ c.1 = 9 then _ else _) = _
      rw [if_neg q7, if_neg (fun z => Nat.lt_irrefl 0 z.1)]
    have k' := k2 _ j0 wh0 1 c (by rw [e]) (by rw [e]) mt.2.2.1 (FF.rf.bad (nI 1) (nI c.2.1)) JJ.rf rfl rfl (fun i _ => rfl)
    simp only [w166_a, w166_b, hr, hs, ms, mz, s161 ms mt, if_neg q7, s157 ms, h12, zz]
    exact k'
end Ml

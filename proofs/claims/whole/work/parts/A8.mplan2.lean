/-! ===== the reference: plan ===== -/
section Mq
variable {h : AH} {len : Nat} {Q : Option Value → AH → Prop}
/-- the heap of plan(): the plan pp, the new one np -/
def MPQ (h : AH) (pp np f : Nat → Int32) (j : Nat → Int64) : AH := MH (setI (setI h 95 pp) 96 np) f j (hI h 70) (hI h 71) (hI h 72) (hI h 73) (hI h 74) (hJ h 69)
theorem MPQ_I (pp np f : Nat → Int32) (j : Nat → Int64) (a : Nat) : hI (MPQ h pp np f j) a = if a = 67 then f else if a = 96 then np else if a = 95 then pp else hI h a := by
  unfold MPQ
  rw [MH_I, hI_setI, hI_setI]
  by_cases q1 : a = 74
  · rw [if_pos q1, if_neg (by omega), if_neg (by omega), if_neg (by omega), q1]
  · rw [if_neg q1]
    by_cases q2 : a = 73
    · rw [if_pos q2, if_neg (by omega), if_neg (by omega), if_neg (by omega), q2]
    · rw [if_neg q2]
      by_cases q3 : a = 72
      · rw [if_pos q3, if_neg (by omega), if_neg (by omega), if_neg (by omega), q3]
      · rw [if_neg q3]
        by_cases q4 : a = 71
        · rw [if_pos q4, if_neg (by omega), if_neg (by omega), if_neg (by omega), q4]
        · rw [if_neg q4]
          by_cases q5 : a = 70
          · rw [if_pos q5, if_neg (by omega), if_neg (by omega), if_neg (by omega), q5]
          · rw [if_neg q5]
theorem MPQ_J (pp np f : Nat → Int32) (j : Nat → Int64) (a : Nat) : hJ (MPQ h pp np f j) a = if a = 67 then j else hJ h a := by
  unfold MPQ
  rw [MH_J]
  by_cases q1 : a = 69
  · rw [if_pos q1, if_neg (by omega), q1]
  · rw [if_neg q1]
    rfl
theorem MPQ_r (pp np f : Nat → Int32) (j : Nat → Int64) : hT (MPQ h pp np f j) = hT h ∧ hL (MPQ h pp np f j) = hL h ∧ hR (MPQ h pp np f j) = hR h ∧ hI (MPQ h pp np f j) 67 = f ∧ hI (MPQ h pp np f j) 96 = np ∧ (∀ k v, sI (MPQ h pp np f j) 67 k v = MPQ h pp np (va_up f k v) j) ∧ ∀ k v, sI (MPQ h pp np f j) 95 k v = MPQ h (va_up pp k v) np f j := by
  refine ⟨rfl, rfl, rfl, by rw [MPQ_I]; rfl, by rw [MPQ_I]; rfl, fun k v => ?_, fun k v => ?_⟩
  · unfold MPQ
    rw [(MH_s (setI (setI h 95 pp) 96 np) f j _ _ _ _ _ _).1]
  · unfold MPQ MH
    rw [sI_setJ', sI_setJ', sI_setI_o (by decide), sI_setI_o (by decide), sI_setI_o (by decide), sI_setI_o (by decide), sI_setI_o (by decide), sI_setI_o (by decide), sI_setI_o (by decide), sI_setI]
def mpqA (a : Nat) : Prop := a = 95 ∨ a = 96
def mpqS (k : Nat) : Prop := mnS k ∨ k = 49 ∨ k = 50
abbrev MPQf (h h' : AH) : Prop := MO mpqA mpqS nP mnT h h'
theorem MPQ_mo {pp np f : Nat → Int32} {j : Nat → Int64} (hf : ∀ k, ¬ mpqS k → f k = hI h 67 k) (hj : ∀ k, k ≠ 17 → j k = hJ h 67 k) : MPQf h (MPQ h pp np f j) := by
  refine ⟨rfl, rfl, rfl, rfl, rfl, fun a k h1 h2 => ?_, fun a k h1 h2 => ?_⟩
  · unfold mpqA at h1
    rw [MPQ_I]
    by_cases q : a = 67
    · rw [if_pos q, q]
      exact hf k (fun z => h2 ⟨q, z⟩)
    · rw [if_neg q, if_neg (by omega), if_neg (by omega)]
  · rw [MPQ_J]
    by_cases q : a = 67
    · rw [if_pos q, q]
      exact hj k (fun z => h2 ⟨q, z⟩)
    · rw [if_neg q]
theorem plan_c {f np : Nat → Int32} {j : Nat → Int64} {pl : List Nat} (ms : MS0 h) (hl : pl.length ≤ 60) (f50 : f 50 = nI pl.length) (f49 : f 49 = nI pl.length) (hnp : ∀ i v, pl[i]? = some v → np i = nI v)
    (kk : ∀ pp, (∀ i v, pl[i]? = some v → pp i = nI v) → Q (some (.int (nI pl.length))) (MPQ h pp np f j)) :
    ∀ d x pp, pl.length - x = d → x ≤ pl.length → (∀ i v, i < x → pl[i]? = some v → pp i = nI v) → WP 211 47 [.ref 67, .int (nI x)] [] (MPQ h pp np f j) Q := by
  have hr := MPQ_r (h := h)
  intro d
  induction d with
  | zero =>
    intro x pp hd hx hp
    have hle : nI pl.length ≤ nI x := nI_le (by omega) (by omega)
    rw [w211_47]
    simp only [w211_a, w211_b, hr, ms, f50, f49, hle, zz]
    refine kk pp fun i v hi => hp i v ?_ hi
    obtain ⟨hl', -⟩ := List.getElem?_eq_some_iff.mp hi
    omega
  | succ d ih =>
    intro x pp hd hx hp
    have hxl : x < pl.length := by omega
    have hle : ¬ nI pl.length ≤ nI x := nI_ge hxl (by omega)
    have c1 : (nI x).toNatClampNeg = x := nI_clamp (by omega)
    have i1 : inb (nI x) 60 = true := inb_nI (by omega) (by decide)
    obtain ⟨v, hv⟩ : ∃ v, pl[x]? = some v := ⟨_, List.getElem?_eq_getElem hxl⟩
    rw [w211_47]
    simp only [w211_a, w211_b, hr, ms, f50, hle, c1, i1, zz, nI_1]
    refine ih (x + 1) _ (by omega) (by omega) (fun i u hi hu => ?_)
    rw [up_at]
    by_cases q : i = x
    · rw [if_pos q]
      rw [q] at hu
      exact hnp x u hu
    · rw [if_neg q]
      exact hp i u (by omega) hu
theorem s211 {d : Dt} (ms : MS0 h) (tb : TpB (hI h 68)) (hl : len ≤ 540) (h2 : hI h 67 2 = nI len) (mn : MN d h)
    (k1 : ∀ h' pl, (rdPl (hI h 68) len d.2.1 d.1 501 [] c00).2 = some pl → MPl h' pl → MPQf h h' → hI h' 67 15 = 0 → hI h' 67 2 = 0 → Q (some (.int (nI pl.length))) h')
    (k2 : ∀ h' fk c', (rdPl (hI h 68) len d.2.1 d.1 501 [] c00).2 = none → (rdPl (hI h 68) len d.2.1 d.1 501 [] c00).1 = (fk, c') → okT c' → (∀ pl, MPl h pl → MPl h' pl) → MPQf h h' → hI h' 67 15 = nI fk → hI h' 67 2 = 0 → Q (some (.int (-1 - nI c'.2.1))) h') : WPM 211 [.ref 67] h Q := by
  have hr := MPQ_r (h := h)
  obtain ⟨f1, hf1⟩ : ∃ f1 : Nat → Int32, f1 = va_up (va_up (va_up (va_up (va_up (va_up (hI h 67) 0 0) 3 (nI len)) 2 0) 4 0) 15 0) 50 0 := ⟨_, rfl⟩
  have g3 : f1 3 = nI len := by rw [hf1]; rfl
  have g4 : f1 4 = nI 0 := by rw [hf1]; rfl
  have g2 : f1 2 = 0 := by rw [hf1]; rfl
  have g15 : f1 15 = 0 := by rw [hf1]; rfl
  have g50 : f1 50 = nI 0 := by rw [hf1]; rfl
  have g49 : f1 49 = hI h 67 49 := by rw [hf1]; rfl
  have gS : ∀ k, ¬ mpqS k → f1 k = hI h 67 k := fun k hk => by
    unfold mpqS mnS at hk
    rw [hf1, up_at, if_neg (by omega), up_at, if_neg (by omega), up_at, if_neg (by omega), up_at, if_neg (by omega), up_at, if_neg (by omega), up_at, if_neg (by omega)]
  have fgS : ∀ f', FP f1 f' → ∀ k, ¬ mpqS k → f' k = hI h 67 k := fun f' fg k hk => by
    have hk' := hk
    unfold mpqS mnS at hk'
    rw [fg k (by omega) (by omega) (by omega) (by omega) (by omega) (by omega) (by omega) (by omega)]
    exact gS k hk
  have eid : MPQ h (hI h 95) (hI h 96) (hI h 67) (hJ h 67) = h := by
    unfold MPQ
    rw [setI_id, setI_id]
    exact MH_id h
  have hs := MH_s (setI (setI h 95 (hI h 95)) 96 (hI h 96))
  have hr' := MH_r (setI (setI h 95 (hI h 95)) 96 (hI h 96))
  have ms1 : MS0 (setI (setI h 95 (hI h 95)) 96 (hI h 96)) := ms
  have tb1 : TpB (hI (setI (setI h 95 (hI h 95)) 96 (hI h 96)) 68) := tb
  rw [we211, ← eid]
  unfold MPQ
  simp only [w211_a, hr', hs, ms1, mz, s149m ms1, vu2, h2, zz]
  rw [show va_up (va_up (va_up (va_up (va_up (va_up (hI h 67) 0 0) 3 (nI len)) 2 0) 4 0) 15 0) 50 0 = f1 from hf1.symm]
  refine s156 ms1 tb1 hl (Nat.zero_le _) g3 g4 fun f2 j2 mt2 ff2 jj2 => ?_
  have f2_2 : f2 2 = 0 := (ff2 2 (by decide) (by decide) (by decide) (by decide) (by decide)).trans g2
  have f2_15 : f2 15 = 0 := (ff2 15 (by decide) (by decide) (by decide) (by decide) (by decide)).trans g15
  have f2_50 : f2 50 = nI 0 := (ff2 50 (by decide) (by decide) (by decide) (by decide) (by decide)).trans g50
  have f2_49 : f2 49 = hI h 67 49 := (ff2 49 (by decide) (by decide) (by decide) (by decide) (by decide)).trans g49
  have fp2 : ∀ f', FP f2 f' → FP f1 f' := fun f' a k h1 h2 h3 h4 h5 h6 h7 h8 => (a k h1 h2 h3 h4 h5 h6 h7 h8).trans (ff2 k h1 h2 h3 h4 h5)
  have hnm : ∀ k, k < d.1 → hJ h 69 (14 * 0 + k) = lN (w8 6 (d.2.1 k)) ∧ d.2.1 k < 27 ^ 6 := fun k hk => by
    have := mn.2.2 k hk
    rw [show 14 * 0 + k = k by omega]
    exact ⟨this.2.2.1, this.2.2.2⟩
  have go := plan_m (h := setI h 95 (hI h 95)) (Q := fun r h' => WP 211 27 [.ref 67, .retAddr 0] (r.toList ++ []) h' Q) (f0 := f2) (j0 := j2) (md := hI h 70) (cs := hI h 71) (my := hI h 72) (wh := hI h 73) (rw := hI h 74) (nm := hJ h 69) (nmv := d.2.1) (n := d.1) ms tb hl mn.1.1 mn.2.1 hnm (RS := rdPl (hI h 68) len d.2.1 d.1 501 [] c00) (fun f' j' np pl e hpl hnp hpn x50 x15 fp jj => ?_) (fun f' j' np fk c' e1 e2 hok fp jj e15 e16 => ?_) 501 [] c00 f2 j2 (hI h 96) (.retAddr 0) (.retAddr 0) (.retAddr 0) (.retAddr 0) rfl (by decide) (by decide) mt2 FP.rf rfl JJ.rf f2_50 (Nat.zero_le _) (fun i v hi => by cases hi) (fun v hv => absurd hv List.not_mem_nil)
  · simp only [w211_a, hr', ms1, zz]
    rw [we209]
    exact go
  · have x2 : f' 2 = 0 := (fp 2 (by decide) (by decide) (by decide) (by decide) (by decide) (by decide) (by decide) (by decide)).trans f2_2
    have y15 : f' 15 = 0 := x15.trans f2_15
    show WP 211 27 [.ref 67, .retAddr 0] [.int 1] (MPQ h (hI h 95) np f' j') Q
    simp only [w211_a, w211_b, hr, ms, mz, x50, zz]
    have pc := plan_c (h := h) (Q := Q) (f := va_up f' 49 (nI pl.length)) (np := np) (j := j') (pl := pl) ms hpl x50 rfl hnp (fun pp hpp => ?_) pl.length 0 (hI h 95) rfl (Nat.zero_le _) (fun i v hi => absurd hi (Nat.not_lt_zero _))
    · rw [nI_0] at pc
      exact pc
    · have e67 : hI (MPQ h pp np (va_up f' 49 (nI pl.length)) j') 67 = va_up f' 49 (nI pl.length) := (hr pp np _ j').2.2.2.1
      have e95 : hI (MPQ h pp np (va_up f' 49 (nI pl.length)) j') 95 = pp := by rw [MPQ_I]; rfl
      refine k1 _ pl e ⟨by rw [e67]; rfl, by rw [e95]; exact hpp, hpl, hpn⟩ (MPQ_mo (fun k hk => ?_) (fun k hk => (jj k hk).trans (jj2 k hk))) (by rw [e67]; exact y15) (by rw [e67]; exact x2)
      have hk' := hk
      unfold mpqS at hk'
      rw [up_at, if_neg (by omega)]
      exact fgS f' (fp2 f' fp) k hk
  · have x2 : f' 2 = 0 := (fp 2 (by decide) (by decide) (by decide) (by decide) (by decide) (by decide) (by decide) (by decide)).trans f2_2
    have x49 : f' 49 = hI h 67 49 := (fp 49 (by decide) (by decide) (by decide) (by decide) (by decide) (by decide) (by decide) (by decide)).trans f2_49
    show WP 211 27 [.ref 67, .retAddr 0] [.int 0] (MPQ h (hI h 95) np f' j') Q
    simp only [w211_a, w211_b, hr, ms, mz, e16, zz]
    have e67 : hI (MPQ h (hI h 95) np f' j') 67 = f' := (hr _ np _ j').2.2.2.1
    have e95 : hI (MPQ h (hI h 95) np f' j') 95 = hI h 95 := by rw [MPQ_I]; rfl
    refine k2 _ fk c' e1 e2 hok (fun pl mp => ?_) (MPQ_mo (fgS f' (fp2 f' fp)) (fun k hk => (jj k hk).trans (jj2 k hk))) (by rw [e67]; exact e15) (by rw [e67]; exact x2)
    unfold MPl
    rw [e67, e95, x49]
    exact mp
end Mq

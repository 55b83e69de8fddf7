/-! ===== the reference: net ===== -/
theorem MH_id (h : AH) : MH h (hI h 67) (hJ h 67) (hI h 70) (hI h 71) (hI h 72) (hI h 73) (hI h 74) (hJ h 69) = h := by
  refine ah_ext rfl rfl ?_ ?_ rfl rfl rfl
  · funext a
    rw [MH_I]
    by_cases q1 : a = 74
    · rw [if_pos q1, q1]
    · rw [if_neg q1]
      by_cases q2 : a = 73
      · rw [if_pos q2, q2]
      · rw [if_neg q2]
        by_cases q3 : a = 72
        · rw [if_pos q3, q3]
        · rw [if_neg q3]
          by_cases q4 : a = 71
          · rw [if_pos q4, q4]
          · rw [if_neg q4]
            by_cases q5 : a = 70
            · rw [if_pos q5, q5]
            · rw [if_neg q5]
              by_cases q6 : a = 67
              · rw [if_pos q6, q6]
              · rw [if_neg q6]
  · funext a
    rw [MH_J]
    by_cases q1 : a = 69
    · rw [if_pos q1, q1]
    · rw [if_neg q1]
      by_cases q6 : a = 67
      · rw [if_pos q6, q6]
      · rw [if_neg q6]
def mnA (a : Nat) : Prop := a = 70 ∨ a = 71 ∨ a = 72 ∨ a = 73 ∨ a = 74
def mnS (k : Nat) : Prop := k = 0 ∨ k = 2 ∨ k = 3 ∨ k = 4 ∨ k = 11 ∨ k = 12 ∨ k = 13 ∨ k = 14 ∨ k = 15 ∨ k = 16
def mnJ (a : Nat) : Prop := a = 69
def mnT (k : Nat) : Prop := k = 17
abbrev MNf (h h' : AH) : Prop := MO mnA mnS mnJ mnT h h'
theorem MH_mo {h : AH} {f : Nat → Int32} {j : Nat → Int64} {md cs my wh rw : Nat → Int32} {nm : Nat → Int64} (hf : ∀ k, ¬ mnS k → f k = hI h 67 k) (hj : ∀ k, k ≠ 17 → j k = hJ h 67 k) : MNf h (MH h f j md cs my wh rw nm) := by
  refine ⟨rfl, rfl, rfl, rfl, rfl, fun a k h1 h2 => ?_, fun a k h1 h2 => ?_⟩
  · unfold mnA at h1
    rw [MH_I, if_neg (by omega), if_neg (by omega), if_neg (by omega), if_neg (by omega), if_neg (by omega)]
    by_cases q : a = 67
    · rw [if_pos q, q]
      exact hf k (fun z => h2 ⟨q, z⟩)
    · rw [if_neg q]
  · unfold mnJ at h1
    rw [MH_J, if_neg h1]
    by_cases q : a = 67
    · rw [if_pos q, q]
      exact hj k (fun z => h2 ⟨q, z⟩)
    · rw [if_neg q]
/-- the reference's NET, with costs, raws, names -/
def MN (d : Dt) (h : AH) : Prop := MNt h d.1 d.2.2.1 d.2.2.2.2 ∧ d.1 ≤ 14 ∧ ∀ k, k < d.1 → hI h 71 k = nI (d.2.2.2.1 k) ∧ (hI h 74 k = if d.2.2.1 k = 0 then 1 else 0) ∧ hJ h 69 k = lN (w8 6 (d.2.1 k)) ∧ d.2.1 k < 27 ^ 6
theorem MN.keep {d : Dt} {h : AH} {f : Nat → Int32} {j : Nat → Int64} {md cs my wh rw : Nat → Int32} {nm : Nat → Int64} (m : MN d h) (kp : MKp (hI h 70) (hI h 71) (hI h 72) (hI h 73) (hI h 74) (hJ h 69) md cs my wh rw nm) : MN d (MH h f j md cs my wh rw nm) := by
  obtain ⟨⟨m1, m2, m3⟩, m4, m5⟩ := m
  obtain ⟨e1, e2, e3, e4, e5, e6⟩ := kp
  obtain ⟨-, -, -, -, -, r1, r2, r3, r4, r5, r6, -⟩ := MH_r h f j md cs my wh rw nm
  unfold MN MNt
  rw [r1, r2, r3, r4, r5, r6]
  refine ⟨⟨e5.trans m1, e6.trans m2, fun x hx => (e1 x (by omega)).trans (m3 x hx)⟩, m4, fun k hk => ?_⟩
  rw [e2 k (by omega), e3 k (by omega), e4 k (by omega)]
  exact m5 k hk
section Mn
variable {h : AH} {len : Nat} {Q : Option Value → AH → Prop}
theorem vu2 : (∀ (f : Nat → Int32) (v : Int32), va_up f 0 v 2 = f 2) ∧ (∀ (f : Nat → Int32) (v : Int32), va_up f 3 v 2 = f 2) ∧ (∀ (f : Nat → Int32) (v : Int32), va_up f 3 v 3 = v) ∧ (∀ (f : Nat → Int32) (v : Int32), va_up f 2 v 3 = f 3) ∧ (∀ (f : Nat → Int32) (v : Int32), va_up f 2 v 2 = v) := ⟨fun _ _ => rfl, fun _ _ => rfl, fun _ _ => rfl, fun _ _ => rfl, fun _ _ => rfl⟩
theorem s149m {f md cs my wh rw : Nat → Int32} {j nm : Nat → Int64} (ms : MS0 h) : WPM 149 [.ref 67] (MH h f j md cs my wh rw nm) Q ↔ Q none (MH h (va_up (va_up (va_up f 3 (f 2)) 2 0) 4 0) j md cs my wh rw nm) := by
  have hr := MH_r h
  have hs := MH_s h
  rw [we149]
  simp only [w149, hr, hs, ms, vu2, zz]
/-- copying the draft -/
theorem net_c {n : Nat} {f md0 cs0 my wh rw0 : Nat → Int32} {j nm0 : Nat → Int64} (ms : MS0 h) (hn : n ≤ 14) (h0 : my 0 = nI n) (hz : ∀ k, k < n → rw0 (14 + k) = 0 ∨ rw0 (14 + k) = 1)
    (kk : ∀ md cs rw nm, (∀ k, k < n → md k = md0 (14 + k) ∧ cs k = cs0 (14 + k) ∧ rw k = rw0 (14 + k) ∧ nm k = nm0 (14 + k)) → Q (some (.int (nI n))) (MH h f j md cs my wh rw nm)) :
    ∀ d x md cs rw nm, n - x = d → x ≤ n → (∀ k, 14 ≤ k → md k = md0 k ∧ cs k = cs0 k ∧ rw k = rw0 k ∧ nm k = nm0 k) → (∀ k, k < x → md k = md0 (14 + k) ∧ cs k = cs0 (14 + k) ∧ rw k = rw0 (14 + k) ∧ nm k = nm0 (14 + k)) → WP 167 72 [.ref 67, .int (nI x)] [] (MH h f j md cs my wh rw nm) Q := by
  have hr := MH_r h
  have hs := MH_s h
  intro d
  induction d with
  | zero =>
    intro x md cs rw nm hd hx h14 hc
    have hle : nI n ≤ nI x := nI_le (by omega) (by omega)
    have hxn : x = n := by omega
    rw [hxn] at hc
    rw [w167_72]
    simp only [w167_b, w167_c, hr, hs, ms, mz, h0, hle, zz]
    exact kk md cs rw nm hc
  | succ d ih =>
    intro x md cs rw nm hd hx h14 hc
    have hxn : x < n := by omega
    have hle : ¬ nI n ≤ nI x := nI_ge hxn (by omega)
    have c1 : (nI x).toNatClampNeg = x := nI_clamp (by omega)
    have i1 : inb (nI x) 28 = true := inb_nI (by omega) (by decide)
    have e14 : (14 : Int32) + nI x = nI (14 + x) := nI_add 14 x
    have c2 : (nI (14 + x)).toNatClampNeg = 14 + x := nI_clamp (by omega)
    have i2 : inb (nI (14 + x)) 28 = true := inb_nI (by omega) (by decide)
    obtain ⟨g1, g2, g3, g4⟩ := h14 (14 + x) (by omega)
    have hb : rw0 (14 + x) &&& 1 = rw0 (14 + x) := by
      rcases hz x hxn with z | z
      · rw [z]; exact and11.2
      · rw [z]; exact and11.1
    rw [w167_72]
    simp only [w167_b, w167_c, hr, hs, ms, mz, h0, hle, c1, i1, e14, c2, i2, g1, g2, g3, g4, hb, zz, nI_1]
    refine ih (x + 1) _ _ _ _ (by omega) (by omega) (fun k hk => ?_) (fun k hk => ?_)
    · rw [up_at, up_at, up_at, up_at, if_neg (by omega), if_neg (by omega), if_neg (by omega), if_neg (by omega)]
      exact h14 k hk
    · rw [up_at, up_at, up_at, up_at]
      by_cases q : k = x
      · rw [if_pos q, if_pos q, if_pos q, if_pos q, q]
        exact ⟨rfl, rfl, rfl, rfl⟩
      · rw [if_neg q, if_neg q, if_neg q, if_neg q]
        exact hc k (by omega)
theorem s167 (ms : MS0 h) (tb : TpB (hI h 68)) (hl : len ≤ 540) (h2 : hI h 67 2 = nI len)
    (k1 : ∀ h' d', (rdN (hI h 68) len 501 d00 c00).2 = some d' → MN d' h' → d'.2.2.2.2 < 2 ^ d'.1 → MNf h h' → hI h' 67 15 = 0 → hI h' 67 2 = 0 → Q (some (.int (nI d'.1))) h')
    (k2 : ∀ h' fk c', (rdN (hI h 68) len 501 d00 c00).2 = none → (rdN (hI h 68) len 501 d00 c00).1 = (fk, c') → okT c' → (∀ d, MN d h → MN d h') → MNf h h' → hI h' 67 15 = nI fk → hI h' 67 2 = 0 → Q (some (.int (-1 - nI c'.2.1))) h') : WPM 167 [.ref 67] h Q := by
  have hr := MH_r h
  have hs := MH_s h
  obtain ⟨f1, hf1⟩ : ∃ f1 : Nat → Int32, f1 = va_up (va_up (va_up (va_up (va_up (hI h 67) 0 0) 3 (nI len)) 2 0) 4 0) 15 0 := ⟨_, rfl⟩
  have g3 : f1 3 = nI len := by rw [hf1]; rfl
  have g4 : f1 4 = nI 0 := by rw [hf1]; rfl
  have g2 : f1 2 = 0 := by rw [hf1]; rfl
  have g15 : f1 15 = 0 := by rw [hf1]; rfl
  have gS : ∀ k, ¬ mnS k → f1 k = hI h 67 k := fun k hk => by
    unfold mnS at hk
    rw [hf1, up_at, if_neg (by omega), up_at, if_neg (by omega), up_at, if_neg (by omega), up_at, if_neg (by omega), up_at, if_neg (by omega)]
  have fgS : ∀ f', FG f1 f' → ∀ k, ¬ mnS k → f' k = hI h 67 k := fun f' fg k hk => by
    have hk' := hk
    unfold mnS at hk'
    rw [fg k (by omega) (by omega) (by omega) (by omega) (by omega) (by omega) (by omega)]
    exact gS k hk
  rw [← MH_id h, we167]
  simp only [w167_a, hr, hs, ms, mz, s149m ms, vu2, h2, zz]
  rw [show va_up (va_up (va_up (va_up (va_up (hI h 67) 0 0) 3 (nI len)) 2 0) 4 0) 15 0 = f1 from hf1.symm]
  have kp0 : MKp (hI h 70) (hI h 71) (hI h 72) (hI h 73) (hI h 74) (hJ h 69) (hI h 70) (hI h 71) (va_up (hI h 72) 1 0) (va_up (hI h 73) 1 0) (hI h 74) (hJ h 69) := ⟨KI.rf, KI.rf, KI.rf, KJ.rf, rfl, rfl⟩
  refine s156 ms tb hl (Nat.zero_le _) g3 g4 fun f2 j2 mt2 ff2 jj2 => ?_
  have f2_2 : f2 2 = 0 := (ff2 2 (by decide) (by decide) (by decide) (by decide) (by decide)).trans g2
  have f2_15 : f2 15 = 0 := (ff2 15 (by decide) (by decide) (by decide) (by decide) (by decide)).trans g15
  have go := read_m (h := h) (Q := fun r h' => WP 167 36 [.ref 67, .retAddr 0] (r.toList ++ []) h' Q) (f0 := f2) (j0 := j2) (md0 := hI h 70) (cs0 := hI h 71) (my0 := hI h 72) (wh0 := hI h 73) (rw0 := hI h 74) (nm0 := hJ h 69) ms tb hl (RS := rdN (hI h 68) len 501 d00 c00) (fun f' j' md' cs' my' wh' rw' nm' d' e dr hw ff jj kp => ?_) (fun f' j' md' cs' my' wh' rw' nm' fk c' e1 e2 hok fg jj e15 e16 kp => ?_) 501 d00 c00 f2 j2 (hI h 70) (hI h 71) (va_up (hI h 72) 1 0) (va_up (hI h 73) 1 0) (hI h 74) (hJ h 69) (.retAddr 0) (.retAddr 0) rfl (by decide) (by decide) mt2 FF.rf JJ.rf ⟨rfl, Nat.zero_le _, rfl, fun k hk => absurd hk (Nat.not_lt_zero _)⟩ (by decide) kp0
  · simp only [w167_a, w167_b, hr, ms, zz]
    rw [we163]
    exact go
  · obtain ⟨p1, p2, p3, p4⟩ := dr
    have x2 : f' 2 = 0 := (ff 2 (by decide) (by decide) (by decide) (by decide) (by decide)).trans f2_2
    have x15 : f' 15 = 0 := (ff 15 (by decide) (by decide) (by decide) (by decide) (by decide)).trans f2_15
    simp only [w167_a, w167_b, hr, hs, ms, mz, p1, p3, zz]
    have nc := net_c (h := h) (Q := Q) (n := d'.1) (f := f') (j := j') (md0 := md') (cs0 := cs') (my := va_up my' 0 (nI d'.1)) (wh := va_up wh' 0 (nI d'.2.2.2.2)) (rw0 := rw') (nm0 := nm') ms p2 rfl (fun k hk => by
      rw [(p4 k hk).2.2.2.2]
      by_cases z : d'.2.2.1 k = 0
      · rw [if_pos z]; exact Or.inr rfl
      · rw [if_neg z]; exact Or.inl rfl) (fun md cs rw nm hcp => ?_) d'.1 0 md' cs' rw' nm' rfl (Nat.zero_le _) (fun k _ => ⟨rfl, rfl, rfl, rfl⟩) (fun k hk => absurd hk (Nat.not_lt_zero _))
    · rw [nI_0] at nc
      exact nc
    · obtain ⟨-, -, -, r0, -, r1, r2, r3, r4, r5, r6, -⟩ := MH_r h f' j' md cs (va_up my' 0 (nI d'.1)) (va_up wh' 0 (nI d'.2.2.2.2)) rw nm
      refine k1 _ d' e ?_ hw (MH_mo (fgS f' (FG.tr ff2 ff.fg)) (fun k hk => (jj k hk).trans (jj2 k hk))) (by rw [r0]; exact x15) (by rw [r0]; exact x2)
      unfold MN MNt
      rw [r1, r2, r3, r4, r5, r6]
      refine ⟨⟨rfl, rfl, fun x hx => (hcp x hx).1.trans (p4 x hx).2.2.1⟩, p2, fun k hk => ?_⟩
      obtain ⟨a1, a2, a3, a4⟩ := hcp k hk
      obtain ⟨b1, b2, b3, b4, b5⟩ := p4 k hk
      exact ⟨a2.trans b4, a3.trans b5, a4.trans b1, b2⟩
  · obtain ⟨-, -, -, r0, -⟩ := MH_r h f' j' md' cs' my' wh' rw' nm'
    have x2 : f' 2 = 0 := (fg 2 (by decide) (by decide) (by decide) (by decide) (by decide) (by decide) (by decide)).trans f2_2
    simp only [w167_a, w167_b, hr, hs, ms, mz, e16, zz]
    exact k2 _ fk c' e1 e2 hok (fun d m => m.keep kp) (MH_mo (fgS f' (FG.tr ff2 fg)) (fun k hk => (jj k hk).trans (jj2 k hk))) (by rw [r0]; exact e15) (by rw [r0]; exact x2)
end Mn

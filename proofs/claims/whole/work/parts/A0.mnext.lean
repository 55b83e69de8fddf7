/-! ===== the reference's next() ===== -/
def FF (f0 f : Nat → Int32) : Prop := ∀ k, k ≠ 4 → k ≠ 11 → k ≠ 12 → k ≠ 13 → k ≠ 14 → f k = f0 k
def JJ (j0 j : Nat → Int64) : Prop := ∀ k, k ≠ 17 → j k = j0 k
theorem FF.rf {f : Nat → Int32} : FF f f := fun _ _ _ _ _ _ => rfl
theorem JJ.rf {j : Nat → Int64} : JJ j j := fun _ _ => rfl
theorem FF.trans {f g k : Nat → Int32} (a : FF f g) (b : FF g k) : FF f k := fun i h1 h2 h3 h4 h5 => (b i h1 h2 h3 h4 h5).trans (a i h1 h2 h3 h4 h5)
theorem JJ.trans {f g k : Nat → Int64} (a : JJ f g) (b : JJ g k) : JJ f k := fun i h1 => (b i h1).trans (a i h1)
theorem FF.up {f0 f : Nat → Int32} (a : FF f0 f) {k : Nat} (v : Int32) (hk : k = 4 ∨ k = 11 ∨ k = 12 ∨ k = 13 ∨ k = 14) : FF f0 (va_up f k v) := fun i h1 h2 h3 h4 h5 => by
  rw [up_at, if_neg (by omega)]
  exact a i h1 h2 h3 h4 h5
theorem JJ.up {f0 f : Nat → Int64} (a : JJ f0 f) (v : Int64) : JJ f0 (va_up f 17 v) := fun i h1 => by
  rw [up_at, if_neg h1]
  exact a i h1
/-- the reference stands at the token c -/
def MT (len : Nat) (f : Nat → Int32) (j : Nat → Int64) (c : TT) : Prop := f 3 = nI len ∧ f 12 = nI c.2.1 ∧ okT c ∧ (c.1 = 10 → f 11 = if len ≤ 500 then 0 else 4) ∧ (c.1 = 11 → f 11 = 4) ∧ (c.1 = 9 → f 11 = 3 ∧ f 14 = 59) ∧ (c.1 = 8 → f 11 = 2 ∧ f 14 = nI c.2.2.1) ∧ (c.1 ≤ 7 → f 11 = 1 ∧ j 17 = lN (w8 6 c.2.2.1) ∧ c.1 = kOf c.2.2.1 ∧ c.2.2.1 < 27 ^ 6) ∧ (c.1 ≤ 9 → f 4 = nI c.2.2.2 ∧ c.2.2.2 ≤ len)
section Nx
variable {h : AH} {md cs my wh rw : Nat → Int32} {nm : Nat → Int64} {len : Nat} {Q : Option Value → AH → Prop}
theorem lN_shl8 {a : Nat} (ha : a < 2 ^ 50) : lN a <<< ((8 : Int32).toInt64 &&& 63) = lN (a * 256) := by
  apply Int64.toBitVec_inj.mp
  rw [Int64.toBitVec_shiftLeft, show ((8 : Int32).toInt64 &&& 63).toBitVec.smod 64 = BitVec.ofNat 64 8 by decide +kernel]
  apply BitVec.eq_of_toNat_eq
  have hb : (lN a).toBitVec.toNat = a := Nat.mod_eq_of_lt (by omega)
  have h : ((lN a).toBitVec <<< BitVec.ofNat 64 8).toNat = (a * 2 ^ 8) % 2 ^ 64 := by simp only [BitVec.shiftLeft_eq', BitVec.toNat_shiftLeft, hb, Nat.shiftLeft_eq]; rfl
  exact h
theorem nx195 {f f1 : Nat → Int32} {j j1 : Nat → Int64} {i sp : Nat} {x1 x2 x3 : Int32} (ms : MS0 h) (hl : len ≤ 540) (hi : i < len) (hsp : sp ≤ 541) (h3 : f 3 = nI len) (h4 : f 4 = nI i) (h13 : f 13 = nI sp) (hf1 : f1 = if sp < 2 then va_up f 14 (10 * f 14 + (hI h 68 i &&& 255) - 48) else f) (hj1 : j1 = if sp < 6 then va_up j 17 (j 17 <<< ((8 : Int32).toInt64 &&& 63) ||| (hI h 68 i &&& 255).toInt64) else j)
    (k : WP 156 154 [.ref 67, .int x1, .int x2, .int x3] [] (MH h (va_up (va_up f1 13 (nI (sp + 1))) 4 (nI (i + 1))) j1 md cs my wh rw nm) Q) : WP 156 195 [.ref 67, .int x1, .int x2, .int x3] [] (MH h f j md cs my wh rw nm) Q := by
  have hr := MH_r h
  have hs := MH_s h
  have hpk := fun (f' : Nat → Int32) (j' : Nat → Int64) (g3 : f' 3 = nI len) (g4 : f' 4 = nI i) (Q : Option Value → AH → Prop) => s153 (h := h) (f := f') (j := j') (md := md) (cs := cs) (my := my) (wh := wh) (rw := rw) (nm := nm) (Q := Q) ms g3 g4 hl (by omega)
  have hp1 : pk1 (hI h 68) len i = hI h 68 i &&& 255 := by unfold pk1; rw [if_pos hi]
  rw [hp1] at hpk
  have e6 : ((6 : Int32) ≤ nI sp) ↔ 6 ≤ sp := nI_leI (a := 6) (by decide) (by omega)
  have e2 : ((2 : Int32) ≤ nI sp) ↔ 2 ≤ sp := nI_leI (a := 2) (by decide) (by omega)
  by_cases q6 : 6 ≤ sp
  · have q2 : 2 ≤ sp := by omega
    rw [if_neg (show ¬ sp < 2 by omega)] at hf1
    rw [if_neg (show ¬ sp < 6 by omega)] at hj1
    rw [hf1, hj1] at k
    simp only [w156_c, w156_d, hr, hs, ms, vu, h3, h4, h13, e6, e2, eq_true q6, eq_true q2, zz, nI_1]
    exact k
  · rw [if_pos (show sp < 6 by omega)] at hj1
    by_cases q2 : 2 ≤ sp
    · rw [if_neg (show ¬ sp < 2 by omega)] at hf1
      rw [hf1, hj1] at k
      simp only [w156_c, w156_d, hr, hs, ms, vu, h3, h4, h13, hpk, e6, e2, eq_false q6, eq_true q2, zz, nI_1]
      exact k
    · rw [if_pos (show sp < 2 by omega)] at hf1
      rw [hf1, hj1] at k
      simp only [w156_c, w156_d, hr, hs, ms, vu, h3, h4, h13, hpk, e6, e2, eq_false q6, eq_false q2, zz, nI_1]
      exact k
theorem w8_step {v l : Nat} (hv : v < 27 ^ 5) (h1 : 1 ≤ l) (h2 : l ≤ 26) : lN (w8 6 v) <<< ((8 : Int32).toInt64 &&& 63) ||| (nI (l + 96)).toInt64 = lN (w8 6 (v * 27 + l)) := by
  have h3 : w8 6 v < 256 ^ 5 := by rw [w8_more 5 v hv]; exact w8_lt 5 v
  rw [w8_snoc hv h1 h2, lN_shl8 (by omega), nI_l (by omega), lN_or]
  congr 1
  have h4 : w8 6 v * 2 ^ 8 ||| (l + 96) = w8 6 v * 2 ^ 8 + (l + 96) := by rw [← Nat.shiftLeft_eq, Nat.shiftLeft_add_eq_or_of_lt (show l + 96 < 2 ^ 8 by omega)]
  exact h4
/-- the run -/
theorem nx_run {a : Nat} {x1 : Int32} {f0 : Nat → Int32} {j0 : Nat → Int64} (ms : MS0 h) (tb : TpB (hI h 68)) (hl : len ≤ 540) (ha : a < len) (hcl : isLB (hI h 68 a) = true ∨ isDB (hI h 68 a) = true)
    (kk : ∀ f' j', MT len f' j' (rnT (hI h 68) len a) → FF f0 f' → JJ j0 j' → Q none (MH h f' j' md cs my wh rw nm)) :
    ∀ d pl pd f j, len - (a + pl + pd) = d → a + pl + pd ≤ len → rn (hI h 68) (len - a) a = ((rn (hI h 68) d (a + pl + pd)).1, pl + (rn (hI h 68) d (a + pl + pd)).2.1, pd + (rn (hI h 68) d (a + pl + pd)).2.2) → f 3 = nI len → f 4 = nI (a + pl + pd) → f 12 = nI a → f 13 = nI (pl + pd) → (pd = 0 → pl ≤ 6 → j 17 = lN (w8 6 (wv (hI h 68) pl a 0))) → (pl = 0 → pd ≤ 2 → f 14 = nI (nv (hI h 68) pd a 0)) → (pd = 0 → ∀ i, a ≤ i → i < a + pl → isLB (hI h 68 i) = true) → (isLB (hI h 68 a) = true → 0 < pd → 0 < pl) → (isLB (hI h 68 a) = false → 0 < pl → 0 < pd) → FF f0 f → JJ j0 j → WP 156 154 [.ref 67, .int x1, .int (if isLB (hI h 68 a) = true then 1 else 0), .int (if (isLB (hI h 68 a) = true ∧ pd = 0) ∨ (isLB (hI h 68 a) = false ∧ pl = 0) then 1 else 0)] [] (MH h f j md cs my wh rw nm) Q := by
  have hr := MH_r h
  have hs := MH_s h
  -- the end of the run
  have fin : ∀ pl pd f j, rn (hI h 68) (len - a) a = (a + pl + pd, pl, pd) → a + pl + pd ≤ len → (pk1 (hI h 68) len (a + pl + pd) = -1 ∨ (isLB (pk1 (hI h 68) len (a + pl + pd)) = false ∧ isDB (pk1 (hI h 68) len (a + pl + pd)) = false)) → 0 < pl + pd → f 3 = nI len → f 4 = nI (a + pl + pd) → f 12 = nI a → f 13 = nI (pl + pd) → (pd = 0 → pl ≤ 6 → j 17 = lN (w8 6 (wv (hI h 68) pl a 0))) → (pl = 0 → pd ≤ 2 → f 14 = nI (nv (hI h 68) pd a 0)) → (pd = 0 → ∀ i, a ≤ i → i < a + pl → isLB (hI h 68 i) = true) → (isLB (hI h 68 a) = true → 0 < pd → 0 < pl) → (isLB (hI h 68 a) = false → 0 < pl → 0 < pd) → FF f0 f → JJ j0 j → WP 156 154 [.ref 67, .int x1, .int (if isLB (hI h 68 a) = true then 1 else 0), .int (if (isLB (hI h 68 a) = true ∧ pd = 0) ∨ (isLB (hI h 68 a) = false ∧ pl = 0) then 1 else 0)] [] (MH h f j md cs my wh rw nm) Q := by
    intro pl pd f j hrn hle hend hpos h3 h4 h12 h13 h17 h14 hlb hz1 hz2 ff jj
    have hpk := fun (f' : Nat → Int32) (j' : Nat → Int64) (g3 : f' 3 = nI len) (g4 : f' 4 = nI (a + pl + pd)) (Q : Option Value → AH → Prop) => s153 (h := h) (f := f') (j := j') (md := md) (cs := cs) (my := my) (wh := wh) (rw := rw) (nm := nm) (Q := Q) ms g3 g4 hl (by omega)
    have hend' : isLB (pk1 (hI h 68) len (a + pl + pd)) = false ∧ isDB (pk1 (hI h 68) len (a + pl + pd)) = false := by
      rcases hend with z | z
      · rw [z]; exact ⟨m1_all.1, m1_all.2.1⟩
      · exact z
    have ok := rnT_ok (t := hI h 68) (len := len) (a := a) (by omega) hl
    have e6 : (nI (pl + pd) ≤ (6 : Int32)) ↔ pl + pd ≤ 6 := nI_leI (b := 6) (by omega) (by decide)
    have e2 : (nI (pl + pd) ≤ (2 : Int32)) ↔ pl + pd ≤ 2 := nI_leI (b := 2) (by omega) (by decide)
    have hT1 : rnT (hI h 68) len a = if pd = 0 ∧ pl ≤ 6 then (kOf (wv (hI h 68) pl a 0), a, wv (hI h 68) pl a 0, a + pl + pd) else if pl = 0 ∧ pd ≤ 2 then (8, a, nv (hI h 68) pd a 0, a + pl + pd) else (11, a, 0, a + pl + pd) := by
      unfold rnT
      rw [hrn]
    have k1 := fun tk (hmt : MT len (va_up f 11 tk) j (rnT (hI h 68) len a)) => kk (va_up f 11 tk) j hmt (ff.up _ (by omega)) jj
    have bad : rnT (hI h 68) len a = (11, a, 0, a + pl + pd) → MT len (va_up f 11 4) j (rnT (hI h 68) len a) := fun e => by
      rw [e] at ok ⊢
      exact ⟨h3, h12, ok, fun z => (by cases z), fun _ => rfl, fun z => (by cases z), fun z => (by cases z), fun z => absurd z (by show ¬ 11 ≤ 7; decide), fun z => absurd z (by show ¬ 11 ≤ 9; decide)⟩
    rw [w156_154]
    by_cases qa : isLB (hI h 68 a) = true
    · have hpl : 0 < pl := by
        rcases Nat.eq_zero_or_pos pd with z | z
        · omega
        · exact hz1 qa z
      by_cases qp : pd = 0
      · rw [if_pos qa, if_pos (Or.inl ⟨qa, qp⟩)]
        by_cases q6 : pl + pd ≤ 6
        · have e : rnT (hI h 68) len a = (kOf (wv (hI h 68) pl a 0), a, wv (hI h 68) pl a 0, a + pl + pd) := by rw [hT1, if_pos ⟨qp, by omega⟩]
          have hw : wv (hI h 68) pl a 0 < 1 * 27 ^ pl := wv_lt pl a 0 1 (by decide) (fun i h1 h2 => hlb qp i h1 h2)
          have hpw : (27 : Nat) ^ pl ≤ 27 ^ 6 := Nat.pow_le_pow_right (by decide) (by omega)
          have hko := kOf_le (wv (hI h 68) pl a 0)
          simp only [w156_b, w156_c, w156_d, hr, hs, ms, mz, vu, hpk, h3, h4, h13, s154, s155, hend', if_false, if_true, e6, eq_true q6, zz]
          refine k1 1 ?_
          rw [e] at ok ⊢
          exact ⟨h3, h12, ok, fun z => absurd z (by show ¬ kOf _ = 10; omega), fun z => absurd z (by show ¬ kOf _ = 11; omega), fun z => absurd z (by show ¬ kOf _ = 9; omega), fun z => absurd z (by show ¬ kOf _ = 8; omega), fun _ => ⟨rfl, h17 qp (by omega), rfl, by show wv _ _ _ _ < _; omega⟩, fun _ => ⟨h4, hle⟩⟩
        · have e : rnT (hI h 68) len a = (11, a, 0, a + pl + pd) := by rw [hT1, if_neg (by omega), if_neg (by omega)]
          simp only [w156_b, w156_c, w156_d, hr, hs, ms, mz, vu, hpk, h3, h4, h13, s154, s155, hend', if_false, if_true, e6, eq_false q6, zz]
          exact k1 4 (bad e)
      · have e : rnT (hI h 68) len a = (11, a, 0, a + pl + pd) := by rw [hT1, if_neg (by omega), if_neg (by omega)]
        rw [if_pos qa, if_neg (fun z => by
          rcases z with z | z
          · exact qp z.2
          · rw [qa] at z; cases z.1)]
        simp only [w156_b, w156_c, w156_d, hr, hs, ms, mz, vu, hpk, h3, h4, h13, s154, s155, hend', if_false, if_true, zz]
        exact k1 4 (bad e)
    · have qa' : isLB (hI h 68 a) = false := by simpa using qa
      have hpd : 0 < pd := by
        rcases Nat.eq_zero_or_pos pl with z | z
        · omega
        · exact hz2 qa' z
      by_cases qp : pl = 0
      · rw [if_neg qa, if_pos (Or.inr ⟨qa', qp⟩)]
        by_cases q2 : pl + pd ≤ 2
        · have e : rnT (hI h 68) len a = (8, a, nv (hI h 68) pd a 0, a + pl + pd) := by rw [hT1, if_neg (by omega), if_pos ⟨qp, by omega⟩]
          simp only [w156_b, w156_c, w156_d, hr, hs, ms, mz, vu, hpk, h3, h4, h13, s154, s155, hend', if_false, if_true, e2, eq_true q2, zz]
          refine k1 2 ?_
          rw [e] at ok ⊢
          exact ⟨h3, h12, ok, fun z => (by cases z), fun z => (by cases z), fun z => (by cases z), fun _ => ⟨rfl, h14 qp (by omega)⟩, fun z => absurd z (by show ¬ 8 ≤ 7; decide), fun _ => ⟨h4, hle⟩⟩
        · have e : rnT (hI h 68) len a = (11, a, 0, a + pl + pd) := by rw [hT1, if_neg (by omega), if_neg (by omega)]
          simp only [w156_b, w156_c, w156_d, hr, hs, ms, mz, vu, hpk, h3, h4, h13, s154, s155, hend', if_false, if_true, e2, eq_false q2, zz]
          exact k1 4 (bad e)
      · have e : rnT (hI h 68) len a = (11, a, 0, a + pl + pd) := by rw [hT1, if_neg (by omega), if_neg (by omega)]
        rw [if_neg qa, if_neg (fun z => by
          rcases z with z | z
          · exact qa z.1
          · exact qp z.2)]
        simp only [w156_b, w156_c, w156_d, hr, hs, ms, mz, vu, hpk, h3, h4, h13, s154, s155, hend', if_false, if_true, zz]
        exact k1 4 (bad e)
  intro d
  induction d with
  | zero =>
    intro pl pd f j hd hle hrn h3 h4 h12 h13 h17 h14 hlb hz1 hz2 ff jj
    have hpe : a + pl + pd = len := by omega
    exact fin pl pd f j hrn hle (Or.inl (by unfold pk1; rw [if_neg (by omega)])) (by omega) h3 h4 h12 h13 h17 h14 hlb hz1 hz2 ff jj
  | succ d ih =>
    intro pl pd f j hd hle hrn h3 h4 h12 h13 h17 h14 hlb hz1 hz2 ff jj
    have hil : a + pl + pd < len := by omega
    have hp1 : pk1 (hI h 68) len (a + pl + pd) = hI h 68 (a + pl + pd) &&& 255 := by unfold pk1; rw [if_pos hil]
    obtain ⟨b1, b2, -, -, -, -, b7, b8⟩ := by_all (p := a + pl + pd) tb (by omega)
    have hrs : rn (hI h 68) (d + 1) (a + pl + pd) = if isLB (hI h 68 (a + pl + pd)) = true then ((rn (hI h 68) d (a + pl + pd + 1)).1, (rn (hI h 68) d (a + pl + pd + 1)).2.1 + 1, (rn (hI h 68) d (a + pl + pd + 1)).2.2) else if isDB (hI h 68 (a + pl + pd)) = true then ((rn (hI h 68) d (a + pl + pd + 1)).1, (rn (hI h 68) d (a + pl + pd + 1)).2.1, (rn (hI h 68) d (a + pl + pd + 1)).2.2 + 1) else (a + pl + pd, 0, 0) := rfl
    have hpk := fun (f' : Nat → Int32) (j' : Nat → Int64) (g3 : f' 3 = nI len) (g4 : f' 4 = nI (a + pl + pd)) (Q : Option Value → AH → Prop) => s153 (h := h) (f := f') (j := j') (md := md) (cs := cs) (my := my) (wh := wh) (rw := rw) (nm := nm) (Q := Q) ms g3 g4 hl (by omega)
    rw [hp1] at hpk
    obtain ⟨f1, hf1⟩ : ∃ f1, f1 = if pl + pd < 2 then va_up f 14 (10 * f 14 + (hI h 68 (a + pl + pd) &&& 255) - 48) else f := ⟨_, rfl⟩
    obtain ⟨j1, hj1⟩ : ∃ j1, j1 = if pl + pd < 6 then va_up j 17 (j 17 <<< ((8 : Int32).toInt64 &&& 63) ||| (hI h 68 (a + pl + pd) &&& 255).toInt64) else j := ⟨_, rfl⟩
    have g3 : f1 3 = nI len := by rw [hf1]; split <;> exact h3
    have g12 : f1 12 = nI a := by rw [hf1]; split <;> exact h12
    have gF : FF f0 f1 := by
      rw [hf1]
      split
      · exact ff.up _ (by omega)
      · exact ff
    have gJ : JJ j0 j1 := by
      rw [hj1]
      split
      · exact jj.up _
      · exact jj
    have gF2 : FF f0 (va_up (va_up f1 13 (nI (pl + pd + 1))) 4 (nI (a + pl + pd + 1))) := (gF.up _ (by omega)).up _ (by omega)
    by_cases ql : isLB (hI h 68 (a + pl + pd)) = true
    · rw [hrs, if_pos ql] at hrn
      have b7' := b7 ql
      obtain ⟨-, l1, l2⟩ := lv_eq ql
      rw [ql] at b1
      have hfirst : isLB (hI h 68 a) = false → 0 < pd := fun z => by
        rcases Nat.eq_zero_or_pos pl with y | y
        · rcases Nat.eq_zero_or_pos pd with y2 | y2
          · rw [y, y2] at ql
            rw [show a + 0 + 0 = a by omega, z] at ql
            cases ql
          · exact y2
        · exact hz2 z y
      have go := ih (pl + 1) pd (va_up (va_up f1 13 (nI (pl + pd + 1))) 4 (nI (a + pl + pd + 1))) j1 (by omega) (by omega) (by
        rw [hrn, show a + (pl + 1) + pd = a + pl + pd + 1 by omega]
        simp only [Prod.mk.injEq, true_and, and_true]
        omega) g3 (by rw [show a + (pl + 1) + pd = a + pl + pd + 1 by omega]; rfl) g12 (by rw [show pl + 1 + pd = pl + pd + 1 by omega]; rfl) (fun z1 z2 => by
          have e17 := h17 z1 (by omega)
          have hw : wv (hI h 68) pl a 0 < 1 * 27 ^ pl := wv_lt pl a 0 1 (by decide) (fun i h1 h2 => hlb z1 i h1 h2)
          have hpw : (27 : Nat) ^ pl ≤ 27 ^ 5 := Nat.pow_le_pow_right (by decide) (by omega)
          rw [hj1, if_pos (show pl + pd < 6 by omega)]
          show j 17 <<< ((8 : Int32).toInt64 &&& 63) ||| (hI h 68 (a + pl + pd) &&& 255).toInt64 = _
          rw [e17, b7', w8_step (v := wv (hI h 68) pl a 0) (by omega) l1 l2, wv_snoc]
          exact congrArg (fun x => lN (w8 6 (wv (hI h 68) pl a 0 * 27 + lv (hI h 68 x)))) (by omega)) (fun z => absurd z (Nat.succ_ne_zero _)) (fun z i h1 h2 => by
          by_cases y : i = a + pl + pd
          · rw [y]; exact ql
          · exact hlb z i h1 (by omega)) (fun _ _ => Nat.succ_pos _) (fun z _ => hfirst z) gF2 gJ
      by_cases qa : isLB (hI h 68 a) = true
      · rw [if_pos qa] at go ⊢
        by_cases qp : pd = 0
        · rw [if_pos (Or.inl ⟨qa, qp⟩)] at go ⊢
          have k' := nx195 ms hl hil (by omega) h3 h4 h13 hf1 hj1 go
          simp only [w156_c, w156_d, hr, hs, ms, vu, h3, h4, h13, hpk, zz] at k'
          rw [w156_154]
          simp only [w156_b, w156_c, w156_d, hr, hs, ms, mz, vu, h3, h4, h13, hpk, s154, s155, b1, if_true, if_false, zz]
          exact k'
        · have hno : ¬ ((isLB (hI h 68 a) = true ∧ pd = 0) ∨ (isLB (hI h 68 a) = false ∧ pl + 1 = 0)) := fun z => by
            rcases z with z | z
            · exact qp z.2
            · exact absurd z.2 (Nat.succ_ne_zero _)
          have hno' : ¬ ((isLB (hI h 68 a) = true ∧ pd = 0) ∨ (isLB (hI h 68 a) = false ∧ pl = 0)) := fun z => by
            rcases z with z | z
            · exact qp z.2
            · rw [qa] at z; cases z.1
          rw [if_neg hno] at go
          rw [if_neg hno']
          have k' := nx195 ms hl hil (by omega) h3 h4 h13 hf1 hj1 go
          simp only [w156_c, w156_d, hr, hs, ms, vu, h3, h4, h13, hpk, zz] at k'
          rw [w156_154]
          simp only [w156_b, w156_c, w156_d, hr, hs, ms, mz, vu, h3, h4, h13, hpk, s154, s155, b1, if_true, if_false, zz]
          exact k'
      · have qa' : isLB (hI h 68 a) = false := by simpa using qa
        have hno : ¬ ((isLB (hI h 68 a) = true ∧ pd = 0) ∨ (isLB (hI h 68 a) = false ∧ pl + 1 = 0)) := fun z => by
          rcases z with z | z
          · exact qa z.1
          · exact absurd z.2 (Nat.succ_ne_zero _)
        rw [if_neg qa] at go ⊢
        rw [if_neg hno] at go
        have k' := nx195 ms hl hil (by omega) h3 h4 h13 hf1 hj1 go
        simp only [w156_c, w156_d, hr, hs, ms, vu, h3, h4, h13, hpk, zz] at k'
        by_cases qp : pl = 0
        · rw [if_pos (Or.inr ⟨qa', qp⟩), w156_154]
          simp only [w156_b, w156_c, w156_d, hr, hs, ms, mz, vu, h3, h4, h13, hpk, s154, s155, b1, if_true, if_false, zz]
          exact k'
        · rw [if_neg (fun z => by
            rcases z with z | z
            · exact qa z.1
            · exact qp z.2), w156_154]
          simp only [w156_b, w156_c, w156_d, hr, hs, ms, mz, vu, h3, h4, h13, hpk, s154, s155, b1, if_true, if_false, zz]
          exact k'
    · have ql' : isLB (hI h 68 (a + pl + pd)) = false := by simpa using ql
      by_cases qd : isDB (hI h 68 (a + pl + pd)) = true
      · rw [hrs, if_neg ql, if_pos qd] at hrn
        have b8' := b8 qd
        have d1 := (dg_eq qd).2
        rw [ql'] at b1
        rw [qd] at b2
        have hfirst : isLB (hI h 68 a) = true → 0 < pl := fun z => by
          rcases Nat.eq_zero_or_pos pd with y | y
          · rcases Nat.eq_zero_or_pos pl with y2 | y2
            · rw [y, y2] at ql
              rw [show a + 0 + 0 = a by omega] at ql
              exact absurd z ql
            · exact y2
          · exact hz1 z y
        have go := ih pl (pd + 1) (va_up (va_up f1 13 (nI (pl + pd + 1))) 4 (nI (a + pl + pd + 1))) j1 (by omega) (by omega) (by
          rw [hrn, show a + pl + (pd + 1) = a + pl + pd + 1 by omega]
          simp only [Prod.mk.injEq, true_and, and_true]
          omega) g3 rfl g12 rfl (fun z => absurd z (Nat.succ_ne_zero _)) (fun z1 z2 => by
            have e14 := h14 z1 (by omega)
            have e1 : (10 : Int32) * nI (nv (hI h 68) pd a 0) = nI (10 * nv (hI h 68) pd a 0) := pk_mul 10 _
            have e2 : nI (10 * nv (hI h 68) pd a 0 + (dg (hI h 68 (a + pl + pd)) + 48)) - 48 = nI (nv (hI h 68) pd a 0 * 10 + dg (hI h 68 (a + pl + pd))) := by
              have := pk_sub (a := 10 * nv (hI h 68) pd a 0 + (dg (hI h 68 (a + pl + pd)) + 48)) (b := 48) (by omega)
              rw [show 10 * nv (hI h 68) pd a 0 + (dg (hI h 68 (a + pl + pd)) + 48) - 48 = nv (hI h 68) pd a 0 * 10 + dg (hI h 68 (a + pl + pd)) by omega] at this
              exact this
            rw [hf1, if_pos (show pl + pd < 2 by omega)]
            show 10 * f 14 + (hI h 68 (a + pl + pd) &&& 255) - 48 = _
            rw [e14, b8', e1, nI_add, e2, nv_snoc]
            exact congrArg (fun x => nI (nv (hI h 68) pd a 0 * 10 + dg (hI h 68 x))) (by omega)) (fun z => absurd z (Nat.succ_ne_zero _)) (fun z _ => hfirst z) (fun _ _ => Nat.succ_pos _) gF2 gJ
        by_cases qa : isLB (hI h 68 a) = true
        · have hno : ¬ ((isLB (hI h 68 a) = true ∧ pd + 1 = 0) ∨ (isLB (hI h 68 a) = false ∧ pl = 0)) := fun z => by
            rcases z with z | z
            · exact absurd z.2 (Nat.succ_ne_zero _)
            · rw [qa] at z; cases z.1
          rw [if_pos qa] at go ⊢
          rw [if_neg hno] at go
          have k' := nx195 ms hl hil (by omega) h3 h4 h13 hf1 hj1 go
          simp only [w156_c, w156_d, hr, hs, ms, vu, h3, h4, h13, hpk, zz] at k'
          by_cases qp : pd = 0
          · rw [if_pos (Or.inl ⟨qa, qp⟩), w156_154]
            simp only [w156_b, w156_c, w156_d, hr, hs, ms, mz, vu, h3, h4, h13, hpk, s154, s155, b1, b2, if_true, if_false, zz]
            exact k'
          · rw [if_neg (fun z => by
              rcases z with z | z
              · exact qp z.2
              · rw [qa] at z; cases z.1), w156_154]
            simp only [w156_b, w156_c, w156_d, hr, hs, ms, mz, vu, h3, h4, h13, hpk, s154, s155, b1, b2, if_true, if_false, zz]
            exact k'
        · have qa' : isLB (hI h 68 a) = false := by simpa using qa
          rw [if_neg qa] at go ⊢
          by_cases qp : pl = 0
          · rw [if_pos (Or.inr ⟨qa', qp⟩)] at go ⊢
            have k' := nx195 ms hl hil (by omega) h3 h4 h13 hf1 hj1 go
            simp only [w156_c, w156_d, hr, hs, ms, vu, h3, h4, h13, hpk, zz] at k'
            rw [w156_154]
            simp only [w156_b, w156_c, w156_d, hr, hs, ms, mz, vu, h3, h4, h13, hpk, s154, s155, b1, b2, if_true, if_false, zz]
            exact k'
          · have hno : ∀ e : Nat, ¬ ((isLB (hI h 68 a) = true ∧ e = 0) ∨ (isLB (hI h 68 a) = false ∧ pl = 0)) := fun e z => by
              rcases z with z | z
              · exact qa z.1
              · exact qp z.2
            rw [if_neg (hno _)] at go ⊢
            have k' := nx195 ms hl hil (by omega) h3 h4 h13 hf1 hj1 go
            simp only [w156_c, w156_d, hr, hs, ms, vu, h3, h4, h13, hpk, zz] at k'
            rw [w156_154]
            simp only [w156_b, w156_c, w156_d, hr, hs, ms, mz, vu, h3, h4, h13, hpk, s154, s155, b1, b2, if_true, if_false, zz]
            exact k'
      · have qd' : isDB (hI h 68 (a + pl + pd)) = false := by simpa using qd
        rw [hrs, if_neg ql, if_neg qd] at hrn
        have hpos : 0 < pl + pd := by
          rcases Nat.eq_zero_or_pos (pl + pd) with y | y
          · have e : a + pl + pd = a := by omega
            rw [e] at ql qd
            rcases hcl with z | z
            · exact absurd z ql
            · exact absurd z qd
          · exact y
        exact fin pl pd f j hrn hle (Or.inr (by rw [hp1, b1, b2]; exact ⟨ql', qd'⟩)) hpos h3 h4 h12 h13 h17 h14 hlb hz1 hz2 ff jj
theorem s156 {f0 : Nat → Int32} {j0 : Nat → Int64} {p0 : Nat} (ms : MS0 h) (tb : TpB (hI h 68)) (hl : len ≤ 540) (hp : p0 ≤ len) (g3 : f0 3 = nI len) (g4 : f0 4 = nI p0)
    (kk : ∀ f' j', MT len f' j' (tok (hI h 68) len p0) → FF f0 f' → JJ j0 j' → Q none (MH h f' j' md cs my wh rw nm)) : WPM 156 [.ref 67] (MH h f0 j0 md cs my wh rw nm) Q := by
  have hr := MH_r h
  have hs := MH_s h
  have okk := tok_ok (t := hI h 68) (len := len) (at0 := p0) (by omega) hl
  have hsk := skB_le (hI h 68) (len - p0) p0
  -- no blank any more
  have stop : ∀ a f, a = skB (hI h 68) (len - p0) p0 → a ≤ len → (a < len → isBB (hI h 68 a) = false) → f 3 = nI len → f 4 = nI a → FF f0 f → WP 156 0 [.ref 67, .retAddr 0, .retAddr 0, .retAddr 0] [] (MH h f j0 md cs my wh rw nm) Q := by
    intro a f hea hal hnb h3 h4 ff
    have hpk := fun (f' : Nat → Int32) (j' : Nat → Int64) (g3 : f' 3 = nI len) (g4 : f' 4 = nI a) (Q : Option Value → AH → Prop) => s153 (h := h) (f := f') (j := j') (md := md) (cs := cs) (my := my) (wh := wh) (rw := rw) (nm := nm) (Q := Q) ms g3 g4 hl (by omega)
    have hcut := skB_cut (t := hI h 68) (min len 500 - p0) (len - p0) p0 (by omega)
    rw [← hea] at hcut hsk
    have nb : ¬ pk1 (hI h 68) len a = 32 ∧ ¬ pk1 (hI h 68) len a = 10 := by
      unfold pk1
      by_cases q : a < len
      · rw [if_pos q]
        obtain ⟨-, -, b3, b4, -⟩ := by_all (p := a) tb (by omega)
        have := hnb q
        unfold isBB at this
        rw [Bool.or_eq_false_iff, decide_eq_false_iff_not, decide_eq_false_iff_not] at this
        exact ⟨fun z => this.1 (b3.mp z), fun z => this.2 (b4.mp z)⟩
      · rw [if_neg q]
        exact ⟨m1_all.2.2.1, m1_all.2.2.2⟩
    have e5 : (nI len ≤ (500 : Int32)) ↔ len ≤ 500 := nI_leI (b := 500) (by omega) (by decide)
    have e5' : (nI a < (500 : Int32)) ↔ a < 500 := nI_ltI (b := 500) (by omega) (by decide)
    have htok : tok (hI h 68) len p0 = if min len 500 ≤ skB (hI h 68) (min len 500 - p0) p0 then (10, min len 500, 0, skB (hI h 68) (min len 500 - p0) p0) else if (hI h 68) (skB (hI h 68) (min len 500 - p0) p0) = 59 then (9, skB (hI h 68) (min len 500 - p0) p0, 0, skB (hI h 68) (min len 500 - p0) p0 + 1) else if isLB ((hI h 68) (skB (hI h 68) (min len 500 - p0) p0)) = true ∨ isDB ((hI h 68) (skB (hI h 68) (min len 500 - p0) p0)) = true then rnT (hI h 68) len (skB (hI h 68) (min len 500 - p0) p0) else (11, skB (hI h 68) (min len 500 - p0) p0, 0, skB (hI h 68) (min len 500 - p0) p0) := rfl
    by_cases qm : min len 500 ≤ a
    · -- the end
      have hge : min len 500 ≤ skB (hI h 68) (min len 500 - p0) p0 := by
        have := (skB_le (hI h 68) (min len 500 - p0) p0).1
        rcases Nat.lt_or_ge p0 (min len 500) with y | y
        · have := hcut.2 (by omega)
          omega
        · omega
      rw [if_pos hge] at htok
      generalize skB (hI h 68) (min len 500 - p0) p0 = z0 at htok
      rw [htok] at okk kk
      by_cases q5 : len ≤ 500
      · have hae : a = len := by omega
        have hp1 : pk1 (hI h 68) len a = -1 := by unfold pk1; rw [if_neg (by omega)]
        rw [hp1] at hpk
        rw [w156_0]
        simp only [w156_a, w156_b, hr, hs, ms, mz, vu, h3, h4, hpk, m1_all, e5, eq_true q5, zz]
        refine kk _ _ ⟨h3, ?_, okk, fun _ => by rw [if_pos q5]; rfl, fun z => (by cases z), fun z => (by cases z), fun z => (by cases z), fun z => absurd z (by show ¬ 10 ≤ 7; decide), fun z => absurd z (by show ¬ 10 ≤ 9; decide)⟩ (((ff.up _ (by omega)).up _ (by omega)).up _ (by omega)) JJ.rf
        show nI a = nI (min len 500)
        rw [show a = min len 500 by omega]
      · have q5' : ¬ a < 500 := by omega
        rw [w156_0]
        simp only [w156_a, w156_b, hr, hs, ms, mz, vu, h3, h4, hpk, nb, e5, eq_false q5, e5', eq_false q5', zz]
        refine kk _ _ ⟨h3, ?_, okk, fun _ => by rw [if_neg q5]; rfl, fun z => (by cases z), fun z => (by cases z), fun z => (by cases z), fun z => absurd z (by show ¬ 10 ≤ 7; decide), fun z => absurd z (by show ¬ 10 ≤ 9; decide)⟩ ((((ff.up _ (by omega)).up _ (by omega)).up _ (by omega)).up _ (by omega)) JJ.rf
        show (500 : Int32) = nI (min len 500)
        rw [show min len 500 = 500 by omega]
        rfl
    · have ez : skB (hI h 68) (min len 500 - p0) p0 = a := hcut.1 (by omega)
      rw [ez, if_neg qm] at htok
      have hal' : a < len := by omega
      have hp1 : pk1 (hI h 68) len a = hI h 68 a &&& 255 := by unfold pk1; rw [if_pos hal']
      obtain ⟨b1, b2, -, -, b5, b6, -, -⟩ := by_all (p := a) tb (by omega)
      rw [hp1] at hpk nb
      have l0 : 0 ≤ hI h 68 a &&& 255 := b6
      have hlen5 : len ≤ 500 ∨ a < 500 := by omega
      by_cases qc : isLB (hI h 68 a) = true ∨ isDB (hI h 68 a) = true
      · have q59 : ¬ hI h 68 a = 59 := fun z => by
          rw [z] at qc
          revert qc
          decide
        rw [if_neg q59, if_pos qc] at htok
        rw [htok] at kk
        have go := nx_run (h := h) (md := md) (cs := cs) (my := my) (wh := wh) (rw := rw) (nm := nm) (Q := Q) (a := a) (x1 := hI h 68 a &&& 255) (f0 := f0) (j0 := j0) ms tb hl hal' qc kk (len - a) 0 0 (va_up (va_up (va_up f 12 (nI a)) 13 0) 14 0) (va_up j0 17 0) (by omega) (by omega) (by simp) h3 h4 rfl rfl (fun _ _ => rfl) (fun _ _ => rfl) (fun _ i h1 h2 => absurd h2 (by omega)) (fun _ z => absurd z (Nat.lt_irrefl 0)) (fun _ z => absurd z (Nat.lt_irrefl 0)) (((ff.up _ (by omega)).up _ (by omega)).up _ (by omega)) (JJ.rf.up _)
        have hone : (isLB (hI h 68 a) = true ∧ (0 : Nat) = 0) ∨ (isLB (hI h 68 a) = false ∧ (0 : Nat) = 0) := by
          cases isLB (hI h 68 a)
          · exact Or.inr ⟨rfl, rfl⟩
          · exact Or.inl ⟨rfl, rfl⟩
        rw [if_pos hone] at go
        by_cases ql : isLB (hI h 68 a) = true
        · rw [ql] at b1
          rw [if_pos ql] at go
          rcases hlen5 with y | y
          · rw [w156_0]
            simp only [w156_a, w156_b, hr, hs, ms, mz, vu, h3, h4, hpk, nb, l0, e5, eq_true y, s154, s155, b1, if_true, if_false, zz]
            exact go
          · by_cases y2 : len ≤ 500
            · rw [w156_0]
              simp only [w156_a, w156_b, hr, hs, ms, mz, vu, h3, h4, hpk, nb, l0, e5, eq_true y2, s154, s155, b1, if_true, if_false, zz]
              exact go
            · rw [w156_0]
              simp only [w156_a, w156_b, hr, hs, ms, mz, vu, h3, h4, hpk, nb, l0, e5, eq_false y2, e5', eq_true y, s154, s155, b1, if_true, if_false, zz]
              exact go
        · have ql' : isLB (hI h 68 a) = false := by simpa using ql
          have qd : isDB (hI h 68 a) = true := qc.resolve_left ql
          rw [ql'] at b1
          rw [qd] at b2
          rw [if_neg ql] at go
          by_cases y2 : len ≤ 500
          · rw [w156_0]
            simp only [w156_a, w156_b, hr, hs, ms, mz, vu, h3, h4, hpk, nb, l0, e5, eq_true y2, s154, s155, b1, b2, if_true, if_false, zz]
            exact go
          · have y : a < 500 := by omega
            rw [w156_0]
            simp only [w156_a, w156_b, hr, hs, ms, mz, vu, h3, h4, hpk, nb, l0, e5, eq_false y2, e5', eq_true y, s154, s155, b1, b2, if_true, if_false, zz]
            exact go
      · have ql' : isLB (hI h 68 a) = false := by
          cases z : isLB (hI h 68 a)
          · rfl
          · exact absurd (Or.inl z) qc
        have qd' : isDB (hI h 68 a) = false := by
          cases z : isDB (hI h 68 a)
          · rfl
          · exact absurd (Or.inr z) qc
        rw [ql'] at b1
        rw [qd'] at b2
        by_cases q59 : hI h 68 a = 59
        · rw [if_pos q59] at htok
          rw [htok] at kk okk
          have k1 := kk (va_up (va_up (va_up (va_up (va_up f 12 (nI a)) 13 0) 11 3) 14 (hI h 68 a &&& 255)) 4 (nI (a + 1))) j0 ⟨h3, rfl, okk, fun z => (by cases z), fun z => (by cases z), fun _ => ⟨rfl, b5.mpr q59⟩, fun z => (by cases z), fun z => absurd z (by show ¬ 9 ≤ 7; decide), fun _ => ⟨rfl, by show a + 1 ≤ len; omega⟩⟩ (((((ff.up _ (by omega)).up _ (by omega)).up _ (by omega)).up _ (by omega)).up _ (by omega)) JJ.rf
          by_cases y2 : len ≤ 500
          · rw [w156_0]
            simp only [w156_a, w156_b, hr, hs, ms, mz, vu, h3, h4, hpk, nb, l0, e5, eq_true y2, s154, s155, b1, b2, b5, eq_true q59, if_true, if_false, zz, nI_1]
            exact k1
          · have y : a < 500 := by omega
            rw [w156_0]
            simp only [w156_a, w156_b, hr, hs, ms, mz, vu, h3, h4, hpk, nb, l0, e5, eq_false y2, e5', eq_true y, s154, s155, b1, b2, b5, eq_true q59, if_true, if_false, zz, nI_1]
            exact k1
        · rw [if_neg q59, if_neg qc] at htok
          rw [htok] at kk okk
          have k1 := kk (va_up (va_up (va_up (va_up (va_up f 12 (nI a)) 13 0) 11 4) 14 (hI h 68 a &&& 255)) 4 (nI (a + 1))) j0 ⟨h3, rfl, okk, fun z => (by cases z), fun _ => rfl, fun z => (by cases z), fun z => (by cases z), fun z => absurd z (by show ¬ 11 ≤ 7; decide), fun z => absurd z (by show ¬ 11 ≤ 9; decide)⟩ (((((ff.up _ (by omega)).up _ (by omega)).up _ (by omega)).up _ (by omega)).up _ (by omega)) JJ.rf
          by_cases y2 : len ≤ 500
          · rw [w156_0]
            simp only [w156_a, w156_b, hr, hs, ms, mz, vu, h3, h4, hpk, nb, l0, e5, eq_true y2, s154, s155, b1, b2, b5, eq_false q59, if_true, if_false, zz, nI_1]
            exact k1
          · have y : a < 500 := by omega
            rw [w156_0]
            simp only [w156_a, w156_b, hr, hs, ms, mz, vu, h3, h4, hpk, nb, l0, e5, eq_false y2, e5', eq_true y, s154, s155, b1, b2, b5, eq_false q59, if_true, if_false, zz, nI_1]
            exact k1
  have lp : ∀ d a f, len - a = d → a ≤ len → skB (hI h 68) (len - p0) p0 = skB (hI h 68) d a → f 3 = nI len → f 4 = nI a → FF f0 f → WP 156 0 [.ref 67, .retAddr 0, .retAddr 0, .retAddr 0] [] (MH h f j0 md cs my wh rw nm) Q := by
    intro d
    induction d with
    | zero =>
      intro a f hd ha he h3 h4 ff
      exact stop a f he.symm ha (fun z => absurd z (by omega)) h3 h4 ff
    | succ d ih =>
      intro a f hd ha he h3 h4 ff
      have hst : skB (hI h 68) (d + 1) a = if isBB (hI h 68 a) = true then skB (hI h 68) d (a + 1) else a := rfl
      by_cases q : isBB (hI h 68 a) = true
      · rw [if_pos q] at hst
        have hal : a < len := by omega
        have hpk := fun (f' : Nat → Int32) (j' : Nat → Int64) (g3 : f' 3 = nI len) (g4 : f' 4 = nI a) (Q : Option Value → AH → Prop) => s153 (h := h) (f := f') (j := j') (md := md) (cs := cs) (my := my) (wh := wh) (rw := rw) (nm := nm) (Q := Q) ms g3 g4 hl (by omega)
        have hp1 : pk1 (hI h 68) len a = hI h 68 a &&& 255 := by unfold pk1; rw [if_pos hal]
        rw [hp1] at hpk
        obtain ⟨-, -, b3, b4, -⟩ := by_all (p := a) tb (by omega)
        have go := ih (a + 1) (va_up f 4 (nI (a + 1))) (by omega) (by omega) (he.trans hst) h3 rfl (ff.up _ (by omega))
        unfold isBB at q
        rw [Bool.or_eq_true, decide_eq_true_eq, decide_eq_true_eq] at q
        rw [w156_0]
        by_cases q1 : hI h 68 a = 32
        · simp only [w156_a, hr, hs, ms, vu, h3, h4, hpk, b3, eq_true q1, zz, nI_1]
          exact go
        · simp only [w156_a, hr, hs, ms, vu, h3, h4, hpk, b3, eq_false q1, b4, eq_true (q.resolve_left q1), zz, nI_1]
          exact go
      · rw [if_neg q] at hst
        exact stop a f (he.trans hst).symm ha (fun _ => by simpa using q) h3 h4 ff
  rw [we156]
  exact lp (len - p0) p0 f0 rfl hp rfl g3 g4 FF.rf
end Nx

/-! ===== the reference's ready ===== -/
section Rdy
variable {h h1 h2 : AH} {n w wi b : Nat} {P : Nat → Nat} {Q : Option Value → AH → Prop}
theorem MF.back {a k : Nat} {v u : Int32} (h67 : a ≠ 67) (m : MF (sI h1 a k v) h2) (hu : u = hI h1 a k) : MF h1 (sI h2 a k u) := by
  refine ⟨m.1, m.2.1, m.2.2.1, m.2.2.2.1, m.2.2.2.2.1, fun x j hx hj => ?_, m.2.2.2.2.2.2⟩
  rw [hI_sI]
  by_cases q3 : x = a ∧ j = k
  · rw [if_pos q3, hu, q3.1, q3.2]
  · rw [if_neg q3, m.2.2.2.2.2.1 x j hx hj, hI_sI, if_neg q3]
theorem FE.minB {r : Int32} (po : PartsOK n P) (hwi : wi < 2 ^ n) (h : FE (actsOf n P w) (2 ^ n) w wi 14 r) : ∃ c, r = nI c ∧ c ≤ n ∧ MinB n P w wi c := by
  rcases h with ⟨rfl, h⟩ | ⟨c, rfl, h1, h2, h3⟩
  · exact absurd (endAtN po hwi) (h n po.1)
  · refine ⟨c, rfl, ?_, ?_⟩
    · rcases Nat.lt_or_ge n c with q | q
      · exact absurd (endAtN po hwi) (h3 n q)
      · exact q
    · unfold MinB
      rw [actsOf_mod]
      exact ⟨h2, h3⟩
theorem s208 (ms : MS0 h) (nt : MNt h n P wi) (hraw : ∀ x, x < n → hI h 74 x = if P x = 0 then 1 else 0) (po : PartsOK n P) (hn0 : 0 < n) (hw : w < 8) (hw0 : 0 < wi) (hwi : wi < 2 ^ n)
    (k : ∀ h' r c, RdK n P w wi n c r → MF h h' → Q (some (.int r)) h') : WPM 208 [.ref 67, .int (nI w)] h Q := by
  have hn := po.1
  have lp : ∀ d kk c r h1 x5 x6, n - kk = d → kk ≤ n → RdK n P w wi kk c r → c ≤ 14 → MF h h1 → WP 208 27 [.ref 67, .int (nI w), .int (nI c), .int r, .int (nI kk), x5, x6] [] h1 Q := by
    intro d
    induction d with
    | zero =>
      intro kk c r h1 x5 x6 hd hk rd hc mf
      have hkn : kk = n := by omega
      subst hkn
      have hle : nI kk ≤ nI kk := nI_le (Nat.le_refl _) (by omega)
      have ms1 := mf.ms ms
      have n0 := (mf.nt nt).1
      rw [w208_27]
      simp only [w208_a, w208_b, ms1, mz, n0, hle, zz]
      exact k h1 r c rd mf
    | succ d ih =>
      intro kk c r h1 x5 x6 hd hk rd hc mf
      have hkn : kk < n := by omega
      have hle : ¬ nI n ≤ nI kk := nI_ge hkn (by omega)
      have ms1 := mf.ms ms
      have nt1 := mf.nt nt
      have n0 := nt1.1
      have c1 : (nI kk).toNatClampNeg = kk := nI_clamp (by omega)
      have i1 : inb (nI kk) 28 = true := inb_nI (by omega) (by decide)
      have hr1 : hI h1 74 kk = if P kk = 0 then 1 else 0 := by
        rw [mf.row (by unfold mfA; omega) (by decide)]
        exact hraw kk hkn
      rw [w208_27]
      by_cases q : P kk = 0
      · rw [if_pos q] at hr1
        simp only [w208_a, w208_b, ms1, mz, n0, hle, c1, i1, hr1, zz, nI_1]
        exact ih (kk + 1) c r h1 _ _ (by omega) (by omega) ⟨c, r, rd, by rw [if_pos q]; exact ⟨rfl, rfl⟩⟩ hc mf
      · rw [if_neg q] at hr1
        have m0 := nt1.2.2 kk hkn
        simp only [w208_a, w208_b, ms1, mz, n0, hle, c1, i1, hr1, m0, hs_sI, zz, nI_1]
        have nt2 : MNt (sI h1 70 kk 0) n (buy P kk) wi := by
          refine ⟨nt1.1, nt1.2.1, fun x hx => ?_⟩
          rw [hI_sI]
          unfold buy
          by_cases qx : x = kk
          · rw [if_pos ⟨rfl, qx⟩, if_pos qx]
            rfl
          · rw [if_neg (fun z => qx z.2), if_neg qx]
            exact nt1.2.2 x hx
        refine s181 (h := sI h1 70 kk 0) ms1 nt2 (po.buy kk) hw hw0 hwi fun h2 r1 fe m => ?_
        obtain ⟨c1', rfl, hc1, mb⟩ := fe.minB (po.buy kk) hwi
        have mf2 : MF h1 (sI h2 70 kk (nI (P kk))) := m.back (by decide) m0.symm
        have ms2 := m.ms (show MS0 (sI h1 70 kk 0) from ms1)
        have hneg : ¬ nI c1' < 0 := nI_pos (by omega)
        have hneg2 : ¬ nI c < 0 := nI_pos (by omega)
        by_cases q2 : c1' < c
        · have hlt : nI c1' < nI c := nI_lt q2 (by omega)
          simp only [w208_a, w208_b, ms2, mz, c1, i1, hneg, hneg2, hlt, zz, nI_1]
          exact ih (kk + 1) c1' (nI kk) _ _ _ (by omega) (by omega) ⟨c, r, rd, by rw [if_neg q]; exact ⟨c1', mb, by rw [if_pos q2]; exact ⟨rfl, rfl⟩⟩⟩ (by omega) (mf.trans mf2)
        · have hlt : ¬ nI c1' < nI c := nI_nlt (by omega) (by omega)
          simp only [w208_a, w208_b, ms2, mz, c1, i1, hneg, hneg2, hlt, zz, nI_1]
          exact ih (kk + 1) c r _ _ _ (by omega) (by omega) ⟨c, r, rd, by rw [if_neg q]; exact ⟨c1', mb, by rw [if_neg q2]; exact ⟨rfl, rfl⟩⟩⟩ hc (mf.trans mf2)
  have q := asked_1 hw hn0 hn
  have mf : MF h (sI h 67 0 0) := MF.z
  rw [we208]
  simp only [w208_a, w208_b, ms, mz, hs_sI, s182 (mf.ms ms), e72z, nt.1, if_pos q, zz]
  refine s181 (mf.ms ms) (mf.nt nt) po hw hw0 hwi fun h' r fe m => ?_
  obtain ⟨c0, rfl, hc0, mb⟩ := fe.minB po hwi
  simp only [w208_a, w208_b, zz]
  have := lp n 0 c0 (-1) h' (.retAddr 0) (.retAddr 0) rfl (Nat.zero_le _) ⟨rfl, mb⟩ (by omega) (mf.trans m)
  rw [nI_0] at this
  exact this
theorem s208f {v : Int32} (ms : MS0 h) (h72 : hI h 72 0 = nI n) (hq : ¬ ((0 ≤ v ∧ v ≤ 7) ∧ 0 < nI n)) : WPM 208 [.ref 67, .int v] h Q ↔ Q (some (.int (-1))) (sI h 67 0 0) := by
  have mf : MF h (sI h 67 0 0) := MF.z
  rw [we208]
  simp only [w208_a, w208_b, ms, mz, hs_sI, s182 (mf.ms ms), e72z, h72, if_neg (fun z : (0 ≤ v ∧ v ≤ 7) ∧ ((1 : Int32) ≤ 1 ∧ (1 : Int32) ≤ 14) ∧ 0 < nI n => hq ⟨z.1, z.2.2⟩), zz]
end Rdy

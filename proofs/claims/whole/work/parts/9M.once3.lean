/-! ===== the reference's once, onceMany, onceAt: whole ===== -/
theorem ndN_lt2 {n wi : Nat} {P : Nat → Nat} (po : PartsOK n P) (hwi : wi < 2 ^ n) : ndN P wi n < 2 ^ n := by
  rw [← nds_nd po hwi]
  exact nds_lt po n wi (Nat.le_refl _) hwi
theorem bl_cl {n : Nat} {P : Nat → Nat} (po : PartsOK n P) : ∀ k, k < n → ∀ x, (bl P k).testBit x = true → sub (P x) (bl P k) := by
  intro k
  induction k using Nat.strongRecOn with
  | ind k ih =>
    intro hk x hx j hj
    rcases bl_bit.mp hx with z | ⟨p, p1, p2, p3⟩
    · rw [z] at hj
      exact bl_bit.mpr (Or.inr ⟨j, bit_lt po hk hj, hj, bl_self P j⟩)
    · exact bl_bit.mpr (Or.inr ⟨p, p1, p2, ih p p1 (by omega) x p3 j hj⟩)
theorem ndN_cl {n wi : Nat} {P : Nat → Nat} (po : PartsOK n P) : ∀ x, x < n → (ndN P wi n).testBit x = true → sub (P x) (ndN P wi n) := by
  intro x _ h j hj
  obtain ⟨k, k1, k2, k3⟩ := (ndN_bit n).mp h
  exact (ndN_bit n).mpr ⟨k, k1, k2, bl_cl po k k1 x k3 j hj⟩
def MOw (h : AH) (ord : List Nat) (many : Nat) : Prop := hI h 67 40 = nI ord.length ∧ hJ h 67 41 = lN many ∧ RowI (hI h 88) ord ∧ ord.length ≤ 14
def moA (a : Nat) : Prop := a = 87 ∨ a = 88
def moF (j : Nat) : Prop := j = 0 ∨ j = 39 ∨ j = 40
def moJ (a : Nat) : Prop := a = 89
def moT (j : Nat) : Prop := j = 41
section On3
variable {h : AH} {n nd wi w best : Nat} {P : Nat → Nat} {Q : Option Value → AH → Prop}
theorem s196 (ms : MS0 h) (nt : MNt h n P wi) (po : PartsOK n P) (hn0 : 0 < n) (hwi : wi < 2 ^ n) (hw : w < 2) (hnd : nd = ndN P wi n)
    (k : ∀ h', MO moA moF moJ moT h h' → MOw h' (FO n P nd wi w (LO n P nd wi w (pc nd) 0) (pc nd) 0) (PO n P nd wi w (LO n P nd wi w (pc nd) 0) (pc nd) 0) → Q (some (.int (nI (LO n P nd wi w (pc nd) 0)))) h') : WPM 196 [.ref 67, .int (nI w)] h Q := by
  have hn := po.1
  have hndl : nd < 2 ^ n := by rw [hnd]; exact ndN_lt2 po hwi
  have hcl : ∀ x, x < n → nd.testBit x = true → sub (P x) nd := by rw [hnd]; exact ndN_cl po
  have hnd9 := s_lt hn hndl
  have hK : pc nd ≤ 14 := Nat.le_trans (pc_lt hndl (by omega)) hn
  have hq := in_01 w hw
  have hne : ¬ nI n = 0 := nI_ne0 hn0 (by omega)
  have hb15 : LO n P nd wi w (pc nd) 0 ≤ 15 := LO_small po hndl hcl (pc nd) 0 Dwn.zero rk_0
  have mf : MF h (sI h 67 0 0) := MF.z
  have e72 := nt.1
  have h171 := fun Q : Option Value → AH → Prop => s171 (Q := Q) (mf.ms ms) (MF.nt mf nt) po hwi
  rw [← hnd] at h171
  rw [we196]
  simp only [w196_a, ms, mz, hs_sI, s150, if_pos hq, e72z, e72, hne, h171, zz]
  have e39 : hI (sI (sI h 67 0 0) 67 39 (nI nd)) 67 39 = nI nd := rfl
  simp only [w196_a, e39, hs_sI, ms, zz]
  have go := on_out (Q := Q) (h := sI (sI h 67 0 0) 67 39 (nI nd)) (w := w) ms nt po e39 hndl hcl hw (fun on y3 y4 y5 y6 ol => ?_) (nd + 1) (hI (sI (sI h 67 0 0) 67 39 (nI nd)) 87) (.retAddr 0) (.retAddr 0) (.retAddr 0) (.retAddr 0) (Nat.le_refl _) (fun s h1 h2 => absurd h2 (by omega))
  · rw [setI_id, mkI_s] at go
    exact go
  · have hr := hs_setI (sI (sI h 67 0 0) 67 39 (nI nd)) 87 on
    have i0 : inb 0 16384 = true := by decide +kernel
    have e87 : hI (setI (sI (sI h 67 0 0) 67 39 (nI nd)) 87 on) 87 = on := rfl
    have e39' : hI (setI (sI (sI h 67 0 0) 67 39 (nI nd)) 87 on) 67 39 = nI nd := rfl
    have hon0 : on 0 = nI (LO n P nd wi w (pc nd) 0) := by
      have := ol 0 (Nat.le_refl _) (Nat.zero_le _) Dwn.zero
      rw [rk_0] at this
      exact this
    simp only [w196_c, w196_d, hr, hs_sI, ms, mz, i0, e87, e39', hon0, zz]
    have go2 := ow_out (Q := Q) (h := setI (sI (sI h 67 0 0) 67 39 (nI nd)) 87 on) (w := w) ms nt po e39' hndl hw hb15 (fun ow z4 z5 z6 op => ?_) (nd + 1) (hJ (setI (sI (sI h 67 0 0) 67 39 (nI nd)) 87 on) 89) y4 y5 y6 (Nat.le_refl _) (fun s h1 h2 => absurd h2 (by omega))
    · rw [setJ_id, mkI_s] at go2
      exact go2
    · have hr2 := hs_setJ (setI (sI (sI h 67 0 0) 67 39 (nI nd)) 87 on) 89 ow
      have e89 : hJ (setJ (setI (sI (sI h 67 0 0) 67 39 (nI nd)) 87 on) 89 ow) 89 = ow := rfl
      have hr3 := hs_sJ (setJ (setI (sI (sI h 67 0 0) 67 39 (nI nd)) 87 on) 89 ow) 67 41 (ow 0)
      have hb := fun Q : Option Value → AH → Prop => s152 (Q := Q) (h := sJ (setJ (setI (sI (sI h 67 0 0) 67 39 (nI nd)) 87 on) 89 ow) 67 41 (ow 0)) (s := nd) (by omega)
      simp only [w196_e, w196_f, hr, hr2, hr3, hs_sI, ms, mz, i0, e89, e39', hb, zz]
      have hP0 : 0 < PO n P nd wi w (LO n P nd wi w (pc nd) 0) (pc nd) 0 := (PO_pos (by omega) (pc nd) 0).mpr (Nat.le_refl _)
      have hlen := FO_len (n := n) (P := P) (nd := nd) (wi := wi) (w := w) (pc nd) 0 hP0
      have go3 := fo_l (Q := Q) (h := sI (sJ (setJ (setI (sI (sI h 67 0 0) 67 39 (nI nd)) 87 on) 89 ow) 67 41 (ow 0)) 67 40 (nI (pc nd))) (w := w) (K := pc nd) ms nt po rfl rfl hndl hw hb15 hK op (fun f hf => ?_) (pc nd) 0 0 [] (hI (sI (sJ (setJ (setI (sI (sI h 67 0 0) 67 39 (nI nd)) 87 on) 89 ow) 67 41 (ow 0)) 67 40 (nI (pc nd))) 88) z5 z6 rfl (Nat.zero_le _) Dwn.zero rk_0 hP0 rfl rfl (RowI.nil _)
      · rw [setI_id, nI_0] at go3
        exact go3
      · refine k _ ?_ ⟨by rw [hlen]; rfl, ?_, hf, by rw [hlen]; exact hK⟩
        · have m0 : MO moA moF moJ moT h (sI h 67 0 0) := MO.rf.sI67 0 (Or.inl rfl)
          exact ((((((m0.sI67 (nI nd) (Or.inr (Or.inl rfl))).rI on (Or.inl rfl)).rJ ow rfl).sJ67 (ow 0) rfl).sI67 (nI (pc nd)) (Or.inr (Or.inr rfl)))).rI f (Or.inr rfl)
        · show ow 0 = _
          have := op 0 (Nat.le_refl _) (Nat.zero_le _) Dwn.zero
          rw [rk_0] at this
          exact this
theorem s196f {v : Int32} (ms : MS0 h) (h72 : hI h 72 0 = nI n) (hn : n ≤ 14) (hq : ¬ ((0 ≤ v ∧ v ≤ 1) ∧ 0 < nI n)) : WPM 196 [.ref 67, .int v] h Q ↔ Q (some (.int (-1))) (sI h 67 0 0) := by
  rw [we196]
  by_cases q1 : (0 : Int32) ≤ v ∧ v ≤ 1
  · have hz : nI n = 0 := by
      rcases Nat.eq_zero_or_pos n with z | z
      · rw [z]; exact nI_0
      · exact absurd ⟨q1, nI_lt (a := 0) z (by omega)⟩ hq
    simp only [w196_a, ms, mz, hs_sI, s150, if_pos q1, e72z, h72, hz, zz]
  · simp only [w196_a, ms, mz, hs_sI, s150, if_neg q1, zz]
theorem s197 (ms : MS0 h) : WPM 197 [.ref 67] h Q ↔ Q (some (.long (hJ h 67 41))) (sI h 67 0 0) := by
  simp only [we197, w197, ms, hs_sI]
theorem s198 {ord : List Nat} {many : Nat} (ms : MS0 h) (mr : MOw h ord many) (v : Int32) : WPM 198 [.ref 67, .int v] h Q ↔ Q (some (.int (atR ord v))) (sI h 67 0 0) := by
  obtain ⟨r1, r2, r3, r4⟩ := mr
  have e40 : hI (sI h 67 0 0) 67 40 = nI ord.length := r1
  have e88 : hI (sI h 67 0 0) 88 = hI h 88 := rfl
  rw [we198]
  rcases atR_cases ord (by omega) v with ⟨i, x, rfl, hx, hil, ha⟩ | ⟨q, ha⟩
  · have c1 : (nI i).toNatClampNeg = i := nI_clamp (by omega)
    have i1 : inb (nI i) 14 = true := inb_nI (by omega) (by decide)
    have hq := ix_t hil (show ord.length < 2 ^ 30 by omega)
    rw [ha]
    simp only [w198, ms, hs_sI, e40, e88, s150, if_pos hq, c1, i1, r3 i x hx, mz, zz]
  · have hq := ix_f (show ord.length < 2 ^ 30 by omega) q
    rw [ha]
    simp only [w198, ms, hs_sI, e40, s150, if_neg hq, mz, zz]
end On3

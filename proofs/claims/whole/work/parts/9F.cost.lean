/-! ===== the reference's times, cost ===== -/
section Co
variable {h h1 : AH} {n w wi b : Nat} {P C : Nat → Nat} {Q : Option Value → AH → Prop}
theorem ML.lay {k : Nat} {ar : Nat → Int32} : ML h (LHp h w b k ar) := (LHp_mo h w b k ar).mono (fun _ q => Or.inl q) (fun _ q => Or.inr (by omega)) (fun _ q => q) (fun _ q => q)
theorem ML.z : ML h (sI h 67 0 0) := MO.rf.sI67 0 (Or.inl rfl)
theorem ML.w84 (m : ML h h1) (f : Nat → Int32) : ML h (setI h1 84 f) := m.rI f (Or.inr (Or.inr (Or.inl rfl)))
theorem ML.nt (m : ML h h1) (nt : MNt h n P wi) : MNt h1 n P wi := nt.mo m (by unfold mlA; omega) (by unfold mlA; omega) (by unfold mlA; omega)
theorem prW_none (C : Nat → Nat) : prW C = prA C none := by
  funext a
  unfold prW prA prO
  rfl
theorem prW_some (C : Nat → Nat) (kk : Nat) : prW (fun y => if y = kk then 1 else 0) = prA C (some kk) := by
  funext a
  unfold prW prA prO
  rfl
theorem cost_w (ms1 : MS0 h1) (nt1 : MNt h1 n P wi) (po : PartsOK n P) (wb : MWB h1 w b) (ac : MAc h1 (actsOf n P w)) (hwi : wi < 2 ^ n) (hC : ∀ x, x < n → hI h1 71 x = nI (C x) ∧ C x ≤ 99)
    (k : ∀ r f fa rg wt, LC (actsOf n P w) (2 ^ n) b (prW C) (isEndB w wi) r → Q (some (.int r)) (LgH (setI h1 84 f) fa rg wt)) :
    ∀ d x f, 14 - x = d → x ≤ 14 → (∀ y, y < x → f y = hI h1 71 y) → WP 189 25 [.ref 67, .int (nI w), .int (nI b), .int (nI x)] [] (setI h1 84 f) Q := by
  have hn := po.1
  have hr := hs_setI h1 84
  have e71 : ∀ f, hI (setI h1 84 f) 71 = hI h1 71 := fun f => rfl
  intro d
  induction d with
  | zero =>
    intro x f hd hx hf
    have hle : (14 : Int32) ≤ nI x := nI_le (a := 14) (by omega) (by omega)
    rw [w189_25]
    simp only [w189, hle, hr, ms1, zz]
    refine s187 (h := setI h1 84 f) (W := C) ms1 nt1 po wb ac hwi (fun y hy => ?_) (fun r fa rg wt hlc => ?_)
    · rw [hI_setI, if_pos rfl, hf y (by omega)]
      exact hC y hy
    · simp only [w189, zz]
      exact k r f fa rg wt hlc
  | succ d ih =>
    intro x f hd hx hf
    have hle : ¬ (14 : Int32) ≤ nI x := nI_ge (b := 14) (by omega) (by decide)
    have c1 : (nI x).toNatClampNeg = x := nI_clamp (by omega)
    have i1 : inb (nI x) 28 = true := inb_nI (by omega) (by decide)
    have i2 : inb (nI x) 14 = true := inb_nI (by omega) (by decide)
    rw [w189_25]
    simp only [w189, hle, hr, ms1, c1, i1, i2, e71, sI_setI, zz, nI_1]
    refine ih (x + 1) _ (by omega) (by omega) (fun y hy => ?_)
    rw [up_at]
    by_cases z : y = x
    · rw [if_pos z, z]
    · rw [if_neg z]
      exact hf y (by omega)
theorem times_w {kk : Nat} (ms1 : MS0 h1) (nt1 : MNt h1 n P wi) (po : PartsOK n P) (wb : MWB h1 w b) (ac : MAc h1 (actsOf n P w)) (hwi : wi < 2 ^ n) (hk : kk < n)
    (k : ∀ r f fa rg wt, LC (actsOf n P w) (2 ^ n) b (prW (fun y => if y = kk then 1 else 0)) (isEndB w wi) r → Q (some (.int r)) (LgH (setI h1 84 f) fa rg wt)) :
    ∀ d x f, 14 - x = d → x ≤ 14 → (∀ y, y < x → f y = nI (if y = kk then 1 else 0)) → WP 188 34 [.ref 67, .int (nI kk), .int (nI w), .int (nI b), .int (nI x)] [] (setI h1 84 f) Q := by
  have hn := po.1
  have hr := hs_setI h1 84
  intro d
  induction d with
  | zero =>
    intro x f hd hx hf
    have hle : (14 : Int32) ≤ nI x := nI_le (a := 14) (by omega) (by omega)
    rw [w188_34]
    simp only [w188, hle, hr, ms1, zz]
    refine s187 (h := setI h1 84 f) (W := fun y => if y = kk then 1 else 0) ms1 nt1 po wb ac hwi (fun y hy => ?_) (fun r fa rg wt hlc => ?_)
    · rw [hI_setI, if_pos rfl, hf y (by omega)]
      refine ⟨rfl, ?_⟩
      split <;> omega
    · simp only [w188, zz]
      exact k r f fa rg wt hlc
  | succ d ih =>
    intro x f hd hx hf
    have hle : ¬ (14 : Int32) ≤ nI x := nI_ge (b := 14) (by omega) (by decide)
    have c1 : (nI x).toNatClampNeg = x := nI_clamp (by omega)
    have i2 : inb (nI x) 14 = true := inb_nI (by omega) (by decide)
    have he : (nI x = nI kk) ↔ x = kk := nI_eq (by omega) (by omega)
    rw [w188_34]
    by_cases z : x = kk
    · have he' := he.mpr z
      have hx1 := ih (x + 1) (va_up f x 1) (by omega) (by omega) (fun y hy => by
        rw [up_at]
        by_cases z2 : y = x
        · rw [if_pos z2, if_pos (by omega)]
          rfl
        · rw [if_neg z2]
          exact hf y (by omega))
      rw [← he'] at hx1 ⊢
      simp only [w188, hle, hr, ms1, c1, i2, sI_setI, zz, nI_1]
      exact hx1
    · simp only [w188, hle, hr, ms1, c1, i2, he, z, sI_setI, zz, nI_1]
      refine ih (x + 1) _ (by omega) (by omega) (fun y hy => ?_)
      rw [up_at]
      by_cases z2 : y = x
      · rw [if_pos z2, if_neg (by omega)]
        rfl
      · rw [if_neg z2]
        exact hf y (by omega)
theorem ML.ready {k : Nat} {ar : Nat → Int32} (m : ML h h1) : ML h (LHp h1 w b k ar) := m.trans ML.lay
theorem s189 (ms : MS0 h) (nt : MNt h n P wi) (po : PartsOK n P) (hC : ∀ x, x < n → hI h 71 x = nI (C x) ∧ C x ≤ 99) (hn0 : 0 < n) (hw : w < 8) (hb1 : 1 ≤ b) (hb : b ≤ 14) (hwi : wi < 2 ^ n)
    (k : ∀ h' r, LC (actsOf n P w) (2 ^ n) b (prA C none) (isEndB w wi) r → ML h h' → Q (some (.int r)) h') : WPM 189 [.ref 67, .int (nI w), .int (nI b)] h Q := by
  have q := asked_t hw hb1 hb hn0 po.1
  have ml : ML h (sI h 67 0 0) := ML.z
  rw [we189]
  simp only [w189, ms, mz, hs_sI, s182 (ml.ms ms), e72z, nt.1, if_pos q, zz]
  refine s176 (ml.ms ms) (ML.nt ml nt) po hw fun ar hra => ?_
  have ml1 : ML h (LHp (sI h 67 0 0) w b (actsOf n P w).length ar) := ml.ready
  have go := cost_w (Q := Q) (C := C) (ml1.ms ms) (ML.nt ml1 nt) po (show MWB (LHp (sI h 67 0 0) w b (actsOf n P w).length ar) w b from ⟨rfl, rfl, hw, hb⟩) (show MAc (LHp (sI h 67 0 0) w b (actsOf n P w).length ar) (actsOf n P w) from ⟨rfl, hra, (po.acts w).2.2⟩) hwi (fun x hx => by rw [ml1.row (by unfold mlA; omega) (by decide)]; exact hC x hx) (fun r f fa rg wt hlc => by rw [prW_none] at hlc; exact k _ r hlc ((ml1.w84 f).trans (LgH_mo _ fa rg wt))) 14 0 (hI (LHp (sI h 67 0 0) w b (actsOf n P w).length ar) 84) rfl (by decide) (fun y hy => absurd hy (Nat.not_lt_zero _))
  rw [setI_id, nI_0] at go
  simp only [w189, zz]
  exact go
theorem s189f {v u : Int32} (ms : MS0 h) (h72 : hI h 72 0 = nI n) (hq : ¬ ((0 ≤ v ∧ v ≤ 7) ∧ (1 ≤ u ∧ u ≤ 14) ∧ 0 < nI n)) : WPM 189 [.ref 67, .int v, .int u] h Q ↔ Q (some (.int (-2))) (sI h 67 0 0) := by
  have mf : ML h (sI h 67 0 0) := ML.z
  rw [we189]
  simp only [w189, ms, mz, hs_sI, s182 (mf.ms ms), e72z, h72, if_neg hq, zz]
theorem s188 {kk : Nat} (ms : MS0 h) (nt : MNt h n P wi) (po : PartsOK n P) (hk : kk < n) (hw : w < 8) (hb1 : 1 ≤ b) (hb : b ≤ 14) (hwi : wi < 2 ^ n)
    (k : ∀ h' r, LC (actsOf n P w) (2 ^ n) b (prA C (some kk)) (isEndB w wi) r → ML h h' → Q (some (.int r)) h') : WPM 188 [.ref 67, .int (nI kk), .int (nI w), .int (nI b)] h Q := by
  have q := asked_t hw hb1 hb (show 0 < n by omega) po.1
  have q2 := thing_t hk po.1
  have ml : ML h (sI h 67 0 0) := ML.z
  rw [we188]
  simp only [w188, ms, mz, hs_sI, s182 (ml.ms ms), s169 (ml.ms ms), e72z, nt.1, if_pos q, if_pos q2, zz]
  refine s176 (ml.ms ms) (ML.nt ml nt) po hw fun ar hra => ?_
  have ml1 : ML h (LHp (sI h 67 0 0) w b (actsOf n P w).length ar) := ml.ready
  have go := times_w (Q := Q) (ml1.ms ms) (ML.nt ml1 nt) po (show MWB (LHp (sI h 67 0 0) w b (actsOf n P w).length ar) w b from ⟨rfl, rfl, hw, hb⟩) (show MAc (LHp (sI h 67 0 0) w b (actsOf n P w).length ar) (actsOf n P w) from ⟨rfl, hra, (po.acts w).2.2⟩) hwi hk (fun r f fa rg wt hlc => by rw [prW_some C] at hlc; exact k _ r hlc ((ml1.w84 f).trans (LgH_mo _ fa rg wt))) 14 0 (hI (LHp (sI h 67 0 0) w b (actsOf n P w).length ar) 84) rfl (by decide) (fun y hy => absurd hy (Nat.not_lt_zero _))
  rw [setI_id, nI_0] at go
  simp only [w188, zz]
  exact go
theorem s188f {v u x : Int32} (ms : MS0 h) (h72 : hI h 72 0 = nI n) (hn : n ≤ 14) (hq : ¬ (((0 ≤ v ∧ v ≤ 7) ∧ (1 ≤ u ∧ u ≤ 14) ∧ 0 < nI n) ∧ 0 ≤ x ∧ x < nI n)) : WPM 188 [.ref 67, .int x, .int v, .int u] h Q ↔ Q (some (.int (-2))) (sI h 67 0 0) := by
  have mf : ML h (sI h 67 0 0) := ML.z
  rw [we188]
  by_cases q1 : (0 ≤ v ∧ v ≤ 7) ∧ (1 ≤ u ∧ u ≤ 14) ∧ 0 < nI n
  · have q2 := thing_f (v := x) hn (fun z => hq ⟨q1, z⟩)
    simp only [w188, ms, mz, hs_sI, s182 (mf.ms ms), s169 (mf.ms ms), e72z, h72, if_pos q1, if_neg q2, zz]
  · simp only [w188, ms, mz, hs_sI, s182 (mf.ms ms), e72z, h72, if_neg q1, zz]
end Co

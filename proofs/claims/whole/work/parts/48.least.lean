/-! ===== Reach.forget, leastBowls ===== -/
/-- ints that a search leaves -/
theorem CFr.keep {A J : Nat → Prop} {B M : Nat} {h h' : AH} (cf : CFr A J h h') (cw : CW B M h) {a : Nat} (ha : a < 100) (h32 : a ≠ 32 ∧ a ≠ 33 ∧ a ≠ 34) (hA : ¬ A a) : hI h' a = hI h a := by
  have d := cw.2.1
  have d1 := d.1
  have dO := d.2.2.2.2.1
  refine (cf.1.2.2.1 a (by omega)).2.2.1 ?_
  rintro (q | q | q | q)
  · exact hA q
  · omega
  · omega
  · omega
theorem NetP.cfr {A J : Nat → Prop} {B M kn n : Nat} {P : Nat → Nat} {h h' : AH} (hp : NetP h kn n P) (cf : CFr A J h h') (cw : CW B M h) (cw' : CW B M h') (hkn : kn = 4 ∨ kn = 15) (h1 : ¬ A kn) (h2 : ¬ A (kn + 3)) : NetP h' kn n P := by
  obtain ⟨q1, q2, q3, q4⟩ := hp
  refine ⟨?_, by rw [cf.keep cw (by omega) (by omega) h1]; exact q2, q3, fun x hx => by rw [cf.keep cw (by omega) (by omega) h2]; exact q4 x hx⟩
  rcases hkn with rfl | rfl
  · exact cw'.1.net4
  · exact cw'.1.net15
theorem s51 {h : AH} {Q : Option Value → AH → Prop} (h47 : hT h 47 = 7) : WPM 51 [.ref 47] h Q ↔ Q none (sI h 47 6 (-1)) := by
  simp only [we51, w51, h47]
theorem s52 {h : AH} {B M kn n w wi : Nat} {P : Nat → Nat} {Q : Option Value → AH → Prop} (cw : CW B M h) (hkn : kn = 4 ∨ kn = 15) (hp : NetP h kn n P) (po : PartsOK n P) (hw : w < 8) (rc : RC h n P) (hwi : wi < 16384)
    (k : ∀ h' r, FE (actsOf n P (w % 4)) (2 ^ n) w wi n r → CW B M h' → RC h' n P → CFr (trI h) (fun _ => False) h h' → Q (some (.int r)) h') : WPM 52 [.ref 47, .ref kn, .int (nI wi), .int (nI w)] h Q := by
  have hn14 := po.1
  have hm : 2 ^ n ∈ sizes := pow_sizes (by omega)
  have hN0 : 0 < 2 ^ n := Nat.pow_pos (by decide)
  have hN9 : 2 ^ n ≤ 16384 := p2_le (n := 14) hn14
  have h47 : hT h 47 = 7 := by simp only [cw.1]
  have d := cw.2.1
  rw [we52]
  simp only [w52, h47]
  refine s56 cw (by omega) hp po hw rc fun h1 b cw1 cf1 hA1 e6 hb rk er => ?_
  have h47' : hT h1 47 = 7 := by simp only [cw1.1]
  have hp1 := hp.cfr cf1 cw cw1 hkn (by have := d.2.2.2.2.1; unfold trI actA; omega) (by have := d.2.2.2.2.1; unfold trI actA; omega)
  have hkt : hT h1 kn = 4 := hp1.1.1
  simp only [w52, h47', hkt, hp1.2.1, Option.toList_none, List.nil_append]
  refine s58 cw1 hA1 hb rk (po.acts _) ⟨hN0, hN9⟩ hm hn14 hw hwi fun h2 r b2 fe cw2 hA2 hb2 rk2 cf2 er2 ei2 => ?_
  simp only [w52, Option.toList_some, List.cons_append, List.nil_append]
  refine k h2 r fe cw2 (Or.inr ⟨w % 4, b2, Nat.mod_lt _ (by decide), hb2, by rw [ei2 6 (by decide) (by decide)]; exact e6, rk2⟩) (cf1.trans cf2 (fun a ha q => ?_) (fun _ _ q => q))
  unfold rcI at q
  unfold trI
  omega

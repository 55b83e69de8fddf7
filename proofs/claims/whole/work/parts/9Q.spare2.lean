/-! ===== the reference's spare: what is kept ===== -/
section Sp2
variable {h : AH} {n w wi b : Nat} {P : Nat → Nat} {pl : List Nat} {Q : Option Value → AH → Prop}
theorem kp_out (ms : MS0 h) (nt : MNt h n P wi) (po : PartsOK n P) (wb : MWB h w b) (hwi : wi < 2 ^ n) (mp : MPl h pl)
    (kk : ∀ f y5 y6 y7, KpR n w wi b P pl f 0 → WP 215 211 [.ref 67, .int (nI w), .int (nI b), .int (nI (2 ^ n)), .int (-1), y5, y6, y7] [] (setI h 97 f) Q) :
    ∀ c f y5 y6 y7, c ≤ pl.length + 1 → KpR n w wi b P pl f c → WP 215 38 [.ref 67, .int (nI w), .int (nI b), .int (nI (2 ^ n)), .int (mkI c), y5, y6, y7] [] (setI h 97 f) Q := by
  have hr := hs_setI h 97
  have p3 := mp.2.2.1
  intro c
  induction c with
  | zero =>
    intro f y5 y6 y7 hc kr
    have k' := kk f y5 y6 y7 kr
    rw [w215_38]
    simp only [w215_a, w215_c, w215_d, mkI_0, mz, hr, ms, zz] at k' ⊢
    exact k'
  | succ i ih =>
    intro f y5 y6 y7 hc kr
    have hneg : ¬ nI i < 0 := nI_pos (by omega)
    rw [w215_38]
    simp only [w215_a, w215_d, mkI_s, hneg, zz]
    have go := kp_in (Q := Q) ms nt po wb hwi mp (i := i) (by omega) (fun f' z5 z6 z7 kr' => ih f' z5 z6 z7 (by omega) kr') (2 ^ n) 0 f y6 y7 rfl (Nat.zero_le _) kr (fun s' hs' => absurd hs' (Nat.not_lt_zero _))
    rw [nI_0] at go
    exact go
/-- following -/
theorem sp_l {K : Nat} (ms : MS0 h) (nt : MNt h n P wi) (po : PartsOK n P) (wb : MWB h w b) (mp : MPl h pl) (kr : KpR n w wi b P pl (hI h 97) 0) (h56 : hI h 67 56 = nI K) (hK : K ≤ 60) (hK0 : K = kp (actsOf n P w) (2 ^ n) b (isEndB w wi) pl 0)
    (kk : ∀ f, RowI f (fl (actsOf n P w) (2 ^ n) b (isEndB w wi) pl 0 0) → Q (some (.int (nI K))) (setI h 98 f)) :
    ∀ d i s m pre f y7, pl.length - i = d → i ≤ pl.length → s < 2 ^ n → pc s ≤ b → kp (actsOf n P w) (2 ^ n) b (isEndB w wi) (pl.drop i) s + m = K → fl (actsOf n P w) (2 ^ n) b (isEndB w wi) pl 0 0 = pre ++ fl (actsOf n P w) (2 ^ n) b (isEndB w wi) (pl.drop i) i s → pre.length = m → RowI f pre → WP 215 243 [.ref 67, .int (nI w), .int (nI b), .int (nI (2 ^ n)), .int (nI s), .int (nI m), .int (nI i), y7] [] (setI h 98 f) Q := by
  obtain ⟨p1, p2, p3, p4⟩ := mp
  have hn := po.1
  have hN9 : 2 ^ n ≤ 16384 := p2_le (n := 14) hn
  have hr := hs_setI h 98
  have e49 : ∀ f, hI (setI h 98 f) 67 49 = nI pl.length := fun f => p1
  have e56 : ∀ f, hI (setI h 98 f) 67 56 = nI K := fun f => h56
  have e95 : ∀ f, hI (setI h 98 f) 95 = hI h 95 := fun f => rfl
  have e97 : ∀ f, hI (setI h 98 f) 97 = hI h 97 := fun f => rfl
  have done : ∀ i s m pre (f : Nat → Int32), kp (actsOf n P w) (2 ^ n) b (isEndB w wi) (pl.drop i) s + m = K → fl (actsOf n P w) (2 ^ n) b (isEndB w wi) pl 0 0 = pre ++ fl (actsOf n P w) (2 ^ n) b (isEndB w wi) (pl.drop i) i s → RowI f pre → (pl.length ≤ i ∨ K ≤ m) → Q (some (.int (nI K))) (setI h 98 f) := fun i s m pre f h1 h2 h3 h4 => by
    refine kk f ?_
    have hz : fl (actsOf n P w) (2 ^ n) b (isEndB w wi) (pl.drop i) i s = [] := by
      rcases h4 with z | z
      · rw [List.drop_of_length_le z]
        rfl
      · have hl := fl_len (L := actsOf n P w) (N := 2 ^ n) (b := b) (e := isEndB w wi) (pl.drop i) i s (by omega)
        exact List.length_eq_zero_iff.mp (by omega)
    rw [h2, hz, List.append_nil]
    exact h3
  intro d
  induction d with
  | zero =>
    intro i s m pre f y7 hd hi hs hsp h1 h2 h3 h4
    have hle : nI pl.length ≤ nI i := nI_le (by omega) (by omega)
    rw [w215_243]
    simp only [w215_d, w215_e, hr, ms, e49, e56, hle, zz]
    exact done i s m pre f h1 h2 h4 (Or.inl (by omega))
  | succ d ih =>
    intro i s m pre f y7 hd hi hs hsp h1 h2 h3 h4
    have hil : i < pl.length := by omega
    have hle : ¬ nI pl.length ≤ nI i := nI_ge hil (by omega)
    have hmK : (nI K ≤ nI m) ↔ K ≤ m := nI_leI (by omega) (by omega)
    rw [w215_243]
    by_cases q : K ≤ m
    · simp only [w215_d, w215_e, hr, ms, e49, e56, hle, hmK, q, zz]
      exact done i s m pre f h1 h2 h4 (Or.inr q)
    · have hdr := List.drop_eq_getElem_cons hil
      have hpi := p2 i pl[i] (List.getElem?_eq_getElem hil)
      have hpN := p4 pl[i] (List.getElem_mem hil)
      generalize pl[i] = p at hdr hpi hpN
      have hlen : (p :: pl.drop (i + 1)).length ≤ 60 := by
        rw [← hdr, List.length_drop]
        omega
      have c1 : (nI i).toNatClampNeg = i := nI_clamp (by omega)
      have i1 : inb (nI i) 60 = true := inb_nI (by omega) (by decide)
      have haft := fun (f : Nat → Int32) (Q : Option Value → AH → Prop) => s178p (h := setI h 98 f) (Q := Q) ms nt po wb hpN hs hsp
      have hkc := kp_cons (L := actsOf n P w) (N := 2 ^ n) (b := b) (e := isEndB w wi) (p := p) (l := pl.drop (i + 1)) (s := s)
      have hfc : fl (actsOf n P w) (2 ^ n) b (isEndB w wi) (p :: pl.drop (i + 1)) i s = if kpU (actsOf n P w) (2 ^ n) b (isEndB w wi) p (pl.drop (i + 1)) s = true then i :: fl (actsOf n P w) (2 ^ n) b (isEndB w wi) (pl.drop (i + 1)) (i + 1) ((acN (actsOf n P w) (2 ^ n) b p s).getD 0) else fl (actsOf n P w) (2 ^ n) b (isEndB w wi) (pl.drop (i + 1)) (i + 1) s := rfl
      have hk9 : kp (actsOf n P w) (2 ^ n) b (isEndB w wi) (p :: pl.drop (i + 1)) s < 1000 := by rw [← hdr]; omega
      have hrs := kr i (Nat.zero_le _) (by omega) s hs
      have crs : (nI (16384 * i + s)).toNatClampNeg = 16384 * i + s := nI_clamp (by omega)
      have irs : inb (nI (16384 * i + s)) 999424 = true := inb_nI (by omega) (by decide)
      rw [hdr] at h1 h2 hrs
      cases hac : acN (actsOf n P w) (2 ^ n) b p s with
      | none =>
        have hu : kpU (actsOf n P w) (2 ^ n) b (isEndB w wi) p (pl.drop (i + 1)) s = false := by
          unfold kpU
          rw [hac]
        rw [hu] at hkc hfc
        simp only [Bool.false_eq_true, if_false] at hkc hfc
        simp only [w215_d, w215_e, hr, ms, mz, e49, e56, e95, hle, hmK, q, c1, i1, hpi, haft, hac, oI_none, zz, nI_1]
        exact ih (i + 1) s m pre f _ (by omega) (by omega) hs hsp (by rw [← hkc]; exact h1) (by rw [h2, hfc]) h3 h4
      | some t =>
        obtain ⟨htN, htp⟩ := acN_lt hac
        have huse := mkp_use hlen hsp hk9 hac
        have hneg : ¬ nI t < 0 := nI_pos (by omega)
        have crt : (nI (16384 * (i + 1) + t)).toNatClampNeg = 16384 * (i + 1) + t := nI_clamp (by omega)
        have irt : inb (nI (16384 * (i + 1) + t)) 999424 = true := inb_nI (by omega) (by decide)
        have hrt := kr (i + 1) (Nat.zero_le _) (by omega) t htN
        have m1 := mkp_le (L := actsOf n P w) (N := 2 ^ n) (b := b) (e := isEndB w wi) (pl.drop (i + 1)) t
        have m2 := mkp_le (L := actsOf n P w) (N := 2 ^ n) (b := b) (e := isEndB w wi) (p :: pl.drop (i + 1)) s
        have hcmp : (nI (mkp (actsOf n P w) (2 ^ n) b (isEndB w wi) (pl.drop (i + 1)) t + 1) = nI (mkp (actsOf n P w) (2 ^ n) b (isEndB w wi) (p :: pl.drop (i + 1)) s)) ↔ kpU (actsOf n P w) (2 ^ n) b (isEndB w wi) p (pl.drop (i + 1)) s = true := by
          rw [nI_eq (by omega) (by omega)]
          exact huse
        rw [hac] at hkc hfc
        by_cases qu : kpU (actsOf n P w) (2 ^ n) b (isEndB w wi) p (pl.drop (i + 1)) s = true
        · rw [if_pos qu] at hkc hfc
          change _ = kp (actsOf n P w) (2 ^ n) b (isEndB w wi) (pl.drop (i + 1)) t + 1 at hkc
          change _ = i :: fl (actsOf n P w) (2 ^ n) b (isEndB w wi) (pl.drop (i + 1)) (i + 1) t at hfc
          have c5 : (nI m).toNatClampNeg = m := nI_clamp (by omega)
          have i5 : inb (nI m) 60 = true := inb_nI (by omega) (by decide)
          simp only [w215_d, w215_e, hr, ms, mz, e49, e56, e95, e97, hle, hmK, q, c1, i1, hpi, haft, hac, oI_some, hneg, nI_1, mul_ix, crs, irs, crt, irt, hrs, hrt, hcmp, qu, c5, i5, sI_setI, zz]
          exact ih (i + 1) t (m + 1) (pre ++ [i]) _ _ (by omega) (by omega) htN htp (by omega) (by rw [h2, hfc, List.append_assoc]; rfl) (by rw [List.length_append, h3]; rfl) (by rw [← h3]; exact h4.add _)
        · rw [if_neg qu] at hkc hfc
          simp only [w215_d, w215_e, hr, ms, mz, e49, e56, e95, e97, hle, hmK, q, c1, i1, hpi, haft, hac, oI_some, hneg, nI_1, mul_ix, crs, irs, crt, irt, hrs, hrt, hcmp, qu, zz]
          exact ih (i + 1) s m pre f _ (by omega) (by omega) hs hsp (by rw [← hkc]; exact h1) (by rw [h2, hfc]) h3 h4
def mqS (j : Nat) : Prop := j = 0 ∨ j = 23 ∨ j = 24 ∨ j = 25 ∨ j = 56
def mqA' (a : Nat) : Prop := a = 79 ∨ a = 97
def mqS' (j : Nat) : Prop := j = 0 ∨ j = 23 ∨ j = 24 ∨ j = 25
/-- behind lay: over any heap -/
theorem sp_all (ms : MS0 h) (nt : MNt h n P wi) (po : PartsOK n P) (wb : MWB h w b) (hwi : wi < 2 ^ n) (mp : MPl h pl)
    (k1 : ∀ f, 1000 ≤ kp (actsOf n P w) (2 ^ n) b (isEndB w wi) pl 0 → Q (some (.int (-1))) (setI h 97 f))
    (k2 : ∀ f f', kp (actsOf n P w) (2 ^ n) b (isEndB w wi) pl 0 < 1000 → RowI f' (fl (actsOf n P w) (2 ^ n) b (isEndB w wi) pl 0 0) → Q (some (.int (nI (fl (actsOf n P w) (2 ^ n) b (isEndB w wi) pl 0 0).length))) (setI (sI (setI h 97 f) 67 56 (nI (fl (actsOf n P w) (2 ^ n) b (isEndB w wi) pl 0 0).length)) 98 f')) :
    WP 215 38 [.ref 67, .int (nI w), .int (nI b), .int (nI (2 ^ n)), .int (nI pl.length), .retAddr 0, .retAddr 0, .retAddr 0] [] h Q := by
  have p3 := mp.2.2.1
  have hN0 : 0 < 2 ^ n := Nat.pow_pos (by decide)
  have go := kp_out (Q := Q) ms nt po wb hwi mp (fun f y5 y6 y7 kr => ?_) (pl.length + 1) (hI h 97) (.retAddr 0) (.retAddr 0) (.retAddr 0) (Nat.le_refl _) (fun i h1 h2 => absurd h2 (by omega))
  · rw [setI_id, mkI_s] at go
    exact go
  · have hr := hs_setI h 97 f
    have e97 : hI (setI h 97 f) 97 = f := by rw [hI_setI, if_pos rfl]
    have i0 : inb 0 999424 = true := by decide +kernel
    have hk0 := kr 0 (Nat.le_refl _) (Nat.zero_le _) 0 hN0
    rw [List.drop_zero] at hk0
    change f 0 = _ at hk0
    have hpc0 : pc 0 ≤ b := by rw [pc_0]; exact Nat.zero_le _
    have hmk := mkp_kp (L := actsOf n P w) (N := 2 ^ n) (b := b) (e := isEndB w wi) pl 0 p3 hpc0
    have hkl := kp_le (L := actsOf n P w) (N := 2 ^ n) (b := b) (e := isEndB w wi) pl 0
    by_cases q : kp (actsOf n P w) (2 ^ n) b (isEndB w wi) pl 0 < 1000
    · rw [if_pos q] at hmk
      rw [hmk] at hk0
      have hne : ¬ nI (kp (actsOf n P w) (2 ^ n) b (isEndB w wi) pl 0) = (100 : Int32) := fun z => by
        have := nI_inj (b := 100) (by omega) (by decide) z
        omega
      have hfl := fl_len (L := actsOf n P w) (N := 2 ^ n) (b := b) (e := isEndB w wi) pl 0 0 q
      rw [hfl] at k2
      simp only [w215_c, w215_d, w215_e, hr, ms, mz, i0, e97, hk0, hne, zz]
      have go2 := sp_l (Q := Q) (h := sI (setI h 97 f) 67 56 (nI (kp (actsOf n P w) (2 ^ n) b (isEndB w wi) pl 0))) (K := kp (actsOf n P w) (2 ^ n) b (isEndB w wi) pl 0) ms nt po wb mp kr rfl (by omega) rfl (fun f' hf' => k2 f f' q hf') pl.length 0 0 0 [] (hI (sI (setI h 97 f) 67 56 (nI (kp (actsOf n P w) (2 ^ n) b (isEndB w wi) pl 0))) 98) y7 rfl (Nat.zero_le _) hN0 hpc0 rfl rfl rfl (RowI.nil _)
      rw [setI_id, nI_0] at go2
      exact go2
    · rw [if_neg q] at hmk
      rw [hmk] at hk0
      have h100 : nI 100 = (100 : Int32) := rfl
      simp only [w215_c, w215_d, w215_e, hr, ms, mz, i0, e97, hk0, h100, zz]
      exact k1 f (by omega)
theorem s215 (ms : MS0 h) (nt : MNt h n P wi) (po : PartsOK n P) (mp : MPl h pl) (hn0 : 0 < n) (hw : w < 8) (hb1 : 1 ≤ b) (hb : b ≤ 14) (hwi : wi < 2 ^ n)
    (k1 : ∀ h', 1000 ≤ kp (actsOf n P w) (2 ^ n) b (isEndB w wi) pl 0 → MO mqA' mqS' nP nP h h' → Q (some (.int (-1))) h')
    (k2 : ∀ h', kp (actsOf n P w) (2 ^ n) b (isEndB w wi) pl 0 < 1000 → MO mqA mqS nP nP h h' → MSp h' (fl (actsOf n P w) (2 ^ n) b (isEndB w wi) pl 0 0) → Q (some (.int (nI (fl (actsOf n P w) (2 ^ n) b (isEndB w wi) pl 0 0).length))) h') : WPM 215 [.ref 67, .int (nI w), .int (nI b)] h Q := by
  have q := asked_t hw hb1 hb hn0 po.1
  have hn := po.1
  have m0 : MO mqA' mqS' nP nP h (sI h 67 0 0) := MO.rf.sI67 0 (Or.inl rfl)
  have pw : (1 : Int32) <<< (nI n &&& 31) = nI (2 ^ n) := nI_pow n (by omega)
  have p1 := mp.1
  rw [we215]
  simp only [w215_a, ms, mz, hs_sI, s182 (m0.ms ms), e72z, nt.1, if_pos q, zz]
  refine s176 (h := sI h 67 0 0) ms nt po hw fun ar hra => ?_
  have m1 : MO mqA' mqS' nP nP h (LHp (sI h 67 0 0) w b (actsOf n P w).length ar) := m0.trans ((LHp_mo _ w b _ ar).mono (fun _ q => Or.inl q) (fun _ q => Or.inr (by omega)) (fun _ q => q) (fun _ q => q))
  have hr := LHp_r (sI h 67 0 0) w b (actsOf n P w).length ar
  have e72 : hI (sI h 67 0 0) 72 0 = nI n := nt.1
  have e49 : hI (LHp (sI h 67 0 0) w b (actsOf n P w).length ar) 67 49 = nI pl.length := p1
  simp only [w215_a, hr, hs_sI, ms, mz, e72, pw, e49, zz]
  refine sp_all (h := LHp (sI h 67 0 0) w b (actsOf n P w).length ar) (w := w) (b := b) (pl := pl) ms nt po ⟨rfl, rfl, hw, hb⟩ hwi mp (fun f hk => ?_) (fun f f' hk hf' => ?_)
  · exact k1 _ hk (m1.rI f (Or.inr rfl))
  · have m2 : MO mqA mqS nP nP h (LHp (sI h 67 0 0) w b (actsOf n P w).length ar) := m1.mono (fun _ q => q.elim Or.inl (fun z => Or.inr (Or.inl z))) (fun _ q => by unfold mqS' at q; unfold mqS; omega) (fun _ q => q) (fun _ q => q)
    have hle := fl_le (L := actsOf n P w) (N := 2 ^ n) (b := b) (e := isEndB w wi) pl 0 0
    refine k2 _ hk (((m2.rI f (Or.inr (Or.inl rfl))).sI67 _ (by unfold mqS; omega)).rI f' (Or.inr (Or.inr rfl))) ⟨rfl, hf', by have := mp.2.2.1; omega⟩
theorem s215f {v u : Int32} (ms : MS0 h) (h72 : hI h 72 0 = nI n) (hq : ¬ ((0 ≤ v ∧ v ≤ 7) ∧ (1 ≤ u ∧ u ≤ 14) ∧ 0 < nI n)) : WPM 215 [.ref 67, .int v, .int u] h Q ↔ Q (some (.int (-2))) (sI h 67 0 0) := by
  have mf : MF h (sI h 67 0 0) := MF.z
  rw [we215]
  simp only [w215_a, ms, mz, hs_sI, s182 (mf.ms ms), e72z, h72, if_neg hq, zz]
end Sp2

/-! ===== Shortest.search ===== -/
def RW (h : AH) (row : List Nat) (many : Nat) : Prop := hI h 50 7 = nI row.length ∧ hJ h 50 8 = lN many ∧ row.length ≤ 16384 ∧ row.length ≤ hL h (hR h 50 6) ∧ ∀ j v, row[j]? = some v → hI h (hR h 50 6) j = nI v
section Search
variable {h : AH} {B M kn n w wi b N kk : Nat} {P : Nat → Nat} {L : List Act} {e : Nat → Bool} {Q : Option Value → AH → Prop}
theorem s79 {D : Nat → Option Nat} (cw : CW B M h) (y : SY h (hR h 31 1) N L D) (ha : ActsOK L) (hN9 : N ≤ 16384) (hb9 : b < 65536) (hD : ∀ t k, D t = some k → k < 65536) (hk9 : kk ≤ 16384) (hN0 : 0 < N) (hD0 : D 0 = some kk) (hc : 0 < cnt L N b e kk 0)
    (hst : ∀ v s t a, v < kk → D s = some (v + 1) → a ∈ L → aft N b a s = some t → (D t = some v ↔ 0 < cnt L N b e v t))
    (k : ∀ h', CW B M h' → CFr (fun a => a = 50 ∨ a = hR h 50 6) (fun _ => False) h h' → hI h' 50 7 = nI kk → kk ≤ hL h' (hR h' 50 6) → (∀ j v, (fRow L N b e kk 0)[j]? = some v → hI h' (hR h' 50 6) j = nI v) → hJ h' 50 = hJ h 50 → Q none h') : WPM 79 [.ref 50, .int (nI kk), .int (nI b)] h Q := by
  obtain ⟨⟨a1, a2, a3, a4, a5⟩, ⟨l1, l2⟩, y1, y2, y3⟩ := id y
  have h100 := cw.c100
  have hb1 := cw.bl.2.1
  have hl6 := cw.ln.2.2.2.2.2
  have dT5 := cw.tg.2.2.2.2.2
  have fin : ∀ h1, CW B M h1 → Fr (fun _ => False) (fun _ => False) h h1 → CFr (fun a => a = 50) (fun _ => False) h h1 → kk ≤ hL h1 (hR h1 50 6) → (∀ a j, a < hN h → ¬ (a = 50 ∧ j = 6) → hR h1 a j = hR h a j) → (hR h1 50 6 = hR h 50 6 ∨ hN h ≤ hR h1 50 6) → WP 79 36 [.ref 50, .int (nI kk), .int (nI b), .int 0, .int 0, .retAddr 0] [] (sI h1 50 7 (nI kk)) Q := fun h1 cw1 fr1 cf1 hl1 eR hr6 => by
    have g := fr1.2.2.1
    have eI : ∀ a, a < hN h → hI h1 a = hI h a := fun a q0 => (g a q0).2.2.1 id
    have er1 : hR h1 31 1 = hR h 31 1 := eR 31 1 (by omega) (by decide)
    have o0 : OnlyI (fun a => a = 50) h1 (sI h1 50 7 (nI kk)) := OnlyI.sI (A := fun a => a = 50) OnlyI.rf _ rfl
    have cw2 : CW B M (sI h1 50 7 (nI kk)) := cw1.ofI o0
    have cf2 : CFr (fun a => a = 50 ∨ a = hR h 50 6) (fun _ => False) h (sI h1 50 7 (nI kk)) := (cf1.mono (fun _ q => Or.inl q) (fun _ q => q)).trans' (CFr.ofI o0 fun a q => Or.inl q)
    have h50 : hI (sI h1 50 7 (nI kk)) 50 7 = nI kk := by rw [hI_sI, if_pos ⟨rfl, rfl⟩]
    have e2 : ∀ a, a ≠ 50 → hI (sI h1 50 7 (nI kk)) a = hI h1 a := fun a q => hI_sI_o q
    have ys : SY (sI h1 50 7 (nI kk)) (hR h 31 1) N L D := by
      refine ⟨⟨by simp only [cw2.1], by simp only [cw2.1], by simp only [cw2.1], ?_, ?_⟩, ?_, cw2.1.acts, y2.ofI fun a q1 q2 => by rw [e2 a (by omega), eI a (by omega)], fun t ht => by rw [e2 _ (Ne.symm (cw.far (a := 50) (by decide)).2.1), eI _ hb1]; exact y3 t ht⟩
      · show hR h1 50 3 = _
        rw [eR 50 3 (by omega) (by decide)]
        exact a4
      · show hT h1 (hR h 31 1) = 100
        rw [(g (hR h 31 1) hb1).1]
        exact a5
      · show N ≤ hL h1 (hR h 31 1) ∧ hL h1 (hR h 31 1) ≤ 65536
        rw [(g (hR h 31 1) hb1).2.1]
        exact ⟨l1, l2⟩
    have hid := setI_id (sI h1 50 7 (nI kk)) (hR h1 50 6)
    rw [← hid]
    refine keep_l (r := hR h1 50 6) ys ha hN9 hb9 hD rfl cw1.tg.2.2.2.2.2 ⟨hl1, cw1.ln.2.2.2.2.2⟩ ⟨Ne.symm (cw1.far (a := 50) (by decide)).2.2.2.2.2, by rw [← er1]; exact Ne.symm cw1.ap.2.2.2.2.2.2.2.2.1, cw1.nact.2.2.2.2.2⟩ h50 hk9 hst (fun f hf => ?_) kk 0 0 _ [] _ (by omega) (Nat.zero_le _) hN0 (by rw [Nat.sub_zero]; exact hD0) (by rw [Nat.sub_zero]; exact hc) rfl (by rw [Nat.sub_zero]; rfl) (fun j v hj => by simp at hj)
    have o3 : OnlyI (fun a => a = hR h1 50 6) (sI h1 50 7 (nI kk)) (setI (sI h1 50 7 (nI kk)) (hR h1 50 6) f) := ⟨rfl, rfl, rfl, rfl, rfl, rfl, fun a q => by rw [hI_setI, if_neg q]⟩
    refine k _ (cw2.ofI o3) (cf2.trans (A1 := fun a => a = hR h1 50 6) (J1 := fun _ => False) (CFr.ofI o3 fun a q => q) (fun a ha' q => ?_) (fun _ _ q => q)) ?_ hl1 (fun j v hj => ?_) ?_
    · rcases hr6 with z | z
      · exact Or.inr (by rw [← z]; exact q)
      · omega
    · rw [hI_setI, if_neg (cw1.far (a := 50) (by decide)).2.2.2.2.2]
      exact h50
    · rw [hI_setI]
      show (if hR h1 50 6 = hR h1 50 6 then f else _) j = nI v
      rw [if_pos rfl]
      exact hf j v hj
    · show hJ h1 50 = hJ h 50
      exact (g 50 (by omega)).2.2.2 id
  rw [we79]
  by_cases hlt : hL h (hR h 50 6) < kk
  · obtain ⟨nn, hnn⟩ : ∃ nn, nn = max kk (2 * hL h (hR h 50 6)) := ⟨_, rfl⟩
    have hle : ¬ nI kk ≤ nI (hL h (hR h 50 6)) := nI_ge hlt (by omega)
    have h2 : (2 : Int32) * nI (hL h (hR h 50 6)) = nI (2 * hL h (hR h 50 6)) := pk_mul 2 _
    have hmx : (if nI kk < nI (2 * hL h (hR h 50 6)) then nI (2 * hL h (hR h 50 6)) else nI kk) = nI nn := by
      rw [hnn]
      by_cases z : kk < 2 * hL h (hR h 50 6)
      · rw [if_pos (nI_lt z (by omega)), Nat.max_eq_right (by omega)]
      · rw [if_neg (nI_nlt (by omega) (by omega)), Nat.max_eq_left (by omega)]
    have hcl : (nI nn).toNatClampNeg = nn := nI_clamp (by omega)
    have hz : (0 : Int32) ≤ nI nn := nI_pos' (by omega)
    have hN6 : nn ≤ 1048576 := by omega
    obtain ⟨h1, e1, cw1, cf1, r1, le1, t1, eR, fr1⟩ := rowS_grow (n := nn) cw (by omega) (by omega) (by omega)
    have h50n : hT (nw h 100 nn nn) 50 = 9 := by
      have hne : ¬ 50 = hN h := by omega
      rw [hT_nw, if_neg hne]; exact a1
    have h50m : hT h1 50 = 9 := by simp only [cw1.1]
    simp only [w79_a, w79_b, a1, dT5, h2, hmx, hle, hcl, hz, hN6, h50n, true_or, or_true, true_implies, not_false_eq_true, false_implies, true_and]
    rw [← e1]
    simp only [w79_a, w79_b, h50m]
    exact fin h1 cw1 fr1 cf1 (by rw [r1, le1]; omega) eR (Or.inr (by rw [r1]; exact Nat.le_refl _))
  · have hle : nI kk ≤ nI (hL h (hR h 50 6)) := nI_le (by omega) (by omega)
    simp only [w79_a, w79_b, a1, dT5, hle, true_or, or_true, true_implies, not_true_eq_false, false_implies, and_true]
    exact fin h cw Fr.rf CFr.rf (by omega) (fun _ _ _ _ => rfl) (Or.inl rfl)
/-- where the search back begins: the rows are there -/
theorem s76 (cw : CW B M h) (hkn : kn = 4 ∨ kn = 15) (hp : NetP h kn n P) (po : PartsOK n P) (hw : w < 8) (hwi : wi < 65536) (hb9 : b < 65536) (h2 : hI h kn 2 = nI wi) (hA : ActsHold h (2 ^ n) L)
    (k : ∀ h1 qu lf pa, CW B M h1 → CFr (fun _ => False) (fun _ => False) h h1 → SX h1 (hR h1 31 0) (hR h1 31 1) (hR h1 31 3) (2 ^ n) L → (hR h1 50 6 = hR h 50 6) → SRl (2 ^ n) (z00 (2 ^ n) b (isEndB w wi)) qu lf pa → Q none (SHp h1 (hR h1 31 0) (hR h1 31 1) (hR h1 31 3) qu lf pa (z00 (2 ^ n) b (isEndB w wi)).2.2.length)) : WPM 76 [.ref 50, .ref kn, .int (nI w), .int (nI b)] h Q := by
  have hn14 := po.1
  have hm1 : 2 ^ n ∈ sizes1 := pow_sizes1 (by omega)
  have hm : 2 ^ n ∈ sizes := s1_s hm1
  have hN9 : 2 ^ n ≤ 16384 := p2_le (n := 14) hn14
  have hpw : (1 : Int32) <<< (nI n &&& 31) = nI (2 ^ n) := nI_pow n (by omega)
  have a1 : hT h 50 = 9 := by simp only [cw.1]
  have a2 : hR h 50 0 = 31 := by simp only [cw.1]
  have a3 : hT h 31 = 3 := by simp only [cw.1]
  have hk0 := hp.2.1
  have hkt : hT h kn = 4 := hp.1.1
  have d := cw.2.1
  rw [we76]
  simp only [w76_a, s25 hp.1, hk0, hpw, a1, a2, a3, hkt, Option.toList_some, List.cons_append, List.nil_append]
  refine row0w cw hm fun h1 cw1 cf1 le1 eo1 => ?_
  have b1 : hT h1 50 = 9 := by simp only [cw1.1]
  have cw1' : CW B M (sR h1 50 2 (hR h1 31 0)) := cw1.setR (by decide)
  have b2 : hT (sR h1 50 2 (hR h1 31 0)) 50 = 9 := by simp only [cw1'.1]
  have b3 : hR (sR h1 50 2 (hR h1 31 0)) 50 0 = 31 := by simp only [cw1'.1]
  have b4 : hT (sR h1 50 2 (hR h1 31 0)) 31 = 3 := by simp only [cw1'.1]
  have cf1' : CFr (fun _ => False) (fun _ => False) h (sR h1 50 2 (hR h1 31 0)) := cf1.trans' (CFr.setR (by decide))
  have g1 : hR (sR h1 50 2 (hR h1 31 0)) 50 2 = hR (sR h1 50 2 (hR h1 31 0)) 31 0 := by rw [hR_sR, hR_sR, if_pos ⟨rfl, rfl⟩, if_neg (by decide)]
  have g2 : hR (sR h1 50 2 (hR h1 31 0)) 50 6 = hR h 50 6 := by rw [hR_sR, if_neg (by decide)]; exact eo1 50 6 (by have := d.1; omega) (by decide)
  have g3 : 2 ^ n ≤ hL (sR h1 50 2 (hR h1 31 0)) (hR (sR h1 50 2 (hR h1 31 0)) 31 0) := by rw [hR_sR, if_neg (by decide)]; exact le1
  simp only [w76_a, b1, b2, b3, b4, Option.toList_some, List.cons_append, List.nil_append]
  generalize sR h1 50 2 (hR h1 31 0) = h2' at *
  have d2 := cw1'.2.1
  refine row1w cw1' hm1 fun h3 cw3 cf3 le3 eo3 => ?_
  have b5 : hT h3 50 = 9 := by simp only [cw3.1]
  have cw3' : CW B M (sR h3 50 3 (hR h3 31 1)) := cw3.setR (by decide)
  have b6 : hT (sR h3 50 3 (hR h3 31 1)) 50 = 9 := by simp only [cw3'.1]
  have b7 : hR (sR h3 50 3 (hR h3 31 1)) 50 0 = 31 := by simp only [cw3'.1]
  have b8 : hT (sR h3 50 3 (hR h3 31 1)) 31 = 3 := by simp only [cw3'.1]
  have cf3' : CFr (fun _ => False) (fun _ => False) h (sR h3 50 3 (hR h3 31 1)) := (cf1'.trans' cf3).trans' (CFr.setR (by decide))
  have u1 : hR h3 31 0 = hR h2' 31 0 := eo3 31 0 (by have := d2.1; omega) (by decide)
  have g4 : hR (sR h3 50 3 (hR h3 31 1)) 50 2 = hR (sR h3 50 3 (hR h3 31 1)) 31 0 := by
    rw [hR_sR, hR_sR, if_neg (by decide), if_neg (by decide), eo3 50 2 (by have := d2.1; omega) (by decide), u1]
    exact g1
  have g5 : hR (sR h3 50 3 (hR h3 31 1)) 50 3 = hR (sR h3 50 3 (hR h3 31 1)) 31 1 := by rw [hR_sR, hR_sR, if_pos ⟨rfl, rfl⟩, if_neg (by decide)]
  have g6 : hR (sR h3 50 3 (hR h3 31 1)) 50 6 = hR h 50 6 := by rw [hR_sR, if_neg (by decide), eo3 50 6 (by have := d2.1; omega) (by decide)]; exact g2
  have g7 : 2 ^ n ≤ hL (sR h3 50 3 (hR h3 31 1)) (hR (sR h3 50 3 (hR h3 31 1)) 31 0) := by
    rw [hR_sR, if_neg (by decide), u1]
    show 2 ^ n ≤ hL h3 (hR h2' 31 0)
    rw [(cf3.1.2.2.1 (hR h2' 31 0) cw1'.bl.1).2.1]
    exact g3
  have g8 : 2 ^ n ≤ hL (sR h3 50 3 (hR h3 31 1)) (hR (sR h3 50 3 (hR h3 31 1)) 31 1) := by rw [hR_sR, if_neg (by decide)]; exact le3
  simp only [w76_a, b5, b6, b7, b8, Option.toList_some, List.cons_append, List.nil_append]
  generalize sR h3 50 3 (hR h3 31 1) = h4 at *
  have d4 := cw3'.2.1
  refine row3w cw3' hm1 fun h5 cw5 cf5 le5 eo5 => ?_
  have b9 : hT h5 50 = 9 := by simp only [cw5.1]
  have cw5' : CW B M (sR h5 50 4 (hR h5 31 3)) := cw5.setR (by decide)
  have b10 : hT (sR h5 50 4 (hR h5 31 3)) 50 = 9 := by simp only [cw5'.1]
  have cf5' : CFr (fun _ => False) (fun _ => False) h (sR h5 50 4 (hR h5 31 3)) := (cf3'.trans' cf5).trans' (CFr.setR (by decide))
  have v0 : hR h5 31 0 = hR h4 31 0 := eo5 31 0 (by have := d4.1; omega) (by decide)
  have v1 : hR h5 31 1 = hR h4 31 1 := eo5 31 1 (by have := d4.1; omega) (by decide)
  have q1 : hR (sR h5 50 4 (hR h5 31 3)) 50 2 = hR (sR h5 50 4 (hR h5 31 3)) 31 0 := by
    rw [hR_sR, hR_sR, if_neg (by decide), if_neg (by decide), eo5 50 2 (by have := d4.1; omega) (by decide), v0]
    exact g4
  have q2 : hR (sR h5 50 4 (hR h5 31 3)) 50 3 = hR (sR h5 50 4 (hR h5 31 3)) 31 1 := by
    rw [hR_sR, hR_sR, if_neg (by decide), if_neg (by decide), eo5 50 3 (by have := d4.1; omega) (by decide), v1]
    exact g5
  have q3 : hR (sR h5 50 4 (hR h5 31 3)) 50 4 = hR (sR h5 50 4 (hR h5 31 3)) 31 3 := by rw [hR_sR, hR_sR, if_pos ⟨rfl, rfl⟩, if_neg (by decide)]
  have q6 : hR (sR h5 50 4 (hR h5 31 3)) 50 6 = hR h 50 6 := by rw [hR_sR, if_neg (by decide), eo5 50 6 (by have := d4.1; omega) (by decide)]; exact g6
  have q7 : 2 ^ n ≤ hL (sR h5 50 4 (hR h5 31 3)) (hR (sR h5 50 4 (hR h5 31 3)) 31 0) := by
    rw [hR_sR, if_neg (by decide), v0]
    show 2 ^ n ≤ hL h5 (hR h4 31 0)
    rw [(cf5.1.2.2.1 (hR h4 31 0) cw3'.bl.1).2.1]
    exact g7
  have q8 : 2 ^ n ≤ hL (sR h5 50 4 (hR h5 31 3)) (hR (sR h5 50 4 (hR h5 31 3)) 31 1) := by
    rw [hR_sR, if_neg (by decide), v1]
    show 2 ^ n ≤ hL h5 (hR h4 31 1)
    rw [(cf5.1.2.2.1 (hR h4 31 1) cw3'.bl.2.1).2.1]
    exact g8
  have q9 : 2 ^ n ≤ hL (sR h5 50 4 (hR h5 31 3)) (hR (sR h5 50 4 (hR h5 31 3)) 31 3) := by rw [hR_sR, if_neg (by decide)]; exact le5
  simp only [w76_a, b9, b10, Option.toList_some, List.cons_append, List.nil_append]
  generalize sR h5 50 4 (hR h5 31 3) = h6 at *
  have x : SX h6 (hR h6 31 0) (hR h6 31 1) (hR h6 31 3) (2 ^ n) L := by
    refine ⟨⟨b10, by simp only [cw5'.1], by simp only [cw5'.1], q1, q2, q3, cw5'.tg.1, cw5'.tg.2.1, cw5'.tg.2.2.2.1⟩, ⟨q7, cw5'.ln.1, q8, cw5'.ln.2.1, q9, cw5'.ln.2.2.2.1⟩, ⟨cw5'.ap.1, Ne.symm (cw5'.far (a := 50) (by decide)).1, Ne.symm (cw5'.far (a := 50) (by decide)).2.1⟩, cw5'.nact.1, cw5'.nact.2.1, cw5'.1.acts, hA.ofI fun a z1 z2 => cf5'.keep cw (by omega) (by omega) id⟩
  have hp6 : NetP h6 kn n P := hp.cfr cf5' cw cw5' hkn id id
  have e2 : hI h6 kn 2 = nI wi := by rw [cf5'.keep cw (by omega) (by omega) id]; exact h2
  have hid : sI h6 50 5 0 = SHp h6 (hR h6 31 0) (hR h6 31 1) (hR h6 31 3) (hI h6 (hR h6 31 0)) (hI h6 (hR h6 31 1)) (hJ h6 (hR h6 31 3)) 0 := (SHp_id (Ne.symm (cw5'.far (a := 50) (by decide)).1) (Ne.symm (cw5'.far (a := 50) (by decide)).2.1)).symm
  rw [hid]
  refine starts_l x hN9 hb9 hw hwi hp6.1.1 (by omega) (cw5'.far (kn_far (j := 0) hkn (by omega))).1 (cw5'.far (kn_far (j := 0) hkn (by omega))).2.1 e2 (fun qu lf pa sr => k h6 qu lf pa cw5' cf5' x q6 sr) (2 ^ n) 0 _ _ _ rfl (Nat.zero_le _) ⟨fun j v hj => ?_, fun s hs => absurd hs (Nat.not_lt_zero _), fun s hs => ?_⟩
  · change ([] : List Nat)[j]? = some v at hj
    simp at hj
  · rw [z00_at, if_neg (fun z => absurd z.1 (Nat.not_lt_zero _))] at hs
    exact absurd rfl hs
end Search

/-! ===== the reference: bad, isWord, sign, isName, find ===== -/
theorem kOf_eq {v : Nat} : ∀ i, i < 7 → (kOf v = i ↔ v = kwf i) := by
  intro i hi
  constructor
  · intro z
    unfold kOf at z
    cases e : fnd kwf v 0 7 with
    | none => rw [e] at z; change 7 = i at z; omega
    | some k =>
      rw [e] at z
      change k = i at z
      have := (fnd_lt 7 0 k e).2.2
      rw [← z]
      exact this.symm
  · intro z
    rw [z]
    have : ∀ i, i < 7 → kOf (kwf i) = i := by decide +kernel
    exact this i hi
theorem kOf_7 {v : Nat} : kOf v = 7 ↔ ∀ i, i < 7 → ¬ v = kwf i := by
  constructor
  · intro z i hi e
    have := (kOf_eq (v := v) i hi).mpr e
    omega
  · intro z
    have h1 := kOf_le v
    rcases Nat.lt_or_ge (kOf v) 7 with y | y
    · exact absurd ((kOf_eq (v := v) (kOf v) y).mp rfl) (z _ y)
    · omega
theorem w8_lt48 (v : Nat) : w8 6 v < 2 ^ 62 := Nat.lt_of_lt_of_le (w8_lt 6 v) (by decide)
theorem kwf_lt6 : ∀ i, i < 7 → kwf i < 27 ^ 6 := by decide
theorem kw_cmp {i v : Nat} (hi : i < 7) (hv : v < 27 ^ 6) : (lg_cmp (lN (w8 6 v)) (lN (w8 6 (kwf i))) = 0) ↔ v = kwf i := by
  rw [lg_cmp_eq, lN_eqI (w8_lt48 v) (w8_lt48 _)]
  exact ⟨fun z => w8_inj 6 v _ hv (kwf_lt6 i hi) z, fun z => by rw [z]⟩
section MT1
variable {len : Nat} {f : Nat → Int32} {j : Nat → Int64} {c : TT}
theorem MT.all (mt : MT len f j c) : (c.1 ≤ 7 ∧ f 11 = 1) ∨ (c.1 = 8 ∧ f 11 = 2) ∨ (c.1 = 9 ∧ f 11 = 3) ∨ (c.1 = 10 ∧ len ≤ 500 ∧ f 11 = 0) ∨ (c.1 = 10 ∧ ¬ len ≤ 500 ∧ f 11 = 4) ∨ (c.1 = 11 ∧ f 11 = 4) := by
  obtain ⟨m1, m2, m3, m4, m5, m6, m7, m8, m9⟩ := mt
  have := m3.1
  rcases (show c.1 ≤ 7 ∨ c.1 = 8 ∨ c.1 = 9 ∨ c.1 = 10 ∨ c.1 = 11 by omega) with q | q | q | q | q
  · exact Or.inl ⟨q, (m8 q).1⟩
  · exact Or.inr (Or.inl ⟨q, (m7 q).1⟩)
  · exact Or.inr (Or.inr (Or.inl ⟨q, (m6 q).1⟩))
  · have := m4 q
    by_cases z : len ≤ 500
    · rw [if_pos z] at this
      exact Or.inr (Or.inr (Or.inr (Or.inl ⟨q, z, this⟩)))
    · rw [if_neg z] at this
      exact Or.inr (Or.inr (Or.inr (Or.inr (Or.inl ⟨q, z, this⟩))))
  · exact Or.inr (Or.inr (Or.inr (Or.inr (Or.inr ⟨q, m5 q⟩))))
theorem MT.t1 (mt : MT len f j c) : (f 11 = 1) ↔ c.1 ≤ 7 := by
  rcases mt.all with ⟨q, e⟩ | ⟨q, e⟩ | ⟨q, e⟩ | ⟨q, -, e⟩ | ⟨q, -, e⟩ | ⟨q, e⟩ <;> rw [e]
  · exact ⟨fun _ => q, fun _ => rfl⟩
  all_goals exact ⟨fun z => absurd z (by decide), fun z => by omega⟩
theorem MT.t3 (mt : MT len f j c) : (f 11 = 3) ↔ c.1 = 9 := by
  rcases mt.all with ⟨q, e⟩ | ⟨q, e⟩ | ⟨q, e⟩ | ⟨q, -, e⟩ | ⟨q, -, e⟩ | ⟨q, e⟩ <;> rw [e]
  · exact ⟨fun z => absurd z (by decide), fun z => by omega⟩
  · exact ⟨fun z => absurd z (by decide), fun z => by omega⟩
  · exact ⟨fun _ => q, fun _ => rfl⟩
  all_goals exact ⟨fun z => absurd z (by decide), fun z => by omega⟩
theorem MT.t2 (mt : MT len f j c) : (f 11 = 2) ↔ c.1 = 8 := by
  rcases mt.all with ⟨q, e⟩ | ⟨q, e⟩ | ⟨q, e⟩ | ⟨q, -, e⟩ | ⟨q, -, e⟩ | ⟨q, e⟩ <;> rw [e]
  · exact ⟨fun z => absurd z (by decide), fun z => by omega⟩
  · exact ⟨fun _ => q, fun _ => rfl⟩
  all_goals exact ⟨fun z => absurd z (by decide), fun z => by omega⟩
theorem MT.t0 (mt : MT len f j c) : (f 11 = 0) ↔ c.1 = 10 ∧ len ≤ 500 := by
  rcases mt.all with ⟨q, e⟩ | ⟨q, e⟩ | ⟨q, e⟩ | ⟨q, z, e⟩ | ⟨q, z, e⟩ | ⟨q, e⟩ <;> rw [e]
  · exact ⟨fun z => absurd z (by decide), fun z => by omega⟩
  · exact ⟨fun z => absurd z (by decide), fun z => by omega⟩
  · exact ⟨fun z => absurd z (by decide), fun z => by omega⟩
  · exact ⟨fun _ => ⟨q, z⟩, fun _ => rfl⟩
  all_goals exact ⟨fun z => absurd z (by decide), fun z => by omega⟩
end MT1
section Mw
variable {h : AH} {f : Nat → Int32} {j : Nat → Int64} {md cs my wh rw : Nat → Int32} {nm : Nat → Int64} {len : Nat} {c : TT} {Q : Option Value → AH → Prop}
theorem s157 (ms : MS0 h) (x : Int32) : WPM 157 [.ref 67, .int x] (MH h f j md cs my wh rw nm) Q ↔ Q (some (.int 0)) (MH h (va_up (va_up f 15 x) 16 (f 12)) j md cs my wh rw nm) := by
  have hr := MH_r h
  have hs := MH_s h
  simp only [we157, w157, hr, hs, ms, vu, zz]
theorem s158 {i : Nat} (ms : MS0 h) (mt : MT len f j c) (hi : i < 7) : WPM 158 [.ref 67, .long (lN (w8 6 (kwf i)))] (MH h f j md cs my wh rw nm) Q ↔ Q (some (.int (if c.1 = i then 1 else 0))) (MH h f j md cs my wh rw nm) := by
  have hr := MH_r h
  have t1 := mt.t1
  rw [we158]
  by_cases q : c.1 ≤ 7
  · obtain ⟨k1, k2, k3, k4⟩ := mt.2.2.2.2.2.2.2.1 q
    have e := kw_cmp (i := i) hi k4
    have e2 : c.1 = i ↔ c.2.2.1 = kwf i := by rw [k3]; exact kOf_eq i hi
    by_cases q2 : c.2.2.1 = kwf i
    · rw [if_pos (e2.mpr q2)]
      simp only [w158, hr, ms, k1, k2, e, eq_true q2, zz]
    · rw [if_neg (fun z => q2 (e2.mp z))]
      simp only [w158, hr, ms, k1, k2, e, eq_false q2, zz]
  · rw [if_neg (by omega)]
    simp only [w158, hr, ms, t1, q, zz]
theorem iw0 (ms : MS0 h) (mt : MT len f j c) : WPM 158 [.ref 67, .long (lN 7496055)] (MH h f j md cs my wh rw nm) Q ↔ Q (some (.int (if c.1 = 0 then 1 else 0))) (MH h f j md cs my wh rw nm) := s158 (i := 0) ms mt (by decide)
theorem iw1 (ms : MS0 h) (mt : MT len f j c) : WPM 158 [.ref 67, .long (lN 1835101029)] (MH h f j md cs my wh rw nm) Q ↔ Q (some (.int (if c.1 = 1 then 1 else 0))) (MH h f j md cs my wh rw nm) := s158 (i := 1) ms mt (by decide)
theorem iw2 (ms : MS0 h) (mt : MT len f j c) : WPM 158 [.ref 67, .long (lN 28518)] (MH h f j md cs my wh rw nm) Q ↔ Q (some (.int (if c.1 = 2 then 1 else 0))) (MH h f j md cs my wh rw nm) := s158 (i := 2) ms mt (by decide)
theorem iw3 (ms : MS0 h) (mt : MT len f j c) : WPM 158 [.ref 67, .long (lN 427071599731)] (MH h f j md cs my wh rw nm) Q ↔ Q (some (.int (if c.1 = 3 then 1 else 0))) (MH h f j md cs my wh rw nm) := s158 (i := 3) ms mt (by decide)
theorem iw4 (ms : MS0 h) (mt : MT len f j c) : WPM 158 [.ref 67, .long (lN 2003399528)] (MH h f j md cs my wh rw nm) Q ↔ Q (some (.int (if c.1 = 4 then 1 else 0))) (MH h f j md cs my wh rw nm) := s158 (i := 4) ms mt (by decide)
theorem iw5 (ms : MS0 h) (mt : MT len f j c) : WPM 158 [.ref 67, .long (lN 2002875240)] (MH h f j md cs my wh rw nm) Q ↔ Q (some (.int (if c.1 = 5 then 1 else 0))) (MH h f j md cs my wh rw nm) := s158 (i := 5) ms mt (by decide)
theorem iw6 (ms : MS0 h) (mt : MT len f j c) : WPM 158 [.ref 67, .long (lN 26990)] (MH h f j md cs my wh rw nm) Q ↔ Q (some (.int (if c.1 = 6 then 1 else 0))) (MH h f j md cs my wh rw nm) := s158 (i := 6) ms mt (by decide)
theorem s161 (ms : MS0 h) (mt : MT len f j c) : WPM 161 [.ref 67] (MH h f j md cs my wh rw nm) Q ↔ Q (some (.int (if c.1 = 7 then 1 else 0))) (MH h f j md cs my wh rw nm) := by
  have hr := MH_r h
  have t1 := mt.t1
  rw [we161]
  by_cases q : c.1 ≤ 7
  · obtain ⟨k1, k2, k3, k4⟩ := mt.2.2.2.2.2.2.2.1 q
    have e0 : (lg_cmp (lN (w8 6 c.2.2.1)) (lN 7496055) = 0) ↔ c.2.2.1 = kwf 0 := kw_cmp (i := 0) (by decide) k4
    have e1 : (lg_cmp (lN (w8 6 c.2.2.1)) (lN 1835101029) = 0) ↔ c.2.2.1 = kwf 1 := kw_cmp (i := 1) (by decide) k4
    have e2 : (lg_cmp (lN (w8 6 c.2.2.1)) (lN 28518) = 0) ↔ c.2.2.1 = kwf 2 := kw_cmp (i := 2) (by decide) k4
    have e3 : (lg_cmp (lN (w8 6 c.2.2.1)) (lN 427071599731) = 0) ↔ c.2.2.1 = kwf 3 := kw_cmp (i := 3) (by decide) k4
    have e4 : (lg_cmp (lN (w8 6 c.2.2.1)) (lN 2003399528) = 0) ↔ c.2.2.1 = kwf 4 := kw_cmp (i := 4) (by decide) k4
    have e5 : (lg_cmp (lN (w8 6 c.2.2.1)) (lN 2002875240) = 0) ↔ c.2.2.1 = kwf 5 := kw_cmp (i := 5) (by decide) k4
    have e6 : (lg_cmp (lN (w8 6 c.2.2.1)) (lN 26990) = 0) ↔ c.2.2.1 = kwf 6 := kw_cmp (i := 6) (by decide) k4
    by_cases q0 : c.2.2.1 = kwf 0
    · have hc : ¬ c.1 = 7 := fun z => by rw [k3] at z; exact kOf_7.mp z 0 (by decide) q0
      rw [if_neg hc]
      simp only [w161_a, w161_b, hr, ms, k1, k2, e0, eq_true q0, zz]
    · by_cases q1 : c.2.2.1 = kwf 1
      · have hc : ¬ c.1 = 7 := fun z => by rw [k3] at z; exact kOf_7.mp z 1 (by decide) q1
        rw [if_neg hc]
        simp only [w161_a, w161_b, hr, ms, k1, k2, e0, e1, eq_false q0, eq_true q1, zz]
      · by_cases q2 : c.2.2.1 = kwf 2
        · have hc : ¬ c.1 = 7 := fun z => by rw [k3] at z; exact kOf_7.mp z 2 (by decide) q2
          rw [if_neg hc]
          simp only [w161_a, w161_b, hr, ms, k1, k2, e0, e1, e2, eq_false q0, eq_false q1, eq_true q2, zz]
        · by_cases q3 : c.2.2.1 = kwf 3
          · have hc : ¬ c.1 = 7 := fun z => by rw [k3] at z; exact kOf_7.mp z 3 (by decide) q3
            rw [if_neg hc]
            simp only [w161_a, w161_b, hr, ms, k1, k2, e0, e1, e2, e3, eq_false q0, eq_false q1, eq_false q2, eq_true q3, zz]
          · by_cases q4 : c.2.2.1 = kwf 4
            · have hc : ¬ c.1 = 7 := fun z => by rw [k3] at z; exact kOf_7.mp z 4 (by decide) q4
              rw [if_neg hc]
              simp only [w161_a, w161_b, hr, ms, k1, k2, e0, e1, e2, e3, e4, eq_false q0, eq_false q1, eq_false q2, eq_false q3, eq_true q4, zz]
            · by_cases q5 : c.2.2.1 = kwf 5
              · have hc : ¬ c.1 = 7 := fun z => by rw [k3] at z; exact kOf_7.mp z 5 (by decide) q5
                rw [if_neg hc]
                simp only [w161_a, w161_b, hr, ms, k1, k2, e0, e1, e2, e3, e4, e5, eq_false q0, eq_false q1, eq_false q2, eq_false q3, eq_false q4, eq_true q5, zz]
              · by_cases q6 : c.2.2.1 = kwf 6
                · have hc : ¬ c.1 = 7 := fun z => by rw [k3] at z; exact kOf_7.mp z 6 (by decide) q6
                  rw [if_neg hc]
                  simp only [w161_a, w161_b, hr, ms, k1, k2, e0, e1, e2, e3, e4, e5, e6, eq_false q0, eq_false q1, eq_false q2, eq_false q3, eq_false q4, eq_false q5, eq_true q6, zz]
                · have hc7 : c.1 = 7 := by rw [k3]; exact kOf_7.mpr (fun i hi => by
                    rcases (show i = 0 ∨ i = 1 ∨ i = 2 ∨ i = 3 ∨ i = 4 ∨ i = 5 ∨ i = 6 by omega) with rfl | rfl | rfl | rfl | rfl | rfl | rfl
                    · exact q0
                    · exact q1
                    · exact q2
                    · exact q3
                    · exact q4
                    · exact q5
                    · exact q6)
                  rw [if_pos hc7]
                  simp only [w161_a, w161_b, hr, ms, k1, k2, e0, e1, e2, e3, e4, e5, e6, eq_false q0, eq_false q1, eq_false q2, eq_false q3, eq_false q4, eq_false q5, eq_false q6, zz]
  · rw [if_neg (by omega)]
    simp only [w161_a, w161_b, hr, ms, t1, q, zz]
theorem s159 (ms : MS0 h) (mt : MT len f j c) : WPM 159 [.ref 67, .int 59] (MH h f j md cs my wh rw nm) Q ↔ Q (some (.int (if c.1 = 9 then 1 else 0))) (MH h f j md cs my wh rw nm) := by
  have hr := MH_r h
  have t3 := mt.t3
  rw [we159]
  by_cases q : c.1 = 9
  · have k2 := (mt.2.2.2.2.2.1 q).2
    rw [if_pos q]
    simp only [w159, hr, ms, t3, eq_true q, k2, zz]
  · rw [if_neg q]
    simp only [w159, hr, ms, t3, eq_false q, zz]
theorem MT.next {md cs my wh rw : Nat → Int32} {nm : Nat → Int64} (ms : MS0 h) (tb : TpB (hI h 68)) (hl : len ≤ 540) (mt : MT len f j c) (hc : c.1 ≤ 9)
    (kk : ∀ f' j', MT len f' j' (nxt (hI h 68) len c) → FF f f' → JJ j j' → Q none (MH h f' j' md cs my wh rw nm)) : WPM 156 [.ref 67] (MH h f j md cs my wh rw nm) Q :=
  s156 ms tb hl (mt.2.2.2.2.2.2.2.2 hc).2 mt.1 (mt.2.2.2.2.2.2.2.2 hc).1 kk
theorem s160 (ms : MS0 h) (tb : TpB (hI h 68)) (hl : len ≤ 540) (mt : MT len f j c)
    (k1 : c.1 = 9 → ∀ f' j', MT len f' j' (nxt (hI h 68) len c) → FF f f' → JJ j j' → Q (some (.int 1)) (MH h f' j' md cs my wh rw nm))
    (k2 : ¬ c.1 = 9 → Q (some (.int 0)) (MH h (va_up (va_up f 15 1) 16 (nI c.2.1)) j md cs my wh rw nm)) : WPM 160 [.ref 67, .int 59] (MH h f j md cs my wh rw nm) Q := by
  have hr := MH_r h
  have h12 := mt.2.1
  rw [we160]
  by_cases q : c.1 = 9
  · simp only [w160, hr, ms, s159 ms mt, if_pos q, mz, zz]
    refine mt.next ms tb hl (by omega) fun f' j' mt' ff jj => ?_
    simp only [w160, zz]
    exact k1 q f' j' mt' ff jj
  · simp only [w160, hr, ms, s159 ms mt, if_neg q, mz, s157 ms, h12, zz]
    exact k2 q
theorem s162 {net n v : Nat} {nmv : Nat → Nat} (ms : MS0 h) (hnet : net < 2) (hmy : my net = nI n) (hn : n ≤ 14) (hnm : ∀ k, k < n → nm (14 * net + k) = lN (w8 6 (nmv k)) ∧ nmv k < 27 ^ 6) (hj : j 17 = lN (w8 6 v)) (hv : v < 27 ^ 6)
    (k : Q (some (.int (oI (fnd nmv v 0 n)))) (MH h f j md cs my wh rw nm)) : WPM 162 [.ref 67, .int (nI net)] (MH h f j md cs my wh rw nm) Q := by
  have hr := MH_r h
  have cn : (nI net).toNatClampNeg = net := nI_clamp (by omega)
  have im : inb (nI net) 2 = true := inb_nI hnet (by decide)
  have lp : ∀ d y, n - y = d → y ≤ n → fnd nmv v 0 n = fnd nmv v y d → WP 162 2 [.ref 67, .int (nI net), .int (nI y)] [] (MH h f j md cs my wh rw nm) Q := by
    intro d
    induction d with
    | zero =>
      intro y hd hy he
      have hle : nI n ≤ nI y := nI_le (by omega) (by omega)
      rw [he] at k
      rw [w162_2]
      simp only [w162, hr, ms, cn, im, hmy, hle, zz]
      exact k
    | succ d ih =>
      intro y hd hy he
      have hle : ¬ nI n ≤ nI y := nI_ge (by omega) (by omega)
      have em : (14 : Int32) * nI net + nI y = nI (14 * net + y) := by
        have := pk_mul 14 net
        rw [← nI_add, ← this]
        rfl
      have c1 : (nI (14 * net + y)).toNatClampNeg = 14 * net + y := nI_clamp (by omega)
      have i1 : inb (nI (14 * net + y)) 28 = true := inb_nI (by omega) (by decide)
      obtain ⟨e1, e2⟩ := hnm y (by omega)
      have ec : (lg_cmp (lN (w8 6 (nmv y))) (lN (w8 6 v)) = 0) ↔ nmv y = v := by
        rw [lg_cmp_eq, lN_eqI (w8_lt48 _) (w8_lt48 _)]
        exact ⟨fun z => w8_inj 6 _ _ e2 hv z, fun z => by rw [z]⟩
      have hs : fnd nmv v y (d + 1) = if nmv y = v then some y else fnd nmv v (y + 1) d := rfl
      rw [w162_2]
      by_cases q : nmv y = v
      · rw [if_pos q] at hs
        rw [he, hs] at k
        simp only [w162, hr, ms, cn, im, hmy, hle, em, c1, i1, e1, hj, ec, eq_true q, zz]
        exact k
      · rw [if_neg q] at hs
        simp only [w162, hr, ms, cn, im, hmy, hle, em, c1, i1, e1, hj, ec, eq_false q, zz, nI_1]
        exact ih (y + 1) (by omega) (by omega) (he.trans hs)
  rw [we162]
  simp only [w162]
  have := lp n 0 rfl (Nat.zero_le _) rfl
  rw [nI_0] at this
  exact this
end Mw

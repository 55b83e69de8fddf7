/-! ===== the reference: known, readPlan, plan ===== -/
section PosP
variable {t : Nat → Int32} {len n : Nat} {nmv : Nat → Nat}
theorem rdTh_aft {c c' : TT} {x : Nat} (h : (rdTh t len nmv n c).2 = some (x, c')) : Aft t len c c' ∧ x < n := by
  unfold rdTh at h
  split at h
  · split at h
    · cases h
    · next k q =>
      cases h
      exact ⟨(Aft.nx c).tr (Aft.nx _), by have := (fnd_lt n 0 x q).2.1; omega⟩
  · cases h
theorem rdAc_aft {c c' : TT} {m v : Nat} (hn : n ≤ 14) (h : (rdAc t len nmv n m c).2 = some (v, c')) : c'.1 = 9 ∧ Aft t len c c' ∧ plN v := by
  unfold rdAc at h
  split at h
  · cases h
  · split at h
    · cases h
    · split at h
      · cases h
      · next u x c1 q =>
        obtain ⟨h1, h2⟩ := rdTh_aft (x := x) (c' := c1) (by rw [q])
        split at h
        · split at h
          · cases h
          · next u2 y c2 q2 =>
            obtain ⟨h3, h4⟩ := rdTh_aft (x := y) (c' := c2) (by rw [q2])
            split at h
            · next q9 => cases h; exact ⟨q9, h1.tr h3, Or.inr (Or.inr ⟨x, y, by omega, by omega, rfl⟩)⟩
            · cases h
        · split at h
          · next q9 =>
            cases h
            refine ⟨q9, h1, ?_⟩
            split
            · exact Or.inr (Or.inl ⟨x, by omega, rfl⟩)
            · exact Or.inl (by omega)
          · cases h
end PosP
section Mp
variable {h : AH} {len n : Nat} {nmv : Nat → Nat} {Q : Option Value → AH → Prop}
theorem s210 {f md cs my wh rw : Nat → Int32} {j nm : Nat → Int64} {c : TT} (ms : MS0 h) (tb : TpB (hI h 68)) (hl : len ≤ 540) (hmy : my 0 = nI n) (hn : n ≤ 14) (hnm : ∀ k, k < n → nm (14 * 0 + k) = lN (w8 6 (nmv k)) ∧ nmv k < 27 ^ 6) (mt : MT len f j c)
    (k1 : ∀ k f' j', c.1 = 7 → fnd nmv c.2.2.1 0 n = some k → k < n → MT len f' j' (nxt (hI h 68) len c) → FF f f' → JJ j j' → Q (some (.int (nI k))) (MH h f' j' md cs my wh rw nm))
    (k2 : ∀ fk, (c.1 = 7 ∧ fnd nmv c.2.2.1 0 n = none ∧ fk = 3) ∨ (¬ c.1 = 7 ∧ fk = 1) → Q (some (.int (-1))) (MH h (va_up (va_up f 15 (nI fk)) 16 (nI c.2.1)) j md cs my wh rw nm)) : WPM 210 [.ref 67] (MH h f j md cs my wh rw nm) Q := by
  have hr := MH_r h
  have hs := MH_s h
  have h12 := mt.2.1
  rw [we210]
  by_cases q7 : c.1 = 7
  · obtain ⟨t1, t2, t3, t4⟩ := mt.2.2.2.2.2.2.2.1 (by omega)
    simp only [w210, hr, hs, ms, mz, s161 ms mt, if_pos q7, zz]
    refine s162 (net := 0) (n := n) (nmv := nmv) (v := c.2.2.1) ms (by decide) hmy hn hnm t2 t4 ?_
    cases hf : fnd nmv c.2.2.1 0 n with
    | none =>
      have k' := k2 3 (Or.inl ⟨q7, hf, rfl⟩)
      simp only [w210, hr, hs, ms, mz, oI_none, s161 ms mt, if_pos q7, s157 ms, h12, zz]
      exact k'
    | some k =>
      have hk := (fnd_lt n 0 k hf).2.1
      have l0 : 0 ≤ nI k := nI_pos' (by omega)
      simp only [w210, hr, hs, ms, mz, oI_some, l0, zz]
      refine mt.next ms tb hl (by omega) fun f' j' mt' ff jj => ?_
      simp only [w210, zz]
      exact k1 k f' j' q7 hf (by omega) mt' ff jj
  · have k' := k2 1 (Or.inr ⟨q7, rfl⟩)
    simp only [w210, hr, hs, ms, mz, s161 ms mt, if_neg q7, s157 ms, h12, zz]
    exact k'
theorem rdTh_of {t : Nat → Int32} {c : TT} : (∀ k, (nxt t len c).1 = 7 → fnd nmv (nxt t len c).2.2.1 0 n = some k → rdTh t len nmv n c = ((0, c), some (k, nxt t len (nxt t len c)))) ∧ ∀ fk, ((nxt t len c).1 = 7 ∧ fnd nmv (nxt t len c).2.2.1 0 n = none ∧ fk = 3) ∨ (¬ (nxt t len c).1 = 7 ∧ fk = 1) → rdTh t len nmv n c = ((fk, nxt t len c), none) := by
  refine ⟨fun k h1 h2 => ?_, fun fk h1 => ?_⟩
  · unfold rdTh
    rw [if_pos h1, h2]
  · unfold rdTh
    rcases h1 with ⟨h2, h3, rfl⟩ | ⟨h2, rfl⟩
    · rw [if_pos h2, h3]
    · rw [if_neg h2]
/-- the frame of readPlan -/
def FP (f0 f : Nat → Int32) : Prop := ∀ k, k ≠ 4 → k ≠ 11 → k ≠ 12 → k ≠ 13 → k ≠ 14 → k ≠ 15 → k ≠ 16 → k ≠ 50 → f k = f0 k
theorem FP.rf {f : Nat → Int32} : FP f f := fun _ _ _ _ _ _ _ _ _ => rfl
theorem FP.ff {f0 f f' : Nat → Int32} (a : FP f0 f) (b : FF f f') : FP f0 f' := fun k h1 h2 h3 h4 h5 h6 h7 h8 => (b k h1 h2 h3 h4 h5).trans (a k h1 h2 h3 h4 h5 h6 h7 h8)
theorem FP.bad {f0 f : Nat → Int32} (a : FP f0 f) (u v : Int32) : FP f0 (va_up (va_up f 15 u) 16 v) := fun k h1 h2 h3 h4 h5 h6 h7 h8 => by
  rw [up_at, if_neg h7, up_at, if_neg h6]
  exact a k h1 h2 h3 h4 h5 h6 h7 h8
theorem FP.u50 {f0 f : Nat → Int32} (a : FP f0 f) (v : Int32) : FP f0 (va_up f 50 v) := fun k h1 h2 h3 h4 h5 h6 h7 h8 => by
  rw [up_at, if_neg h8]
  exact a k h1 h2 h3 h4 h5 h6 h7 h8
theorem MH_96 (h : AH) (np f md cs my wh rw : Nat → Int32) (j nm : Nat → Int64) : hI (MH (setI h 96 np) f j md cs my wh rw nm) 96 = np ∧ ∀ k v, sI (MH (setI h 96 np) f j md cs my wh rw nm) 96 k v = MH (setI h 96 (va_up np k v)) f j md cs my wh rw nm := by
  refine ⟨?_, fun k v => ?_⟩
  · rw [MH_I]
    rfl
  · unfold MH
    rw [sI_setJ', sI_setJ', sI_setI_o (by decide), sI_setI_o (by decide), sI_setI_o (by decide), sI_setI_o (by decide), sI_setI_o (by decide), sI_setI_o (by decide), sI_setI]
theorem plan_m {f0 md cs my wh rw : Nat → Int32} {j0 nm : Nat → Int64} (ms : MS0 h) (tb : TpB (hI h 68)) (hl : len ≤ 540) (hmy : my 0 = nI n) (hn : n ≤ 14) (hnm : ∀ k, k < n → nm (14 * 0 + k) = lN (w8 6 (nmv k)) ∧ nmv k < 27 ^ 6) {RS : (Nat × TT) × Option (List Nat)}
    (k1 : ∀ f' j' np pl, RS.2 = some pl → pl.length ≤ 60 → (∀ i v, pl[i]? = some v → np i = nI v) → (∀ v ∈ pl, plN v) → f' 50 = nI pl.length → f' 15 = f0 15 → FP f0 f' → JJ j0 j' → Q (some (.int 1)) (MH (setI h 96 np) f' j' md cs my wh rw nm))
    (k2 : ∀ f' j' np fk c', RS.2 = none → RS.1 = (fk, c') → okT c' → FP f0 f' → JJ j0 j' → f' 15 = nI fk → f' 16 = nI c'.2.1 → Q (some (.int 0)) (MH (setI h 96 np) f' j' md cs my wh rw nm)) :
    ∀ fu pl cp f j np x1 x2 x3 x4, RS = rdPl (hI h 68) len nmv n fu pl cp → 501 ≤ cp.2.2.2 + fu → cp.2.2.2 ≤ 500 → MT len f j (nxt (hI h 68) len cp) → FP f0 f → f 15 = f0 15 → JJ j0 j → f 50 = nI pl.length → pl.length ≤ 60 → (∀ i v, pl[i]? = some v → np i = nI v) → (∀ v ∈ pl, plN v) → WP 209 0 [.ref 67, x1, x2, x3, x4] [] (MH (setI h 96 np) f j md cs my wh rw nm) Q := by
  have hr := fun np => MH_r (setI h 96 np)
  have hs := fun np => MH_s (setI h 96 np)
  have h96 := MH_96 h
  have msn : ∀ np, MS0 (setI h 96 np) := fun np => ms
  have e68 : ∀ np, hI (setI h 96 np) 68 = hI h 68 := fun np => rfl
  intro fu
  induction fu with
  | zero => intro pl cp f j np x1 x2 x3 x4 _ h1 h2; omega
  | succ fu ih =>
    intro pl cp f j np x1 x2 x3 x4 he hp1 hp2 mt fp f15 jj f50 hpl hnp hpn
    have hst : rdPl (hI h 68) len nmv n (fu + 1) pl cp = if (nxt (hI h 68) len cp).1 = 10 then (if 500 < len then ((1, nxt (hI h 68) len cp), none) else ((0, nxt (hI h 68) len cp), some pl)) else (match rdAc (hI h 68) len nmv n pl.length (nxt (hI h 68) len cp) with
      | (e, none) => (e, none)
      | (_, some (v, c')) => rdPl (hI h 68) len nmv n fu (pl ++ [v]) c') := rfl
    have hpos := (tok_pos (hI h 68) len cp.2.2.2).1
    change cp.2.2.2 ≤ (nxt (hI h 68) len cp).2.2.2 at hpos
    generalize nxt (hI h 68) len cp = c at mt hst hpos
    have h12 := mt.2.1
    have t0 := mt.t0
    have ms1 := msn np
    have tb1 : TpB (hI (setI h 96 np) 68) := tb
    have bad1 : RS = ((1, c), none) → Q (some (.int 0)) (MH (setI h 96 np) (va_up (va_up f 15 1) 16 (nI c.2.1)) j md cs my wh rw nm) := fun e => k2 _ j np 1 c (by rw [e]) (by rw [e]) mt.2.2.1 (fp.bad (nI 1) (nI c.2.1)) jj rfl rfl
    rw [w209_0]
    by_cases q10 : c.1 = 10
    · rw [if_pos q10] at hst
      have n1 : ¬ c.1 = 1 := by omega
      have n5 : ¬ c.1 = 5 := by omega
      by_cases q5 : len ≤ 500
      · have q0 : c.1 = 10 ∧ len ≤ 500 := ⟨q10, q5⟩
        rw [if_neg (by omega)] at hst
        simp only [w209_a, w209_c, hr, hs, ms1, mz, t0, eq_true q0, zz]
        exact k1 f j np pl (by rw [he, hst]) hpl hnp hpn f50 f15 fp jj
      · have q0 : ¬ (c.1 = 10 ∧ len ≤ 500) := fun z => q5 z.2
        rw [if_pos (by omega)] at hst
        simp only [w209_a, w209_b, w209_c, hr, hs, ms1, mz, t0, eq_false q0, iw1 ms1 mt, iw5 ms1 mt, if_neg n1, if_neg n5, s157 ms1, h12, zz]
        exact bad1 (he.trans hst)
    · have q0 : ¬ (c.1 = 10 ∧ len ≤ 500) := fun z => q10 z.1
      rw [if_neg q10] at hst
      by_cases q15 : c.1 = 1 ∨ c.1 = 5
      · by_cases q60 : pl.length = 60
        · have hL : rdAc (hI h 68) len nmv n pl.length c = ((4, c), none) := by
            unfold rdAc
            rw [if_neg (fun z => q15.elim z.1 z.2), if_pos (by omega)]
          rw [hL] at hst
          have e60 : f 50 = 60 := by rw [f50, q60]; rfl
          have k' := k2 _ j np 4 c (by rw [he, hst]) (by rw [he, hst]) mt.2.2.1 (fp.bad (nI 4) (nI c.2.1)) jj rfl rfl
          rcases q15 with z | z
          · simp only [w209_a, w209_b, w209_c, hr, hs, ms1, mz, t0, eq_false q0, iw1 ms1 mt, iw5 ms1 mt, if_pos z, e60, s157 ms1, h12, zz]
            exact k'
          · have n1 : ¬ c.1 = 1 := by omega
            simp only [w209_a, w209_b, w209_c, hr, hs, ms1, mz, t0, eq_false q0, iw1 ms1 mt, iw5 ms1 mt, if_neg n1, if_pos z, e60, s157 ms1, h12, zz]
            exact k'
        · have e60 : ¬ f 50 = 60 := fun z => by
            rw [f50] at z
            exact q60 (nI_inj (a := pl.length) (b := 60) (by omega) (by decide) z)
          have hL : rdAc (hI h 68) len nmv n pl.length c = (match rdTh (hI h 68) len nmv n c with
              | (e, none) => (e, none)
              | (_, some (x, c1)) => if c.1 = 1 ∧ c1.1 = 6 then (match rdTh (hI h 68) len nmv n c1 with
                  | (e, none) => (e, none)
                  | (_, some (y, c2)) => if c2.1 = 9 then ((0, c), some (100 + 20 * x + y, c2)) else ((1, c2), none))
                else if c1.1 = 9 then ((0, c), some (if c.1 = 5 then 20 + x else x, c1)) else ((1, c1), none)) := by
            unfold rdAc
            rw [if_neg (fun z => q15.elim z.1 z.2), if_neg (by omega)]
            rfl
          -- behind an act: the semicolon
          have sg : ∀ f2 j2 v c2 y1 y2 y4, rdAc (hI h 68) len nmv n pl.length c = (if c2.1 = 9 then ((0, c), some (v, c2)) else ((1, c2), none)) → MT len f2 j2 c2 → FF f f2 → JJ j j2 → WP 209 120 [.ref 67, .int y1, .int y2, .int (nI v), y4] [] (MH (setI h 96 np) f2 j2 md cs my wh rw nm) Q := by
            intro f2 j2 v c2 y1 y2 y4 hA mt2 ff2 jj2
            simp only [w209_b, w209_c, hr, hs, ms1, zz]
            refine s160 ms1 tb1 hl mt2 (fun q9 f3 j3 mt3 ff3 jj3 => ?_) (fun q9 => ?_)
            · rw [if_pos q9] at hA
              rw [hA] at hst
              obtain ⟨-, haf, hv⟩ := rdAc_aft (t := hI h 68) (len := len) (nmv := nmv) (n := n) (m := pl.length) (c := c) (v := v) (c' := c2) hn (by rw [hA])
              have hps := haf.pos q9
              have g50 : f3 50 = nI pl.length := ((ff2.trans ff3) 50 (by decide) (by decide) (by decide) (by decide) (by decide)).trans f50
              have g15 : f3 15 = f0 15 := ((ff2.trans ff3) 15 (by decide) (by decide) (by decide) (by decide) (by decide)).trans f15
              have c1 : (nI pl.length).toNatClampNeg = pl.length := nI_clamp (by omega)
              have i1 : inb (nI pl.length) 60 = true := inb_nI (by omega) (by decide)
              have ms2 := msn (va_up np pl.length (nI v))
              simp only [w209_b, w209_c, hr, hs, h96, ms1, ms2, mz, g50, c1, i1, zz, nI_1]
              refine ih (pl ++ [v]) c2 (va_up f3 50 (nI (pl.length + 1))) j3 (va_up np pl.length (nI v)) _ _ _ _ (he.trans hst) (by omega) (by omega) ?_ ((fp.ff (ff2.trans ff3)).u50 _) g15 (jj.trans (jj2.trans jj3)) (by rw [List.length_append]; rfl) (by rw [List.length_append]; show pl.length + 1 ≤ 60; omega) (fun i u hi => ?_) (fun u hu => ?_)
              · exact mt3
              · rw [up_at]
                by_cases z : i < pl.length
                · rw [List.getElem?_append_left z] at hi
                  rw [if_neg (by omega)]
                  exact hnp i u hi
                · rw [List.getElem?_append_right (by omega)] at hi
                  have hx : u = v := by simpa using List.mem_of_getElem? hi
                  have hjl : i - pl.length = 0 := by
                    rcases Nat.eq_zero_or_pos (i - pl.length) with y | y
                    · exact y
                    · rw [List.getElem?_eq_none (by simp; omega)] at hi
                      cases hi
                  rw [if_pos (by omega), hx]
              · rcases List.mem_append.mp hu with z | z
                · exact hpn u z
                · have : u = v := by simpa using z
                  rw [this]
                  exact hv
            · rw [if_neg q9] at hA
              rw [hA] at hst
              simp only [w209_b, w209_c, mz, zz]
              exact k2 _ j2 np 1 c2 (by rw [he, hst]) (by rw [he, hst]) mt2.2.2.1 ((fp.ff ff2).bad (nI 1) (nI c2.2.1)) (jj.trans jj2) rfl rfl
          have fl : ∀ f2 j2 c2 fk, rdAc (hI h 68) len nmv n pl.length c = ((fk, c2), none) → FF f f2 → JJ j j2 → okT c2 → Q (some (.int 0)) (MH (setI h 96 np) (va_up (va_up f2 15 (nI fk)) 16 (nI c2.2.1)) j2 md cs my wh rw nm) := fun f2 j2 c2 fk hA ff2 jj2 hok => by
            rw [hA] at hst
            exact k2 _ j2 np fk c2 (by rw [he, hst]) (by rw [he, hst]) hok ((fp.ff ff2).bad (nI fk) (nI c2.2.1)) (jj.trans jj2) rfl rfl
          obtain ⟨th1, th2⟩ := rdTh_of (t := hI h 68) (len := len) (n := n) (nmv := nmv) (c := c)
          rcases q15 with z | z
          · -- MAKE
            have n5 : ¬ c.1 = 5 := by omega
            simp only [w209_a, w209_b, w209_c, hr, hs, ms1, mz, t0, eq_false q0, iw1 ms1 mt, iw5 ms1 mt, if_pos z, e60, zz]
            refine mt.next ms1 tb1 hl (by omega) fun f2 j2 mt2 ff2 jj2 => ?_
            simp only [w209_a, w209_b, hr, hs, ms1, mz, zz]
            refine s210 ms1 tb1 hl hmy hn hnm mt2 (fun x f3 j3 g1 g2 g3 mt3 ff3 jj3 => ?_) (fun fk g1 => ?_)
            · have l0 : 0 ≤ nI x := nI_pos' (by omega)
              rw [th1 x g1 g2] at hL
              change rdAc (hI h 68) len nmv n pl.length c = (if c.1 = 1 ∧ (nxt (hI h 68) len (nxt (hI h 68) len c)).1 = 6 then (match rdTh (hI h 68) len nmv n (nxt (hI h 68) len (nxt (hI h 68) len c)) with
                  | (e, none) => (e, none)
                  | (_, some (y, c2)) => if c2.1 = 9 then ((0, c), some (100 + 20 * x + y, c2)) else ((1, c2), none))
                else if (nxt (hI h 68) len (nxt (hI h 68) len c)).1 = 9 then ((0, c), some (if c.1 = 5 then 20 + x else x, nxt (hI h 68) len (nxt (hI h 68) len c))) else ((1, nxt (hI h 68) len (nxt (hI h 68) len c)), none)) at hL
              change MT len f3 j3 (nxt (hI h 68) len (nxt (hI h 68) len c)) at mt3
              generalize nxt (hI h 68) len (nxt (hI h 68) len c) = c1 at hL mt3
              by_cases q6 : c1.1 = 6
              · rw [if_pos ⟨z, q6⟩] at hL
                simp only [w209_a, w209_b, w209_c, hr, hs, ms1, mz, l0, iw6 ms1 mt3, if_pos q6, zz]
                refine mt3.next ms1 tb1 hl (by omega) fun f4 j4 mt4 ff4 jj4 => ?_
                simp only [w209_b, w209_c, hr, hs, ms1, mz, zz]
                obtain ⟨th3, th4⟩ := rdTh_of (t := hI h 68) (len := len) (n := n) (nmv := nmv) (c := c1)
                refine s210 ms1 tb1 hl hmy hn hnm mt4 (fun y f5 j5 g4 g5 g6 mt5 ff5 jj5 => ?_) (fun fk g4 => ?_)
                · have l1 : 0 ≤ nI y := nI_pos' (by omega)
                  rw [th3 y g4 g5] at hL
                  have em : (100 : Int32) + 20 * nI x + nI y = nI (100 + 20 * x + y) := by
                    have := pk_mul 20 x
                    rw [← nI_add, ← nI_add, ← this]
                    rfl
                  have go := sg f5 j5 (100 + 20 * x + y) _ 1 (nI x) (.int (nI y)) hL mt5 (((ff2.trans ff3).trans ff4).trans ff5) (((jj2.trans jj3).trans jj4).trans jj5)
                  simp only [w209_b, w209_c, hr, hs, ms1, zz] at go
                  simp only [w209_b, w209_c, hr, hs, ms1, mz, l1, em, zz]
                  exact go
                · have ln : ¬ (0 : Int32) ≤ -1 := by decide
                  rw [th4 fk g4] at hL
                  simp only [w209_b, w209_c, hr, hs, ms1, mz, zz]
                  exact fl f4 j4 _ fk hL ((ff2.trans ff3).trans ff4) ((jj2.trans jj3).trans jj4) mt4.2.2.1
              · rw [if_neg (fun y => q6 y.2), if_neg n5] at hL
                have go := sg f3 j3 x _ 1 (nI x) x4 hL mt3 (ff2.trans ff3) (jj2.trans jj3)
                simp only [w209_b, w209_c, hr, hs, ms1, zz] at go
                simp only [w209_a, w209_b, w209_c, hr, hs, ms1, mz, l0, iw6 ms1 mt3, if_neg q6, zz]
                exact go
            · rw [th2 fk g1] at hL
              simp only [w209_a, w209_b, w209_c, hr, hs, ms1, mz, zz]
              exact fl f2 j2 _ fk hL ff2 jj2 mt2.2.2.1
          · -- WASH
            have n1 : ¬ c.1 = 1 := by omega
            simp only [w209_a, w209_b, w209_c, hr, hs, ms1, mz, t0, eq_false q0, iw1 ms1 mt, iw5 ms1 mt, if_neg n1, if_pos z, e60, zz]
            refine mt.next ms1 tb1 hl (by omega) fun f2 j2 mt2 ff2 jj2 => ?_
            simp only [w209_a, w209_b, hr, hs, ms1, mz, zz]
            refine s210 ms1 tb1 hl hmy hn hnm mt2 (fun x f3 j3 g1 g2 g3 mt3 ff3 jj3 => ?_) (fun fk g1 => ?_)
            · have l0 : 0 ≤ nI x := nI_pos' (by omega)
              have e20 : (20 : Int32) + nI x = nI (20 + x) := nI_add 20 x
              rw [th1 x g1 g2] at hL
              change rdAc (hI h 68) len nmv n pl.length c = (if c.1 = 1 ∧ (nxt (hI h 68) len (nxt (hI h 68) len c)).1 = 6 then (match rdTh (hI h 68) len nmv n (nxt (hI h 68) len (nxt (hI h 68) len c)) with
                  | (e, none) => (e, none)
                  | (_, some (y, c2)) => if c2.1 = 9 then ((0, c), some (100 + 20 * x + y, c2)) else ((1, c2), none))
                else if (nxt (hI h 68) len (nxt (hI h 68) len c)).1 = 9 then ((0, c), some (if c.1 = 5 then 20 + x else x, nxt (hI h 68) len (nxt (hI h 68) len c))) else ((1, nxt (hI h 68) len (nxt (hI h 68) len c)), none)) at hL
              rw [if_neg (fun y => n1 y.1), if_pos z] at hL
              have go := sg f3 j3 (20 + x) _ 0 (nI x) x4 hL mt3 (ff2.trans ff3) (jj2.trans jj3)
              simp only [w209_b, w209_c, hr, hs, ms1, zz] at go
              simp only [w209_a, w209_b, w209_c, hr, hs, ms1, mz, l0, e20, zz]
              exact go
            · rw [th2 fk g1] at hL
              simp only [w209_a, w209_b, w209_c, hr, hs, ms1, mz, zz]
              exact fl f2 j2 _ fk hL ff2 jj2 mt2.2.2.1
      · have n1 : ¬ c.1 = 1 := fun z => q15 (Or.inl z)
        have n5 : ¬ c.1 = 5 := fun z => q15 (Or.inr z)
        have hL : rdAc (hI h 68) len nmv n pl.length c = ((1, c), none) := by
          unfold rdAc
          rw [if_pos ⟨n1, n5⟩]
        rw [hL] at hst
        simp only [w209_a, w209_b, w209_c, hr, hs, ms1, mz, t0, eq_false q0, iw1 ms1 mt, iw5 ms1 mt, if_neg n1, if_neg n5, s157 ms1, h12, zz]
        exact bad1 (he.trans hst)
end Mp

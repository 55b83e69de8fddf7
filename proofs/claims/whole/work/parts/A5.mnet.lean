/-! ===== the reference: read, net ===== -/
section Mr
variable {h : AH} {len : Nat} {Q : Option Value → AH → Prop}
theorem MKp.rf {md cs my wh rw : Nat → Int32} {nm : Nat → Int64} : MKp md cs my wh rw nm md cs my wh rw nm := ⟨KI.rf, KI.rf, KI.rf, KJ.rf, rfl, rfl⟩
theorem MKp.trans {md cs my wh rw md1 cs1 my1 wh1 rw1 md2 cs2 my2 wh2 rw2 : Nat → Int32} {nm nm1 nm2 : Nat → Int64} (a : MKp md cs my wh rw nm md1 cs1 my1 wh1 rw1 nm1) (b : MKp md1 cs1 my1 wh1 rw1 nm1 md2 cs2 my2 wh2 rw2 nm2) : MKp md cs my wh rw nm md2 cs2 my2 wh2 rw2 nm2 :=
  ⟨a.1.trans b.1, a.2.1.trans b.2.1, a.2.2.1.trans b.2.2.1, a.2.2.2.1.trans b.2.2.2.1, b.2.2.2.2.1.trans a.2.2.2.2.1, b.2.2.2.2.2.trans a.2.2.2.2.2⟩
theorem read_m {f0 md0 cs0 my0 wh0 rw0 : Nat → Int32} {j0 nm0 : Nat → Int64} (ms : MS0 h) (tb : TpB (hI h 68)) (hl : len ≤ 540) {RS : (Nat × TT) × Option Dt}
    (k1 : ∀ f' j' md' cs' my' wh' rw' nm' d', RS.2 = some d' → MDr d' md' cs' my' wh' rw' nm' → d'.2.2.2.2 < 2 ^ d'.1 → FF f0 f' → JJ j0 j' → MKp md0 cs0 my0 wh0 rw0 nm0 md' cs' my' wh' rw' nm' → Q (some (.int 1)) (MH h f' j' md' cs' my' wh' rw' nm'))
    (k2 : ∀ f' j' md' cs' my' wh' rw' nm' fk c', RS.2 = none → RS.1 = (fk, c') → okT c' → FG f0 f' → JJ j0 j' → f' 15 = nI fk → f' 16 = nI c'.2.1 → MKp md0 cs0 my0 wh0 rw0 nm0 md' cs' my' wh' rw' nm' → Q (some (.int 0)) (MH h f' j' md' cs' my' wh' rw' nm')) :
    ∀ fu d cp f j md cs my wh rw nm x1 x2, RS = rdN (hI h 68) len fu d cp → 501 ≤ cp.2.2.2 + fu → cp.2.2.2 ≤ 500 → MT len f j (nxt (hI h 68) len cp) → FF f0 f → JJ j0 j → MDr d md cs my wh rw nm → d.2.2.2.2 < 2 ^ d.1 → MKp md0 cs0 my0 wh0 rw0 nm0 md cs my wh rw nm → WP 163 0 [.ref 67, x1, x2] [] (MH h f j md cs my wh rw nm) Q := by
  have hr := MH_r h
  have hs := MH_s h
  intro fu
  induction fu with
  | zero => intro d cp f j md cs my wh rw nm x1 x2 _ h1 h2; omega
  | succ fu ih =>
    intro d cp f j md cs my wh rw nm x1 x2 he hp1 hp2 mt ff jj dr hwi kp
    have hst : rdN (hI h 68) len (fu + 1) d cp = if (nxt (hI h 68) len cp).1 = 10 then (if 500 < len ∨ d.2.2.2.2 = 0 then ((1, nxt (hI h 68) len cp), none) else ((0, nxt (hI h 68) len cp), some d)) else (match rdLn (hI h 68) len d (nxt (hI h 68) len cp) with
      | (e, none) => (e, none)
      | (_, some (d', c')) => rdN (hI h 68) len fu d' c') := rfl
    have hpos := (tok_pos (hI h 68) len cp.2.2.2).1
    change cp.2.2.2 ≤ (nxt (hI h 68) len cp).2.2.2 at hpos
    generalize nxt (hI h 68) len cp = c at mt hst hpos
    have h12 := mt.2.1
    have t0 := mt.t0
    have hwi9 := s_lt dr.2.1 hwi
    have hwn : (nI d.2.2.2.2 = 0) ↔ d.2.2.2.2 = 0 := by
      have := nI_eq (a := d.2.2.2.2) (b := 0) (by omega) (by decide)
      exact this
    have bad1 : RS = ((1, c), none) → Q (some (.int 0)) (MH h (va_up (va_up f 15 1) 16 (nI c.2.1)) j md cs my wh rw nm) := fun e => k2 _ j md cs my wh rw nm 1 c (by rw [e]) (by rw [e]) mt.2.2.1 (ff.bad (nI 1) (nI c.2.1)) jj rfl rfl kp
    rw [w163_0]
    by_cases q10 : c.1 = 10
    · rw [if_pos q10] at hst
      have n0 : ¬ c.1 = 0 := by omega
      have n1 : ¬ c.1 = 1 := by omega
      have n4 : ¬ c.1 = 4 := by omega
      by_cases q5 : len ≤ 500
      · have q0 : c.1 = 10 ∧ len ≤ 500 := ⟨q10, q5⟩
        by_cases qw : d.2.2.2.2 = 0
        · rw [if_pos (Or.inr qw)] at hst
          simp only [w163_a, w163_b, hr, hs, ms, mz, t0, eq_true q0, dr.2.2.1, hwn, eq_true qw, s157 ms, h12, zz]
          exact bad1 (he.trans hst)
        · rw [if_neg (fun z => z.elim (by omega) qw)] at hst
          simp only [w163_a, w163_b, hr, hs, ms, mz, t0, eq_true q0, dr.2.2.1, hwn, eq_false qw, zz]
          exact k1 f j md cs my wh rw nm d (by rw [he, hst]) dr hwi ff jj kp
      · have q0 : ¬ (c.1 = 10 ∧ len ≤ 500) := fun z => q5 z.2
        rw [if_pos (Or.inl (by omega))] at hst
        simp only [w163_a, w163_b, hr, hs, ms, mz, t0, eq_false q0, iw0 ms mt, iw1 ms mt, iw4 ms mt, if_neg n0, if_neg n1, if_neg n4, s157 ms, h12, zz]
        exact bad1 (he.trans hst)
    · have q0 : ¬ (c.1 = 10 ∧ len ≤ 500) := fun z => q10 z.1
      rw [if_neg q10] at hst
      -- behind a line
      have sg : ∀ f2 j2 md2 cs2 my2 wh2 rw2 nm2 d2 c2 y1 y2, rdLn (hI h 68) len d c = (if c2.1 = 9 then ((0, c), some (d2, c2)) else ((1, c2), none)) → MT len f2 j2 c2 → FF f0 f2 → JJ j0 j2 → MDr d2 md2 cs2 my2 wh2 rw2 nm2 → d2.2.2.2.2 < 2 ^ d2.1 → MKp md0 cs0 my0 wh0 rw0 nm0 md2 cs2 my2 wh2 rw2 nm2 → WP 163 104 [.ref 67, .int y1, .int y2] [] (MH h f2 j2 md2 cs2 my2 wh2 rw2 nm2) Q := by
        intro f2 j2 md2 cs2 my2 wh2 rw2 nm2 d2 c2 y1 y2 hL mt2 ff2 jj2 dr2 hw2 kp2
        simp only [w163_b, hr, hs, ms, zz]
        refine s160 ms tb hl mt2 (fun q9 f3 j3 mt3 ff3 jj3 => ?_) (fun q9 => ?_)
        · rw [if_pos q9] at hL
          rw [hL] at hst
          obtain ⟨-, haf⟩ := rdLn_aft (t := hI h 68) (len := len) (d := d) (c := c) (d' := d2) (c' := c2) (by rw [hL])
          have hps := haf.pos q9
          simp only [w163_b, mz, zz]
          exact ih d2 c2 f3 j3 md2 cs2 my2 wh2 rw2 nm2 _ _ (he.trans hst) (by omega) (by omega) mt3 (ff2.trans ff3) (jj2.trans jj3) dr2 hw2 kp2
        · rw [if_neg q9] at hL
          rw [hL] at hst
          simp only [w163_b, mz, zz]
          exact k2 _ j2 md2 cs2 my2 wh2 rw2 nm2 1 c2 (by rw [he, hst]) (by rw [he, hst]) mt2.2.2.1 (ff2.bad (nI 1) (nI c2.2.1)) jj2 rfl rfl kp2
      by_cases q4 : c.1 = 4
      · have n0 : ¬ c.1 = 0 := by omega
        have n1 : ¬ c.1 = 1 := by omega
        simp only [w163_a, w163_b, hr, hs, ms, mz, t0, eq_false q0, iw0 ms mt, iw1 ms mt, iw4 ms mt, if_neg n0, if_neg n1, if_pos q4, zz]
        refine mt.next ms tb hl (by omega) fun f2 j2 mt2 ff2 jj2 => ?_
        have hL : rdLn (hI h 68) len d c = (match (rwL (hI h 68) len d.2.1 d.1 15 d.2.2.2.2 0 (nxt (hI h 68) len c)).2 with
            | some (w, c') => ((0, c), some ((d.1, d.2.1, d.2.2.1, d.2.2.2.1, w), c'))
            | none => ((rwL (hI h 68) len d.2.1 d.1 15 d.2.2.2.2 0 (nxt (hI h 68) len c)).1, none)) := by
          unfold rdLn
          rw [if_pos q4]
          rfl
        simp only [w163_a, w163_b, hr, hs, ms, mz, zz]
        refine s166 (n := d.1) (nmv := d.2.1) (w := d.2.2.2.2) ms tb hl dr.1 dr.2.1 dr.nm mt2 hwi dr.2.2.1 (fun f3 j3 wh3 w3 c3 hw mt3 ff3 jj3 g1 g2 g3 => ?_) (fun f3 j3 wh3 fk c' g1 g2 hok fg3 jj3 g3 g4 g5 => ?_)
        · have go := fun y1 y2 => sg f3 j3 md cs my wh3 rw nm (d.1, d.2.1, d.2.2.1, d.2.2.2.1, w3) c3 y1 y2 (by
            rw [hL, hw]
            by_cases q9 : c3.1 = 9
            · rw [if_pos q9, if_pos q9]
            · rw [if_neg q9, if_neg q9]) mt3 ((ff.trans ff2).trans ff3) ((jj.trans jj2).trans jj3) ⟨dr.1, dr.2.1, g1, dr.2.2.2⟩ g2 (kp.trans ⟨KI.rf, KI.rf, KI.rf, KJ.rf, rfl, g3 0 (by decide)⟩)
          have go' := go 0 0
          simp only [w163_b, hr, hs, ms, zz] at go'
          simp only [w163_b, hr, hs, ms, mz, zz]
          exact go'
        · simp only [w163_b, hr, hs, ms, mz, zz]
          have hL' : rdLn (hI h 68) len d c = ((fk, c'), none) := by rw [hL, g1, g2]
          rw [hL'] at hst
          exact k2 f3 j3 md cs my wh3 rw nm fk c' (by rw [he, hst]) (by rw [he, hst]) hok (FG.tr (ff.trans ff2) fg3) ((jj.trans jj2).trans jj3) g3 g4 (kp.trans ⟨KI.rf, KI.rf, KI.rf, KJ.rf, rfl, g5 0 (by decide)⟩)
      · by_cases q01 : c.1 = 0 ∨ c.1 = 1
        · by_cases q14 : d.1 = 14
          · have hL : rdLn (hI h 68) len d c = ((4, c), none) := by
              unfold rdLn
              rw [if_neg q4, if_neg (fun z => q01.elim z.1 z.2), if_pos (by omega)]
            rw [hL] at hst
            have e14 : my 1 = 14 := by rw [dr.1, q14]; rfl
            have k' := k2 _ j md cs my wh rw nm 4 c (by rw [he, hst]) (by rw [he, hst]) mt.2.2.1 (ff.bad (nI 4) (nI c.2.1)) jj rfl rfl kp
            rcases q01 with z | z
            · have n1 : ¬ c.1 = 1 := by omega
              simp only [w163_a, w163_b, hr, hs, ms, mz, t0, eq_false q0, iw0 ms mt, iw1 ms mt, iw4 ms mt, if_pos z, if_neg n1, e14, s157 ms, h12, zz]
              exact k'
            · have n0 : ¬ c.1 = 0 := by omega
              simp only [w163_a, w163_b, hr, hs, ms, mz, t0, eq_false q0, iw0 ms mt, iw1 ms mt, iw4 ms mt, if_neg n0, if_pos z, e14, s157 ms, h12, zz]
              exact k'
          · have hn14 : d.1 < 14 := by have := dr.2.1; omega
            have e14 : ¬ my 1 = 14 := fun z => by
              rw [dr.1] at z
              exact q14 (nI_inj (a := d.1) (b := 14) (by omega) (by decide) z)
            have th : ∀ mk : Bool, c.1 = (if mk = true then 1 else 0) → ∀ f2 j2, MT len f2 j2 (nxt (hI h 68) len c) → FF f f2 → JJ j j2 → ∀ y1 y2, WPM 164 [.ref 67, .int (if mk = true then 1 else 0)] (MH h f2 j2 md cs my wh rw nm) (fun r h' => WP 163 89 [.ref 67, .int y1, .int y2] (r.toList ++ []) h' Q) := by
              intro mk hmk f2 j2 mt2 ff2 jj2 y1 y2
              refine s164 (d := d) ms tb hl dr hn14 hmk mt2 (fun f3 j3 md3 cs3 my3 rw3 nm3 v p cst c4 hL mt3 ff3 jj3 dr3 kp3 => ?_) (fun f3 j3 md3 cs3 my3 rw3 nm3 fk c' g1 g2 hok fg3 jj3 g3 g4 kp3 => ?_)
              · have hw3 : (dAdd d v p cst).2.2.2.2 < 2 ^ (dAdd d v p cst).1 := by
                  show d.2.2.2.2 < 2 ^ (d.1 + 1)
                  have := p2_lt (Nat.lt_succ_self d.1)
                  omega
                have go := sg f3 j3 md3 cs3 my3 wh rw3 nm3 (dAdd d v p cst) c4 y1 y2 hL mt3 ((ff.trans ff2).trans ff3) ((jj.trans jj2).trans jj3) dr3 hw3 (kp.trans kp3)
                simp only [w163_b, hr, hs, ms, zz] at go
                simp only [w163_b, hr, hs, ms, mz, zz]
                exact go
              · have hL' : rdLn (hI h 68) len d c = ((fk, c'), none) := Prod.ext g2 g1
                rw [hL'] at hst
                simp only [w163_b, hr, hs, ms, mz, zz]
                exact k2 f3 j3 md3 cs3 my3 wh rw3 nm3 fk c' (by rw [he, hst]) (by rw [he, hst]) hok (FG.tr (ff.trans ff2) fg3) ((jj.trans jj2).trans jj3) g3 g4 (kp.trans kp3)
            rcases q01 with z | z
            · have n1 : ¬ c.1 = 1 := by omega
              simp only [w163_a, w163_b, hr, hs, ms, mz, t0, eq_false q0, iw0 ms mt, iw1 ms mt, iw4 ms mt, if_pos z, if_neg n1, e14, zz]
              refine mt.next ms tb hl (by omega) fun f2 j2 mt2 ff2 jj2 => ?_
              simp only [w163_a, w163_b, hr, hs, ms, mz, zz]
              exact th false z f2 j2 mt2 ff2 jj2 _ _
            · have n0 : ¬ c.1 = 0 := by omega
              simp only [w163_a, w163_b, hr, hs, ms, mz, t0, eq_false q0, iw0 ms mt, iw1 ms mt, iw4 ms mt, if_neg n0, if_pos z, e14, zz]
              refine mt.next ms tb hl (by omega) fun f2 j2 mt2 ff2 jj2 => ?_
              simp only [w163_a, w163_b, hr, hs, ms, mz, zz]
              exact th true z f2 j2 mt2 ff2 jj2 _ _
        · have n0 : ¬ c.1 = 0 := fun z => q01 (Or.inl z)
          have n1 : ¬ c.1 = 1 := fun z => q01 (Or.inr z)
          have hL : rdLn (hI h 68) len d c = ((1, c), none) := by
            unfold rdLn
            rw [if_neg q4, if_pos ⟨n0, n1⟩]
          rw [hL] at hst
          simp only [w163_a, w163_b, hr, hs, ms, mz, t0, eq_false q0, iw0 ms mt, iw1 ms mt, iw4 ms mt, if_neg n0, if_neg n1, if_neg q4, s157 ms, h12, zz]
          exact bad1 (he.trans hst)
end Mr

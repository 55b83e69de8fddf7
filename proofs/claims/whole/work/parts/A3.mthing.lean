/-! ===== the reference: a THING's line ===== -/
def KI (r r' : Nat → Int32) : Prop := ∀ k, k < 14 → r' k = r k
def KJ (r r' : Nat → Int64) : Prop := ∀ k, k < 14 → r' k = r k
theorem KI.rf {r : Nat → Int32} : KI r r := fun _ _ => rfl
theorem KJ.rf {r : Nat → Int64} : KJ r r := fun _ _ => rfl
theorem KI.trans {a b c : Nat → Int32} (x : KI a b) (y : KI b c) : KI a c := fun k hk => (y k hk).trans (x k hk)
theorem KJ.trans {a b c : Nat → Int64} (x : KJ a b) (y : KJ b c) : KJ a c := fun k hk => (y k hk).trans (x k hk)
theorem KI.up {r r' : Nat → Int32} (x : KI r r') (n : Nat) (v : Int32) : KI r (va_up r' (14 + n) v) := fun k hk => by
  rw [up_at, if_neg (by omega)]
  exact x k hk
theorem KJ.up {r r' : Nat → Int64} (x : KJ r r') (n : Nat) (v : Int64) : KJ r (va_up r' (14 + n) v) := fun k hk => by
  rw [up_at, if_neg (by omega)]
  exact x k hk
/-- what was kept stays: made, costs, isRaw, names, many, wished -/
def MKp (md cs my wh rw : Nat → Int32) (nm : Nat → Int64) (md' cs' my' wh' rw' : Nat → Int32) (nm' : Nat → Int64) : Prop := KI md md' ∧ KI cs cs' ∧ KI rw rw' ∧ KJ nm nm' ∧ my' 0 = my 0 ∧ wh' 0 = wh 0
/-- the draft -/
def MDr (d : Dt) (md cs my wh rw : Nat → Int32) (nm : Nat → Int64) : Prop := my 1 = nI d.1 ∧ d.1 ≤ 14 ∧ wh 1 = nI d.2.2.2.2 ∧ ∀ k, k < d.1 → nm (14 + k) = lN (w8 6 (d.2.1 k)) ∧ d.2.1 k < 27 ^ 6 ∧ md (14 + k) = nI (d.2.2.1 k) ∧ cs (14 + k) = nI (d.2.2.2.1 k) ∧ rw (14 + k) = if d.2.2.1 k = 0 then 1 else 0
theorem MDr.nm {d : Dt} {md cs my wh rw : Nat → Int32} {nm : Nat → Int64} (x : MDr d md cs my wh rw nm) : ∀ k, k < d.1 → nm (14 * 1 + k) = lN (w8 6 (d.2.1 k)) ∧ d.2.1 k < 27 ^ 6 := fun k hk => ⟨(x.2.2.2 k hk).1, (x.2.2.2 k hk).2.1⟩
def dAdd (d : Dt) (v p cst : Nat) : Dt := (d.1 + 1, va_up d.2.1 d.1 v, va_up d.2.2.1 d.1 p, va_up d.2.2.2.1 d.1 cst, d.2.2.2.2)
theorem MDr.add {d : Dt} {md cs my wh rw md' cs' my' rw' : Nat → Int32} {nm nm' : Nat → Int64} {v p cst : Nat} (x : MDr d md cs my wh rw nm) (hn : d.1 < 14) (hv : v < 27 ^ 6) (hm : my' 1 = nI (d.1 + 1)) (e1 : ∀ i, i ≠ 14 + d.1 → md' i = md i) (e2 : md' (14 + d.1) = nI p) (e3 : ∀ i, i ≠ 14 + d.1 → cs' i = cs i) (e4 : cs' (14 + d.1) = nI cst) (e5 : ∀ i, i ≠ 14 + d.1 → rw' i = rw i) (e6 : rw' (14 + d.1) = if p = 0 then 1 else 0) (e7 : ∀ i, i ≠ 14 + d.1 → nm' i = nm i) (e8 : nm' (14 + d.1) = lN (w8 6 v)) : MDr (dAdd d v p cst) md' cs' my' wh rw' nm' := by
  refine ⟨hm, by show d.1 + 1 ≤ 14; omega, x.2.2.1, fun k hk => ?_⟩
  have hk : k < d.1 + 1 := hk
  show nm' (14 + k) = lN (w8 6 (va_up d.2.1 d.1 v k)) ∧ va_up d.2.1 d.1 v k < 27 ^ 6 ∧ md' (14 + k) = nI (va_up d.2.2.1 d.1 p k) ∧ cs' (14 + k) = nI (va_up d.2.2.2.1 d.1 cst k) ∧ rw' (14 + k) = if va_up d.2.2.1 d.1 p k = 0 then 1 else 0
  rw [up_at, up_at, up_at]
  by_cases q : k = d.1
  · rw [q, if_pos rfl, if_pos rfl, if_pos rfl]
    exact ⟨e8, hv, e2, e4, e6⟩
  · rw [if_neg q, if_neg q, if_neg q, e7 _ (by omega), e1 _ (by omega), e3 _ (by omega), e5 _ (by omega)]
    exact x.2.2.2 k (by omega)
section Mth
variable {h : AH} {len : Nat} {wh : Nat → Int32} {Q : Option Value → AH → Prop}
theorem th_tail {d : Dt} {v p : Nat} {x1 : Int32} {c0 c3 : TT} {f0 f md0 cs0 my rw0 md cs rw : Nat → Int32} {j0 j nm : Nat → Int64} {RL : (Nat × TT) × Option (Dt × TT)} (ms : MS0 h) (tb : TpB (hI h 68)) (hl : len ≤ 540) (dr : MDr d md0 cs0 my wh rw0 nm) (hn : d.1 < 14) (hv : v < 27 ^ 6) (mt : MT len f j c3) (ff : FF f0 f) (jj : JJ j0 j)
    (hRL : RL = (match rdPr (hI h 68) len c3 with
      | (f, none) => (f, none)
      | (_, some (cst, c4)) => ((0, c0), some (dAdd d v p cst, c4))))
    (e1 : ∀ i, i ≠ 14 + d.1 → md i = md0 i) (e2 : md (14 + d.1) = nI p) (e3 : ∀ i, i ≠ 14 + d.1 → cs i = cs0 i) (e4 : cs (14 + d.1) = nI 1) (e5 : ∀ i, i ≠ 14 + d.1 → rw i = rw0 i) (e6 : rw (14 + d.1) = if p = 0 then 1 else 0)
    (k1 : ∀ f' j' md' cs' my' rw' nm' cst c4, RL = (if c4.1 = 9 then ((0, c0), some (dAdd d v p cst, c4)) else ((1, c4), none)) → MT len f' j' c4 → FF f0 f' → JJ j0 j' → MDr (dAdd d v p cst) md' cs' my' wh rw' nm' → MKp md0 cs0 my wh rw0 nm md' cs' my' wh rw' nm' → Q (some (.int 1)) (MH h f' j' md' cs' my' wh rw' nm'))
    (k2 : ∀ f' j' md' cs' my' rw' nm' fk c', RL.2 = none → RL.1 = (fk, c') → okT c' → FG f0 f' → JJ j0 j' → f' 15 = nI fk → f' 16 = nI c'.2.1 → MKp md0 cs0 my wh rw0 nm md' cs' my' wh rw' nm' → Q (some (.int 0)) (MH h f' j' md' cs' my' wh rw' nm')) : WP 164 89 [.ref 67, .int x1, .int (nI (14 + d.1)), .long (lN (w8 6 v)), .retAddr 0] [] (MH h f j md cs my wh rw nm) Q := by
  have hr := MH_r h
  have hs := MH_s h
  have c1 : (nI (14 + d.1)).toNatClampNeg = 14 + d.1 := nI_clamp (by omega)
  have i1 : inb (nI (14 + d.1)) 28 = true := inb_nI (by omega) (by decide)
  have hmy := dr.1
  have m1 : KI md0 md := fun k hk => e1 k (by omega)
  have m2 : KI cs0 cs := fun k hk => e3 k (by omega)
  have m3 : KI rw0 rw := fun k hk => e5 k (by omega)
  -- the end: names, many
  have fin : ∀ f' j' cs' cst c4, RL = (if c4.1 = 9 then ((0, c0), some (dAdd d v p cst, c4)) else ((1, c4), none)) → MT len f' j' c4 → FF f0 f' → JJ j0 j' → (∀ i, i ≠ 14 + d.1 → cs' i = cs0 i) → cs' (14 + d.1) = nI cst → Q (some (.int 1)) (MH h f' j' md cs' (va_up my 1 (nI (d.1 + 1))) wh rw (va_up nm (14 + d.1) (lN (w8 6 v)))) := by
    intro f' j' cs' cst c4 hR mt' ff' jj' g1 g2
    refine k1 f' j' md cs' _ rw _ cst c4 hR mt' ff' jj' (dr.add hn hv (by rw [up_at, if_pos rfl]) e1 e2 g1 g2 e5 e6 (fun i hi => by rw [up_at, if_neg hi]) (by rw [up_at, if_pos rfl])) ⟨m1, fun k hk => g1 k (by omega), m3, KJ.rf.up _ _, by rw [up_at, if_neg (by decide)], rfl⟩
  by_cases q3 : c3.1 = 3
  · simp only [w164_b, w164_c, hr, hs, ms, mz, iw3 ms mt, if_pos q3, zz]
    refine mt.next ms tb hl (by omega) fun f' j' mt' ff' jj' => ?_
    have h12' := mt'.2.1
    have t2 := mt'.t2
    by_cases q8 : (nxt (hI h 68) len c3).1 = 8
    · have k14 := (mt'.2.2.2.2.2.2.1 q8).2
      simp only [w164_b, w164_c, hr, hs, ms, mz, t2, eq_true q8, k14, c1, i1, zz]
      refine mt'.next ms tb hl (by omega) fun f2 j2 mt2 ff2 jj2 => ?_
      simp only [w164_b, w164_c, hr, hs, ms, mz, c1, i1, hmy, zz, nI_1]
      refine fin f2 j2 (va_up cs (14 + d.1) (nI (nxt (hI h 68) len c3).2.2.1)) (nxt (hI h 68) len c3).2.2.1 (nxt (hI h 68) len (nxt (hI h 68) len c3)) ?_ mt2 ((ff.trans ff').trans ff2) ((jj.trans jj').trans jj2) (fun i hi => by rw [up_at, if_neg hi]; exact e3 i hi) (by rw [up_at, if_pos rfl])
      rw [hRL]
      unfold rdPr
      rw [if_pos q3, if_pos q8]
      by_cases q9 : (nxt (hI h 68) len (nxt (hI h 68) len c3)).1 = 9
      · rw [if_pos q9, if_pos q9]
      · rw [if_neg q9, if_neg q9]
    · have e : RL = ((1, nxt (hI h 68) len c3), none) := by
        rw [hRL]
        unfold rdPr
        rw [if_pos q3, if_neg q8]
      have k' := k2 _ j' md cs my rw nm 1 _ (by rw [e]) (by rw [e]) mt'.2.2.1 ((ff.trans ff').bad (nI 1) (nI (nxt (hI h 68) len c3).2.1)) (jj.trans jj') rfl rfl ⟨m1, m2, m3, KJ.rf, rfl, rfl⟩
      simp only [w164_b, w164_c, hr, hs, ms, mz, t2, eq_false q8, s157 ms, h12', zz]
      exact k'
  · simp only [w164_b, w164_c, hr, hs, ms, mz, iw3 ms mt, if_neg q3, c1, i1, hmy, zz, nI_1]
    refine fin f j cs 1 c3 ?_ mt ff jj e3 e4
    rw [hRL]
    unfold rdPr
    rw [if_neg q3]
    by_cases q9 : c3.1 = 9
    · rw [if_pos q9, if_pos q9]
    · rw [if_neg q9, if_neg q9]
theorem s164 {d : Dt} {mk : Bool} {c0 : TT} {f0 md0 cs0 my rw0 : Nat → Int32} {j0 nm : Nat → Int64} (ms : MS0 h) (tb : TpB (hI h 68)) (hl : len ≤ 540) (dr : MDr d md0 cs0 my wh rw0 nm) (hn : d.1 < 14) (hc : c0.1 = if mk = true then 1 else 0) (mt : MT len f0 j0 (nxt (hI h 68) len c0))
    (k1 : ∀ f' j' md' cs' my' rw' nm' v p cst c4, rdLn (hI h 68) len d c0 = (if c4.1 = 9 then ((0, c0), some (dAdd d v p cst, c4)) else ((1, c4), none)) → MT len f' j' c4 → FF f0 f' → JJ j0 j' → MDr (dAdd d v p cst) md' cs' my' wh rw' nm' → MKp md0 cs0 my wh rw0 nm md' cs' my' wh rw' nm' → Q (some (.int 1)) (MH h f' j' md' cs' my' wh rw' nm'))
    (k2 : ∀ f' j' md' cs' my' rw' nm' fk c', (rdLn (hI h 68) len d c0).2 = none → (rdLn (hI h 68) len d c0).1 = (fk, c') → okT c' → FG f0 f' → JJ j0 j' → f' 15 = nI fk → f' 16 = nI c'.2.1 → MKp md0 cs0 my wh rw0 nm md' cs' my' wh rw' nm' → Q (some (.int 0)) (MH h f' j' md' cs' my' wh rw' nm')) : WPM 164 [.ref 67, .int (if mk = true then 1 else 0)] (MH h f0 j0 md0 cs0 my wh rw0 nm) Q := by
  have hr := MH_r h
  have hs := MH_s h
  have h12 := mt.2.1
  have hn4 : ¬ c0.1 = 4 := by rw [hc]; split <;> decide
  have hn01 : ¬ (c0.1 ≠ 0 ∧ c0.1 ≠ 1) := by
    rw [hc]
    split
    · exact fun z => z.2 rfl
    · exact fun z => z.1 rfl
  have hc1 : c0.1 = 1 ↔ mk = true := by
    rw [hc]
    cases mk with
    | true => exact ⟨fun _ => rfl, fun _ => rfl⟩
    | false => exact ⟨fun z => absurd z (by decide), fun z => (by cases z)⟩
  have hRL : rdLn (hI h 68) len d c0 = if (nxt (hI h 68) len c0).1 ≠ 7 then ((1, nxt (hI h 68) len c0), none)
      else if fnd d.2.1 (nxt (hI h 68) len c0).2.2.1 0 d.1 ≠ none then ((3, nxt (hI h 68) len c0), none)
      else (match (if c0.1 = 1 then rdPa (hI h 68) len d.2.1 d.1 (nxt (hI h 68) len (nxt (hI h 68) len c0)) else ((0, nxt (hI h 68) len (nxt (hI h 68) len c0)), some (0, nxt (hI h 68) len (nxt (hI h 68) len c0)))) with
        | (f, none) => (f, none)
        | (_, some (p, c3)) => (match rdPr (hI h 68) len c3 with
          | (f, none) => (f, none)
          | (_, some (cs, c4)) => ((0, c0), some (dAdd d (nxt (hI h 68) len c0).2.2.1 p cs, c4)))) := by
    unfold rdLn
    rw [if_neg hn4, if_neg hn01, if_neg (by omega)]
    rfl
  generalize hc1' : nxt (hI h 68) len c0 = c1 at mt h12 hRL
  rw [we164]
  have mkp0 : MKp md0 cs0 my wh rw0 nm md0 cs0 my wh rw0 nm := ⟨KI.rf, KI.rf, KI.rf, KJ.rf, rfl, rfl⟩
  by_cases q7 : c1.1 = 7
  · rw [if_neg (fun z => z q7)] at hRL
    obtain ⟨t1, t2, t3, t4⟩ := mt.2.2.2.2.2.2.2.1 (by omega)
    generalize hx1 : (if mk = true then (1 : Int32) else 0) = x1
    simp only [w164_a, hr, hs, ms, mz, s161 ms mt, if_pos q7, zz]
    refine s162 (net := 1) (n := d.1) (nmv := d.2.1) (v := c1.2.2.1) ms (by decide) dr.1 dr.2.1 dr.nm t2 t4 ?_
    cases hf : fnd d.2.1 c1.2.2.1 0 d.1 with
    | some k =>
      have hk := (fnd_lt d.1 0 k hf).2.1
      have l0 : ¬ nI k < 0 := nI_nlt (a := k) (b := 0) (Nat.zero_le _) (by omega)
      rw [hf, if_pos (fun z => by cases z)] at hRL
      have k' := k2 _ j0 md0 cs0 my rw0 nm 3 c1 (by rw [hRL]) (by rw [hRL]) mt.2.2.1 (FF.rf.bad (nI 3) (nI c1.2.1)) JJ.rf rfl rfl mkp0
      simp only [w164_a, hr, hs, ms, mz, oI_some, l0, s157 ms, h12, zz]
      exact k'
    | none =>
      rw [hf, if_neg (fun z => z rfl)] at hRL
      have c1' : (nI (14 + d.1)).toNatClampNeg = 14 + d.1 := nI_clamp (by omega)
      have i1 : inb (nI (14 + d.1)) 28 = true := inb_nI (by omega) (by decide)
      have e14 : (14 : Int32) + nI d.1 = nI (14 + d.1) := nI_add 14 d.1
      have hmy := dr.1
      have uo : ∀ (r : Nat → Int32) (u : Int32) i, i ≠ 14 + d.1 → va_up r (14 + d.1) u i = r i := fun r u i hi => by rw [up_at, if_neg hi]
      have us : ∀ (r : Nat → Int32) (u : Int32), va_up r (14 + d.1) u (14 + d.1) = u := fun r u => by rw [up_at, if_pos rfl]
      have kp : ∀ (r : Nat → Int32) (u : Int32), KI r (va_up r (14 + d.1) u) := fun r u => KI.rf.up _ _
      subst hx1
      cases mk with
      | true =>
        rw [if_pos (hc1.mpr rfl)] at hRL
        simp only [w164_a, w164_b, hr, hs, ms, mz, oI_none, hmy, e14, t2, c1', i1, and11, if_true, zz]
        refine mt.next ms tb hl (by omega) fun f2 j2 mt2 ff2 jj2 => ?_
        simp only [w164_a, w164_b, hr, hs, ms, mz, zz]
        refine s165 (n := d.1) (nmv := d.2.1) ms tb hl hmy hn dr.nm mt2 (us _ _) (fun f3 j3 md3 p c3 hp mt3 ff3 jj3 g1 g2 g3 => ?_) (fun f3 j3 md3 fk c' hp1 hp2 hok fg3 jj3 g1 g2 g3 => ?_)
        · have hR3 : rdLn (hI h 68) len d c0 = (match rdPr (hI h 68) len c3 with
              | (f, none) => (f, none)
              | (_, some (cst, c4)) => ((0, c0), some (dAdd d c1.2.2.1 p cst, c4))) := by
            rw [hRL]
            cases hpa : rdPa (hI h 68) len d.2.1 d.1 (nxt (hI h 68) len c1) with
            | mk u o =>
              rw [hpa] at hp
              change o = some (p, c3) at hp
              rw [hp]
          have go := th_tail (Q := Q) (x1 := 1) (f0 := f0) (j0 := j0) (md0 := md0) (cs0 := cs0) (rw0 := rw0) ms tb hl dr hn t4 mt3 (ff2.trans ff3) (jj2.trans jj3) hR3 (fun i hi => (g2 i hi).trans (uo _ _ i hi)) g1 (fun i hi => uo _ 1 i hi) (us cs0 1) (fun i hi => uo _ 0 i hi) (by rw [us, if_neg g3]) (fun f' j' md' cs' my' rw' nm' cst c4 a1 a2 a3 a4 a5 a6 => k1 f' j' md' cs' my' rw' nm' _ _ cst c4 a1 a2 a3 a4 a5 a6) k2
          simp only [w164_b, w164_c, hr, hs, ms] at go
          simp only [w164_b, w164_c, hr, hs, ms, mz, zz]
          exact go
        · have hR3 : rdLn (hI h 68) len d c0 = ((fk, c'), none) := by
            rw [hRL]
            cases hpa : rdPa (hI h 68) len d.2.1 d.1 (nxt (hI h 68) len c1) with
            | mk u o =>
              rw [hpa] at hp1 hp2
              change o = none at hp1
              change u = (fk, c') at hp2
              rw [hp1, hp2]
          simp only [w164_b, w164_c, hr, hs, ms, mz, zz]
          exact k2 f3 j3 md3 _ my _ nm fk c' (by rw [hR3]) (by rw [hR3]) hok (FG.tr ff2 fg3) (jj2.trans jj3) g1 g2 ⟨fun k hk => (g3 k (by omega)).trans (uo _ _ k (by omega)), kp _ _, kp _ _, KJ.rf, rfl, rfl⟩
      | false =>
        rw [if_neg (fun z => by have := hc1.mp z; cases this)] at hRL
        simp only [w164_a, w164_b, hr, hs, ms, mz, oI_none, hmy, e14, t2, c1', i1, and11, if_false, zz]
        refine mt.next ms tb hl (by omega) fun f2 j2 mt2 ff2 jj2 => ?_
        have go := th_tail (Q := Q) (x1 := 0) (p := 0) (f0 := f0) (j0 := j0) (md0 := md0) (cs0 := cs0) (rw0 := rw0) (c0 := c0) ms tb hl dr hn t4 mt2 ff2 jj2 hRL (fun i hi => uo md0 0 i hi) (us md0 0) (fun i hi => uo cs0 1 i hi) (us cs0 1) (fun i hi => uo rw0 1 i hi) (by rw [us, if_pos rfl]) (fun f' j' md' cs' my' rw' nm' cst c4 a1 a2 a3 a4 a5 a6 => k1 f' j' md' cs' my' rw' nm' _ _ cst c4 a1 a2 a3 a4 a5 a6) k2
        simp only [w164_b, w164_c, hr, hs, ms] at go
        simp only [w164_a, w164_b, w164_c, hr, hs, ms, mz, zz]
        exact go
  · rw [if_pos q7] at hRL
    have k' := k2 _ j0 md0 cs0 my rw0 nm 1 c1 (by rw [hRL]) (by rw [hRL]) mt.2.2.1 (FF.rf.bad (nI 1) (nI c1.2.1)) JJ.rf rfl rfl mkp0
    simp only [w164_a, hr, hs, ms, mz, s161 ms mt, if_neg q7, s157 ms, h12, zz]
    exact k'
end Mth

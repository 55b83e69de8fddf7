/-! ===== Shortest.search: the whole ===== -/
theorem BD.succ_iff {L : List Act} {N b : Nat} {e : Nat → Bool} {D : Nat → Option Nat} {qs : List Nat} {i kk : Nat} (hw : ∀ a ∈ L, actW a) (bd : BD (sbS N b e) (sbE L N b) D qs i) (hk : ∀ y, qs[i]? = some y → kk ≤ dv D y) {v s t : Nat} {a : Act} (hv : v < kk) (hs : D s = some (v + 1)) (ha : a ∈ L) (ht : aft N b a s = some t) : D t = some v ↔ 0 < cnt L N b e v t := by
  have htl := aft_lt ht
  constructor
  · intro h
    exact ((sb_gk hw v t).mp (bd.2.2.2.1 t v h)).2.2
  · intro h
    obtain ⟨k', e1, h1⟩ := bd.sound v t ((sb_gk hw v t).mpr ⟨htl.1, htl.2, h⟩) (fun x hx => by have := hk x hx; omega)
    rcases Nat.lt_or_ge k' v with q | q
    · have g1 := ((sb_gk hw k' t).mp (bd.2.2.2.1 t k' e1)).2.2
      have g0 := (sb_gk hw (v + 1) s).mp (bd.2.2.2.1 s (v + 1) hs)
      exact absurd ((sb_gk hw (k' + 1) s).mpr ⟨g0.1, g0.2.1, cnt_pos.mpr ⟨a, t, ha, ht, g1⟩⟩) ((bd.dist hs).2 (k' + 1) (by omega))
    · have : k' = v := by omega
      rw [← this]
      exact e1
theorem SBI.zk {L : List Act} {N b : Nat} {e : Nat → Bool} {z : SZ} {i : Nat} (s : SBI L N b e z i) (hN : N ≤ 16384) : ZK N z := by
  obtain ⟨bd, ci, ix, bn⟩ := s
  have hlt : ∀ x, x ∈ z.2.2 → x < N := fun x hx => by
    cases q : z.1 x with
    | none => exact absurd q ((bd.2.1 x).mpr hx)
    | some k => exact (bn x k q).1
  refine ⟨bd.1, bd.2.1, hlt, fun x k hx => ?_⟩
  obtain ⟨j, hj⟩ := List.getElem?_of_mem ((bd.2.1 x).mp (by rw [hx]; exact Option.some_ne_none _))
  have h1 := ix j x hj
  rw [dv_some hx] at h1
  obtain ⟨hl, -⟩ := List.getElem?_eq_some_iff.mp hj
  have := nodup_len N z.2.2 bd.1 hlt
  omega
def shA (h : AH) (a : Nat) : Prop := actA a ∨ a = 50 ∨ a = hR h 50 6
section Acts75
variable {h : AH} {B M kn n w wi b : Nat} {P : Nat → Nat} {L : List Act} {e : Nat → Bool} {Q : Option Value → AH → Prop}
/-- behind the search -/
theorem acts_end {z : SZ} {i N : Nat} {qu lf : Nat → Int32} {pa : Nat → Int64} {y5 : Int32} (cw : CW B M h) (x : SX h (hR h 31 0) (hR h 31 1) (hR h 31 3) N L) (ha : ActsOK L) (hw : ∀ a ∈ L, actW a) (hN9 : 0 < N ∧ N ≤ 16384) (hb9 : b < 65536) (sb : SBI L N b e z i) (sr : SRl N z qu lf pa) (hex : z.2.2.length ≤ i ∨ z.2.2[i]? = some 0)
    (k1 : ∀ h', (∀ j, cnt L N b e j 0 = 0) → h' = SHp h (hR h 31 0) (hR h 31 1) (hR h 31 3) qu lf pa z.2.2.length → Q (some (.int (-1))) h')
    (k2 : ∀ kk h', LAc L N b e kk → CW B M h' → CFr (fun a => a = 50 ∨ a = hR h 50 6) (fun a => a = 50) h h' → RW h' (fRow L N b e kk 0) (min MR (cnt L N b e kk 0)) → Q (some (.int (nI kk))) h') :
    WP 75 78 [.ref 50, .ref kn, .int (nI w), .int (nI b), .int (nI N), .int y5] [.int 0, .ref (hR h 31 1)] (SHp h (hR h 31 0) (hR h 31 1) (hR h 31 3) qu lf pa z.2.2.length) Q := by
  obtain ⟨⟨a1, a2, a3, a4, a5, a6, a7, a8, a9⟩, ⟨l1, l2, l3, l4, l5, l6⟩, ⟨n1, n2, n3⟩, x1, x2, x3, x4⟩ := id x
  have hr := SHp_r (h := h) (p := hR h 31 3) n1 n2 n3
  have zk := sb.zk hN9.2
  obtain ⟨bd, ci, ix, bn⟩ := id sb
  obtain ⟨r1, r2, r3⟩ := sr
  have i1 : inb 0 (hL h (hR h 31 1)) = true := inb_nI (k := 0) (by omega) (by omega)
  have i2 : inb 0 (hL h (hR h 31 3)) = true := inb_nI (k := 0) (by omega) (by omega)
  have hl0 := r2 0 hN9.1
  cases q0 : z.1 0 with
  | none =>
    rw [q0, oI_none] at hl0
    have hno : ∀ j, cnt L N b e j 0 = 0 := fun j => by
      rcases Nat.eq_zero_or_pos (cnt L N b e j 0) with q | q
      · exact q
      · rcases hex with w1 | w1
        · exact absurd ((sb_gk hw j 0).mpr ⟨hN9.1, by rw [pc_0]; exact Nat.zero_le _, q⟩) (bd.unr w1 q0 j)
        · exact absurd q0 ((bd.2.1 0).mpr (List.mem_of_getElem? w1))
    simp only [w75_a, w75_b, hr, a8, i1, cl_0, hl0, i32_0m1, true_or, or_true, true_implies, not_true_eq_false, not_false_eq_true, false_implies, and_true, true_and]
    exact k1 _ hno rfl
  | some kk =>
    rw [q0, oI_some] at hl0
    have hk9 : kk ≤ 16384 := by
      obtain ⟨j, hj⟩ := List.getElem?_of_mem ((bd.2.1 0).mp (by rw [q0]; exact Option.some_ne_none _))
      have h1 := ix j 0 hj
      rw [dv_some q0] at h1
      obtain ⟨hl, -⟩ := List.getElem?_eq_some_iff.mp hj
      have := nodup_len N z.2.2 bd.1 zk.2.2.1
      omega
    have hkd : ∀ y, z.2.2[i]? = some y → kk ≤ dv z.1 y := fun y hy => by
      rcases hex with w1 | w1
      · rw [List.getElem?_eq_none w1] at hy; cases hy
      · rw [w1] at hy; cases hy; rw [dv_some q0]; exact Nat.le_refl _
    have hC := CI.final hw bd ci q0 hkd
    have hpa := (r3 0 (by rw [q0]; exact Option.some_ne_none _)).1
    rw [hC] at hpa
    have hdist := bd.dist q0
    have hcp : 0 < cnt L N b e kk 0 := ((sb_gk hw kk 0).mp hdist.1).2.2
    have la : LAc L N b e kk := ⟨hcp, fun j hj => by
      rcases Nat.eq_zero_or_pos (cnt L N b e j 0) with q | q
      · exact q
      · exact absurd ((sb_gk hw j 0).mpr ⟨hN9.1, by rw [pc_0]; exact Nat.zero_le _, q⟩) (hdist.2 j hj)⟩
    have g0 : (0 : Int32) ≤ nI kk := nI_pos' (by omega)
    have g1 : ¬ nI kk < 0 := nI_pos (by omega)
    simp only [w75_a, w75_b, hr, a1, a5, a6, a8, a9, i1, i2, cl_0, hl0, hpa, g0, g1, hs_sJ, true_or, or_true, true_implies, not_true_eq_false, not_false_eq_true, false_implies, and_true, true_and]
    have oH : OnlyIJ (fun a => a = 50 ∨ a = hR h 31 0 ∨ a = hR h 31 1) (fun a => a = 50 ∨ a = hR h 31 3) h (sJ (SHp h (hR h 31 0) (hR h 31 1) (hR h 31 3) qu lf pa z.2.2.length) 50 8 (lN (min MR (cnt L N b e kk 0)))) := (SHp_only.mono (fun _ q => q) (fun _ q => Or.inr q)).sJ _ (Or.inl rfl)
    have cwH := cw.ofIJ oH
    have cfH : CFr (fun a => a = 50 ∨ a = hR h 50 6) (fun a => a = 50) h (sJ (SHp h (hR h 31 0) (hR h 31 1) (hR h 31 3) qu lf pa z.2.2.length) 50 8 (lN (min MR (cnt L N b e kk 0)))) := CFr.ofIJ oH (fun a q => by rcases q with q | q | q; exact Or.inl (Or.inl q); exact Or.inr (Or.inl q); exact Or.inr (Or.inr (Or.inl q))) (fun a q => q)
    have hA := x.acts qu lf pa z.2.2.length
    have sy : SY (sJ (SHp h (hR h 31 0) (hR h 31 1) (hR h 31 3) qu lf pa z.2.2.length) 50 8 (lN (min MR (cnt L N b e kk 0)))) (hR h 31 1) N L z.1 := ⟨⟨a1, a2, a3, a5, a8⟩, ⟨l3, l4⟩, x3, hA, fun t ht => by
      show hI (SHp h (hR h 31 0) (hR h 31 1) (hR h 31 3) qu lf pa z.2.2.length) (hR h 31 1) t = _
      rw [(hr qu lf pa z.2.2.length).2.2.2.1]
      exact r2 t ht⟩
    refine s79 (h := sJ (SHp h (hR h 31 0) (hR h 31 1) (hR h 31 3) qu lf pa z.2.2.length) 50 8 (lN (min MR (cnt L N b e kk 0)))) cwH sy ha hN9.2 hb9 (fun t k ht => by have := zk.2.2.2 t k ht; omega) hk9 hN9.1 q0 hcp (fun v s t a hv hs ha' ht => bd.succ_iff hw hkd hv hs ha' ht) fun h' cw' cf' h7 hl6 hrow hJ' => ?_
    have t50 : hT h' 50 = 9 := by simp only [cw'.1]
    simp only [w75_a, w75_b, t50, h7, Option.toList_none, List.nil_append]
    have hlen := fRow_len (L := L) (N := N) (b := b) (e := e) kk 0 hcp
    refine k2 kk h' la cw' (cfH.trans cf' (fun a ha' q => q) (fun _ _ q => q.elim)) ⟨by rw [hlen]; exact h7, ?_, by omega, by rw [hlen]; exact hl6, hrow⟩
    rw [hJ', hJ_sJ, if_pos ⟨rfl, rfl⟩]
theorem acts_l {N : Nat} (cw : CW B M h) (x : SX h (hR h 31 0) (hR h 31 1) (hR h 31 3) N L) (ha : ActsOK L) (hw : ∀ a ∈ L, actW a) (hN9 : 0 < N ∧ N ≤ 16384) (hb9 : b < 65536)
    (k1 : ∀ h' qu lf pa m, (∀ j, cnt L N b e j 0 = 0) → h' = SHp h (hR h 31 0) (hR h 31 1) (hR h 31 3) qu lf pa m → Q (some (.int (-1))) h')
    (k2 : ∀ kk h', LAc L N b e kk → CW B M h' → CFr (fun a => a = 50 ∨ a = hR h 50 6) (fun a => a = 50) h h' → RW h' (fRow L N b e kk 0) (min MR (cnt L N b e kk 0)) → Q (some (.int (nI kk))) h') :
    ∀ d i z qu lf pa, N - i = d → i ≤ N → SBI L N b e z i → SRl N z qu lf pa → WP 75 26 [.ref 50, .ref kn, .int (nI w), .int (nI b), .int (nI N), .int (nI i)] [] (SHp h (hR h 31 0) (hR h 31 1) (hR h 31 3) qu lf pa z.2.2.length) Q := by
  obtain ⟨⟨a1, a2, a3, a4, a5, a6, a7, a8, a9⟩, ⟨l1, l2, l3, l4, l5, l6⟩, ⟨n1, n2, n3⟩, x1, x2, x3, x4⟩ := id x
  have hr := SHp_r (h := h) (p := hR h 31 3) n1 n2 n3
  intro d
  induction d with
  | zero =>
    intro i z qu lf pa hd hi sb sr
    have zk := sb.zk hN9.2
    have hlen := nodup_len N z.2.2 zk.1 zk.2.2.1
    have hle : nI z.2.2.length ≤ nI i := nI_le (by omega) (by omega)
    rw [w75_26]
    simp only [w75_a, hr, a1, a5, hle, true_implies, not_true_eq_false, false_implies, and_true]
    exact acts_end cw x ha hw hN9 hb9 sb sr (Or.inl (by omega)) (fun h' g1 g2 => k1 h' _ _ _ _ g1 g2) k2
  | succ d ih =>
    intro i z qu lf pa hd hi sb sr
    have zk := sb.zk hN9.2
    have hlen := nodup_len N z.2.2 zk.1 zk.2.2.1
    rw [w75_26]
    by_cases q : z.2.2.length ≤ i
    · have hle : nI z.2.2.length ≤ nI i := nI_le (by omega) (by omega)
      simp only [w75_a, hr, a1, a5, hle, true_implies, not_true_eq_false, false_implies, and_true]
      exact acts_end cw x ha hw hN9 hb9 sb sr (Or.inl q) (fun h' g1 g2 => k1 h' _ _ _ _ g1 g2) k2
    · have hle : ¬ nI z.2.2.length ≤ nI i := nI_ge (by omega) (by omega)
      have hle2 : ¬ nI N ≤ nI i := nI_ge (by omega) (by omega)
      have c1 : (nI i).toNatClampNeg = i := nI_clamp (by omega)
      have i1 : inb (nI i) (hL h (hR h 31 0)) = true := inb_nI (by omega) (by omega)
      have hil : i < z.2.2.length := by omega
      obtain ⟨t0, ht0⟩ : ∃ t0, z.2.2[i]? = some t0 := ⟨_, List.getElem?_eq_getElem hil⟩
      have hqu := sr.1 i t0 ht0
      have htm := List.mem_of_getElem? ht0
      have htN := zk.2.2.1 t0 htm
      by_cases q2 : t0 = 0
      · subst q2
        have hz : nI 0 = 0 := rfl
        rw [hz] at hqu
        simp only [w75_a, hr, a1, a4, a5, a7, hle, hle2, c1, i1, hqu, true_or, or_true, true_implies, not_true_eq_false, not_false_eq_true, false_implies, and_true, true_and]
        exact acts_end cw x ha hw hN9 hb9 sb sr (Or.inr ht0) (fun h' g1 g2 => k1 h' _ _ _ _ g1 g2) k2
      · have hne : ¬ nI t0 = 0 := nI_ne0 (by omega) (by omega)
        simp only [w75_a, hr, a1, a4, a5, a7, hle, hle2, c1, i1, hqu, hne, true_or, or_true, true_implies, not_true_eq_false, not_false_eq_true, false_implies, and_true, true_and]
        obtain ⟨dt, hdt⟩ : ∃ dt, z.1 t0 = some dt := by
          cases q3 : z.1 t0 with
          | none => exact absurd q3 ((zk.2.1 t0).mpr htm)
          | some k => exact ⟨k, rfl⟩
        have hdt9 : dt ≤ 16384 := by
          have h1 := sb.2.2.1 i t0 ht0
          rw [dv_some hdt] at h1
          omega
        refine s78 x ha hw hN9.2 hb9 (sb.2.2.2 t0 dt hdt) hdt9 sr zk hdt fun qu' lf' pa' sr' zk' => ?_
        simp only [w75_a, Option.toList_none, List.nil_append, nI_1]
        exact ih (i + 1) _ qu' lf' pa' (by omega) (by omega) (sb.step hw ht0 hdt) sr'
theorem s75 (cw : CW B M h) (hkn : kn = 4 ∨ kn = 15) (hp : NetP h kn n P) (po : PartsOK n P) (hw : w < 8) (hwi : wi < 65536) (hb9 : b < 65536) (h2 : hI h kn 2 = nI wi)
    (k1 : ∀ h', (∀ j, cnt (actsOf n P w) (2 ^ n) b (isEndB w wi) j 0 = 0) → CW B M h' → CFr (shA h) (fun a => a = 50) h h' → (∀ row many, RW h row many → RW h' row many) → Q (some (.int (-1))) h')
    (k2 : ∀ kk h', LAc (actsOf n P w) (2 ^ n) b (isEndB w wi) kk → CW B M h' → CFr (shA h) (fun a => a = 50) h h' → RW h' (fRow (actsOf n P w) (2 ^ n) b (isEndB w wi) kk 0) (min MR (cnt (actsOf n P w) (2 ^ n) b (isEndB w wi) kk 0)) → Q (some (.int (nI kk))) h') : WPM 75 [.ref 50, .ref kn, .int (nI w), .int (nI b)] h Q := by
  have hn14 := po.1
  have hN0 : 0 < 2 ^ n := Nat.pow_pos (by decide)
  have hN9 : 2 ^ n ≤ 16384 := p2_le (n := 14) hn14
  have hpw : (1 : Int32) <<< (nI n &&& 31) = nI (2 ^ n) := nI_pow n (by omega)
  have a1 : hT h 50 = 9 := by simp only [cw.1]
  have a2 : hR h 50 1 = 36 := by simp only [cw.1]
  have a3 : hT h 36 = 1 := by simp only [cw.1]
  rw [we75]
  simp only [w75_a, a1, a2, a3]
  refine s2n cw (by omega) hp po hw fun h1 cw1 o1 hA1 => ?_
  have hp1 : NetP h1 kn n P := hp.only o1 (by unfold actA; omega) (by unfold actA; omega)
  have b1 : hT h1 50 = 9 := by simp only [cw1.1]
  have hkt : hT h1 kn = 4 := hp1.1.1
  have e2 : hI h1 kn 2 = nI wi := by rw [o1.2.2.2.2.2.2 kn (by unfold actA; omega)]; exact h2
  have cf1 : CFr (shA h) (fun a => a = 50) h h1 := CFr.ofI o1 fun a q => Or.inl q
  simp only [w75_a, s25 hp1.1, hp1.2.1, hpw, b1, hkt, Option.toList_none, Option.toList_some, List.cons_append, List.nil_append]
  have hu : (actsOf n P w) = (actsOf n P w) := rfl
  refine s76 cw1 hkn hp1 po hw hwi hb9 e2 hA1 fun h3 qu lf pa cw3 cf3 x er6 sr => ?_
  have cf4 : CFr (shA h) (fun a => a = 50) h h3 := cf1.trans cf3 (fun _ _ q => q.elim) (fun _ _ q => q.elim)
  have er1 : hR h1 50 6 = hR h 50 6 := by rw [o1.2.2.2.1]
  simp only [w75_a, Option.toList_none, List.nil_append]
  refine acts_l cw3 x (po.acts w) (parts_actW po) ⟨hN0, hN9⟩ hb9 (fun h' qu' lf' pa' m g1 g2 => ?_) (fun kk h' la cw' cf' rw' => ?_) (2 ^ n) 0 (z00 (2 ^ n) b (isEndB w wi)) qu lf pa rfl (Nat.zero_le _) (SBI.start _ _ _ _) sr
  · subst g2
    have oH : OnlyIJ (fun a => a = 50 ∨ a = hR h3 31 0 ∨ a = hR h3 31 1) (fun a => a = hR h3 31 3) h3 (SHp h3 (hR h3 31 0) (hR h3 31 1) (hR h3 31 3) qu' lf' pa' m) := SHp_only
    have cfH : CFr (shA h) (fun a => a = 50) h3 (SHp h3 (hR h3 31 0) (hR h3 31 1) (hR h3 31 3) qu' lf' pa' m) := CFr.ofIJ oH (fun a q => by rcases q with q | q | q; exact Or.inl (Or.inr (Or.inl q)); exact Or.inr (Or.inl q); exact Or.inr (Or.inr (Or.inl q))) (fun a q => Or.inr q)
    refine k1 _ g1 (cw3.ofIJ oH) (cf4.trans' cfH) fun row many hrw => ?_
    obtain ⟨w1, w2, w3, w4, w5⟩ := hrw
    have eI : ∀ j, j ≠ 5 → hI (SHp h3 (hR h3 31 0) (hR h3 31 1) (hR h3 31 3) qu' lf' pa' m) 50 j = hI h 50 j := fun j hj => by
      rw [SHp_I, if_neg (cw3.far (a := 50) (by decide)).2.1, if_neg (cw3.far (a := 50) (by decide)).1, if_pos rfl, up_at, if_neg hj, cf3.keep cw1 (by omega) (by omega) id, o1.2.2.2.2.2.2 50 (by unfold actA; omega)]
    have eJ : hJ (SHp h3 (hR h3 31 0) (hR h3 31 1) (hR h3 31 3) qu' lf' pa' m) 50 = hJ h 50 := by
      rw [SHp_J, if_neg (cw3.far (a := 50) (by decide)).2.2.2.1, (cf3.1.2.2.1 50 (by have := cw1.c100; omega)).2.2.2 (fun z => by rcases z with z | z; exact z; exact (cw1.far (a := 50) (by decide)).2.2.2.1 z), o1.2.2.1]
    have eR6 : hR (SHp h3 (hR h3 31 0) (hR h3 31 1) (hR h3 31 3) qu' lf' pa' m) 50 6 = hR h 50 6 := er6.trans er1
    have hb6 : hR h 50 6 < hN h1 := by rw [o1.2.2.2.2.1]; exact cw.bl.2.2.2.2.2
    have eL6 : hL (SHp h3 (hR h3 31 0) (hR h3 31 1) (hR h3 31 3) qu' lf' pa' m) (hR h 50 6) = hL h (hR h 50 6) := by
      show hL h3 (hR h 50 6) = _
      rw [(cf3.1.2.2.1 _ hb6).2.1, o1.2.1]
    have eI6 : hI (SHp h3 (hR h3 31 0) (hR h3 31 1) (hR h3 31 3) qu' lf' pa' m) (hR h 50 6) = hI h (hR h 50 6) := by
      rw [SHp_I, ← eR6, if_neg (fun z => cw3.ap.2.2.2.2.2.2.2.2.1 z.symm), if_neg (fun z => cw3.ap.2.2.2.2.1 z.symm), if_neg (fun z => (cw3.far (a := 50) (by decide)).2.2.2.2.2 z.symm), eR6, (cf3.1.2.2.1 _ hb6).2.2.1 (by rw [← er1]; rintro (z | z | z | z); exact z; exact cw1.ap.2.2.2.2.1 z.symm; exact cw1.ap.2.2.2.2.2.2.2.2.1 z.symm; exact cw1.ap.2.2.2.2.2.2.2.2.2.2.2.1 z.symm), o1.2.2.2.2.2.2 _ (by have := cw.nact.2.2.2.2.2; unfold actA; omega)]
    refine ⟨by rw [eI 7 (by decide)]; exact w1, by rw [eJ]; exact w2, w3, by rw [eR6, eL6]; exact w4, fun j v hj => ?_⟩
    rw [eR6, eI6]
    exact w5 j v hj
  · refine k2 kk h' la cw' (cf4.trans cf' (fun a ha q => ?_) (fun a ha q => q)) rw'
    rcases q with q | q
    · exact Or.inr (Or.inl q)
    · refine Or.inr (Or.inr ?_)
      rw [q, er6, er1]
end Acts75

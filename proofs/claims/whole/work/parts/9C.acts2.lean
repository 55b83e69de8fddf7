/-! ===== the reference's acts: the first row; the whole method; actAt, rows ===== -/
section Ac2
variable {h : AH} {n w wi b best : Nat} {P : Nat → Nat} {D : Nat → Option Nat} {qs : List Nat} {fa : Nat → Int32} {Q : Option Value → AH → Prop}
theorem row_l (ab : ABs h n w wi b P D qs fa best) (h82 : ∀ x, x ∈ qs → rfR n w wi b best P D (hJ h 82) x)
    (k : ∀ f, RowI f (fRow (actsOf n P w) (2 ^ n) b (isEndB w wi) best 0) → Q (some (.int (nI best))) (setI h 83 f)) :
    ∀ d i s pre f x6 x7, best - i = d → i ≤ best → s ∈ qs → dv D s = i → 0 < cnt (actsOf n P w) (2 ^ n) b (isEndB w wi) (best - i) s → fRow (actsOf n P w) (2 ^ n) b (isEndB w wi) best 0 = pre ++ fRow (actsOf n P w) (2 ^ n) b (isEndB w wi) (best - i) s → pre.length = i → RowI f pre → WP 184 233 [.ref 67, .int (nI w), .int (nI b), .int (nI best), .int (nI s), .int (nI i), x6, x7] [] (setI h 83 f) Q := by
  obtain ⟨ms, nt, po, wb, ac, hwi, si, hfa, h80, hb9⟩ := id ab
  have hn := po.1
  have hN9 : 2 ^ n ≤ 16384 := p2_le (n := 14) hn
  obtain ⟨a1, a2, a3⟩ := ac
  have hr := hs_setI h 83
  have e79 : ∀ f, hI (setI h 83 f) 79 = hI h 79 := fun f => rfl
  have e80 : ∀ f, hI (setI h 83 f) 80 = fa := fun f => h80
  intro d
  induction d with
  | zero =>
    intro i s pre f x6 x7 hd hi hs hds hc he hl hf
    have hib : i = best := by omega
    subst hib
    have hle : nI i ≤ nI i := nI_le (Nat.le_refl _) (by omega)
    rw [w184_233]
    simp only [w184_d, w184_e, hle, zz]
    refine k f ?_
    rw [he, Nat.sub_self]
    show RowI f (pre ++ [])
    rw [List.append_nil]
    exact hf
  | succ d ih =>
    intro i s pre f x6 x7 hd hi hs hds hc he hl hf
    have hib : i < best := by omega
    have hle : ¬ nI best ≤ nI i := nI_ge hib (by omega)
    have hsN := si.2.1 s hs
    obtain ⟨hDs, hDs9⟩ := si.dq hN9 hs
    have c4 : (nI s).toNatClampNeg = s := nI_clamp (by omega)
    have i4 : inb (nI s) 16384 = true := inb_nI (by omega) (by decide)
    have hfs : fa s = nI (dv D s) := by rw [hfa s (by omega), hDs, fr_some]
    have e1 : best - i = (best - (i + 1)) + 1 := by omega
    rw [e1] at hc
    obtain ⟨a0, t0, ha0, h01, h02⟩ := cnt_pos.mp hc
    obtain ⟨m, a, hm, hpa, hbef, hfind⟩ := find_first (p := stA1 (actsOf n P w) (2 ^ n) b (isEndB w wi) (best - (i + 1)) s) (actsOf n P w) ⟨a0, ha0, by unfold stA1; rw [h01]; simpa using h02⟩
    have ham : a ∈ actsOf n P w := List.mem_of_getElem? hm
    obtain ⟨hml, -⟩ := List.getElem?_eq_some_iff.mp hm
    have hst := fun (a : Act) (ha : a ∈ actsOf n P w) => si.st hs (by omega) ha
    rw [hds] at hst
    obtain ⟨t, ht, hDt, hrt⟩ := (hst a ham).mp hpa
    have htN := aft_lt ht
    obtain ⟨kt, k1, k2, k3⟩ := si.nxt hs ham ht
    have hfr : fRow (actsOf n P w) (2 ^ n) b (isEndB w wi) (best - i) s = a.1 :: fRow (actsOf n P w) (2 ^ n) b (isEndB w wi) (best - (i + 1)) t := by
      rw [e1]
      show (match (actsOf n P w).find? (stA1 (actsOf n P w) (2 ^ n) b (isEndB w wi) (best - (i + 1)) s) with
        | some a => a.1 :: fRow (actsOf n P w) (2 ^ n) b (isEndB w wi) (best - (i + 1)) ((aft (2 ^ n) b a s).getD 0)
        | none => []) = _
      rw [hfind]
      dsimp only
      rw [ht]
      rfl
    have hct : 0 < cnt (actsOf n P w) (2 ^ n) b (isEndB w wi) (best - (i + 1)) t := by
      have h9 := hpa
      unfold stA1 at h9
      rw [ht] at h9
      simpa using h9
    have lp : ∀ e m' a', m - m' = e → m' ≤ m → (actsOf n P w)[m']? = some a' → WP 184 256 [.ref 67, .int (nI w), .int (nI b), .int (nI best), .int (nI s), .int (nI i), .int (nI m'), .int (oI (aft (2 ^ n) b a' s))] [] (setI h 83 f) Q := by
      intro e
      induction e with
      | zero =>
        intro m' a' he' hm' ha'
        have hmm : m' = m := by omega
        subst hmm
        rw [hm] at ha'
        cases ha'
        have c2 : (nI t).toNatClampNeg = t := nI_clamp (by omega)
        have i2 : inb (nI t) 16384 = true := inb_nI (by omega) (by decide)
        have hneg : ¬ nI t < 0 := nI_pos (by omega)
        have hft : fa t = nI (dv D s + 1) := by rw [hfa t (by omega), hDt, fr_some, hds]
        have hv := h82 t k3
        unfold rfR at hv
        have hle9 := rfv_le (L := actsOf n P w) (N := 2 ^ n) (b := b) (e := isEndB w wi) (best := best) (s := t) (D := D)
        have hMR : MR = 1000000000000000 := rfl
        have hcmp : ¬ lg_cmp (lN (rfv (actsOf n P w) (2 ^ n) b (isEndB w wi) D best t)) 0 = 0 := fun z => by
          rw [lg_cmp_eq, show (0 : Int64) = lN 0 from rfl, lN_eqI (by omega) (by decide)] at z
          exact hrt z
        have c5 : (nI i).toNatClampNeg = i := nI_clamp (by omega)
        have i5 : inb (nI i) 16384 = true := inb_nI (by omega) (by decide)
        have c6 : (nI m').toNatClampNeg = m' := nI_clamp (by omega)
        have i6 : inb (nI m') 112 = true := inb_nI (by omega) (by decide)
        have har : hI h 79 m' = nI a.1 := a2 m' a.1 (by rw [List.getElem?_map, hm]; rfl)
        rw [w184_256]
        simp only [w184_d, w184_e, hr, ms, ht, oI_some, hneg, c2, i2, c4, i4, e79, e80, hfs, hft, nI_1, hv, hcmp, c5, i5, c6, i6, har, sI_setI, zz]
        have := ih (i + 1) t (pre ++ [a.1]) (va_up f i (nI a.1)) (.int (nI m')) (.int (nI t)) (by omega) (by omega) k3 (by rw [dv_some hDt]) hct (by rw [he, hfr, List.append_assoc]; rfl) (by rw [List.length_append, hl]; rfl) (by rw [← hl]; exact hf.add _)
        exact this
      | succ e ihe =>
        intro m' a' he' hm' ha'
        have ham' : a' ∈ actsOf n P w := List.mem_of_getElem? ha'
        have hfalse := hbef m' a' (by omega) ha'
        have hnot : ¬ ∃ t, aft (2 ^ n) b a' s = some t ∧ D t = some (i + 1) ∧ rfv (actsOf n P w) (2 ^ n) b (isEndB w wi) D best t ≠ 0 := fun z => by
          rw [(hst a' ham').mpr z] at hfalse
          cases hfalse
        obtain ⟨a'', ha''⟩ : ∃ a'', (actsOf n P w)[m' + 1]? = some a'' := ⟨_, List.getElem?_eq_getElem (by omega)⟩
        have har : hI h 79 (m' + 1) = nI a''.1 := a2 (m' + 1) a''.1 (by rw [List.getElem?_map, ha'']; rfl)
        have c6 : (nI (m' + 1)).toNatClampNeg = m' + 1 := nI_clamp (by omega)
        have i6 : inb (nI (m' + 1)) 112 = true := inb_nI (by omega) (by decide)
        have haft := fun (f : Nat → Int32) (Q : Option Value → AH → Prop) => s178a (h := setI h 83 f) (Q := Q) ms nt po wb (List.mem_of_getElem? ha'') hsN.1 hsN.2
        have nxt := ihe (m' + 1) a'' (by omega) (by omega) ha''
        rw [w184_256]
        cases haf : aft (2 ^ n) b a' s with
        | none =>
          simp only [w184_d, w184_e, hr, ms, mz, oI_none, nI_1, c6, i6, e79, har, haft, zz]
          exact nxt
        | some t' =>
          have htN' := aft_lt haf
          obtain ⟨kt', g1, g2, g3⟩ := si.nxt hs ham' haf
          obtain ⟨hDt', hDt9'⟩ := si.dq hN9 g3
          have c2 : (nI t').toNatClampNeg = t' := nI_clamp (by omega)
          have i2 : inb (nI t') 16384 = true := inb_nI (by omega) (by decide)
          have hneg : ¬ nI t' < 0 := nI_pos (by omega)
          have hft : fa t' = nI (dv D t') := by rw [hfa t' (by omega), hDt', fr_some]
          have heq : (nI (dv D t') = nI (dv D s + 1)) ↔ dv D t' = dv D s + 1 := nI_eq (by omega) (by omega)
          by_cases q : dv D t' = dv D s + 1
          · have hz : rfv (actsOf n P w) (2 ^ n) b (isEndB w wi) D best t' = 0 := Decidable.byContradiction fun z => hnot ⟨t', haf, by rw [hDt', q, hds], z⟩
            have hv := h82 t' g3
            unfold rfR at hv
            rw [hz] at hv
            have hcmp : lg_cmp (lN 0) 0 = 0 := by decide +kernel
            simp only [w184_d, w184_e, hr, ms, mz, oI_some, hneg, c2, i2, c4, i4, e79, e80, hfs, hft, nI_1, heq, q, hv, hcmp, c6, i6, har, haft, zz]
            exact nxt
          · simp only [w184_d, w184_e, hr, ms, mz, oI_some, hneg, c2, i2, c4, i4, e79, e80, hfs, hft, nI_1, heq, q, c6, i6, har, haft, zz]
            exact nxt
    obtain ⟨b0, hb0⟩ : ∃ b0, (actsOf n P w)[0]? = some b0 := ⟨_, List.getElem?_eq_getElem (by omega)⟩
    have har : hI h 79 0 = nI b0.1 := a2 0 b0.1 (by rw [List.getElem?_map, hb0]; rfl)
    have i0 : inb 0 112 = true := by decide +kernel
    have haft := fun (f : Nat → Int32) (Q : Option Value → AH → Prop) => s178a (h := setI h 83 f) (Q := Q) ms nt po wb (List.mem_of_getElem? hb0) hsN.1 hsN.2
    rw [w184_233]
    simp only [w184_d, w184_e, hr, ms, mz, hle, e79, har, i0, haft, zz]
    have := lp m 0 b0 (by omega) (Nat.zero_le _) hb0
    rw [nI_0] at this
    exact this
/-- the row that stands, and how many -/
def MRw (h : AH) (row : List Nat) (many : Nat) : Prop := hI h 67 31 = nI row.length ∧ hJ h 67 32 = lN many ∧ RowI (hI h 83) row ∧ row.length ≤ 16384
def maA (a : Nat) : Prop := mfA a ∨ a = 83
def maS (j : Nat) : Prop := mfS j ∨ j = 31
def maJ (a : Nat) : Prop := a = 82
def maT (j : Nat) : Prop := j = 32
theorem s184 (ms : MS0 h) (nt : MNt h n P wi) (po : PartsOK n P) (hn0 : 0 < n) (hw : w < 8) (hb1 : 1 ≤ b) (hb : b ≤ 14) (hwi : wi < 2 ^ n)
    (k1 : ∀ h', (∀ j, cnt (actsOf n P w) (2 ^ n) b (isEndB w wi) j 0 = 0) → MF h h' → Q (some (.int (-1))) h')
    (k2 : ∀ kk h', LAc (actsOf n P w) (2 ^ n) b (isEndB w wi) kk → MO maA maS maJ maT h h' → MRw h' (fRow (actsOf n P w) (2 ^ n) b (isEndB w wi) kk 0) (min MR (cnt (actsOf n P w) (2 ^ n) b (isEndB w wi) kk 0)) → Q (some (.int (nI kk))) h') : WPM 184 [.ref 67, .int (nI w), .int (nI b)] h Q := by
  have q := asked_t hw hb1 hb hn0 po.1
  have mf : MF h (sI h 67 0 0) := MF.z
  have hN9 : 2 ^ n ≤ 16384 := p2_le (n := 14) po.1
  rw [we184]
  simp only [w184_a, ms, mz, hs_sI, s182 (mf.ms ms), e72z, nt.1, if_pos q, zz]
  refine WPM_mono (lay_spread (pcl := 0) (Q := fun r h' => WP 184 27 [.ref 67, .int (nI w), .int (nI b), .retAddr 0, .retAddr 0, .retAddr 0, .retAddr 0, .retAddr 0] (r.toList ++ []) h' Q) (mf.ms ms) (mf.nt nt) po hw hb hwi fun h2 D qs o fa qu m2 wb ac si sr => ?_) ?_
  · have ms2 := (mf.trans m2).ms ms
    have nt2 := MF.nt (mf.trans m2) nt
    have mf3 : MF h (SpH h2 fa qu qs.length) := (mf.trans m2).trans MF.sp
    cases o with
    | none =>
      simp only [w184_a, oI_none, mz, zz]
      exact k1 _ (si.noCnt si.zero.1) mf3
    | some best =>
      have hb9 : best ≤ 16384 := by
        obtain ⟨⟨x, x1, x2, x3⟩, -⟩ := si.2.2.2.2 best rfl
        have := (si.dq hN9 x1).2
        rw [dv_some x3] at this
        exact this
      have hneg : (0 : Int32) ≤ nI best := nI_pos' (by omega)
      have ab : ABs (SpH h2 fa qu qs.length) n w wi b P D qs fa best := ⟨ms2, nt2, po, wb, ac, hwi, si, sr.1, rfl, hb9⟩
      have hql := nodup_len (2 ^ n) qs si.1.1 (fun y hy => (si.2.1 y hy).1)
      have hq0 : 0 < qs.length := List.length_pos_of_mem si.zero.1
      have em : nI qs.length - 1 = mkI qs.length := by
        obtain ⟨c, hc⟩ : ∃ c, qs.length = c + 1 := ⟨qs.length - 1, by omega⟩
        rw [hc, mkI_s]
        exact nI_pred c
      simp only [w184_a, oI_some, hneg, SpH_r h2, ms2, em, zz]
      have go := acc_out (Q := Q) ab sr.2 (fun rf x5 x6 x7 hrf => ?_) qs.length (hJ (SpH h2 fa qu qs.length) 82) (.retAddr 0) (.retAddr 0) (.retAddr 0) (Nat.le_refl _) (fun j x hj hx => by rw [List.getElem?_eq_none hj] at hx; cases hx)
      · rw [setJ_id] at go
        exact go
      · have i0 : inb 0 16384 = true := by decide +kernel
        have hr := hs_setJ (SpH h2 fa qu qs.length) 82 rf
        have e82 : hJ (setJ (SpH h2 fa qu qs.length) 82 rf) 82 = rf := rfl
        have hr2 := hs_sJ (setJ (SpH h2 fa qu qs.length) 82 rf) 67 32 (rf 0)
        simp only [w184_c, w184_d, hr, hr2, SpH_r h2, ms2, e82, mz, i0, zz]
        have ab2 : ABs (sI (sJ (setJ (SpH h2 fa qu qs.length) 82 rf) 67 32 (rf 0)) 67 31 (nI best)) n w wi b P D qs fa best := ⟨ms2, nt2, po, wb, ac, hwi, si, sr.1, rfl, hb9⟩
        have hz := si.zero
        have hl := si.lac
        have hlen := fRow_len best 0 hl.1
        have := row_l (Q := Q) ab2 hrf (fun f hf => ?_) best 0 0 [] (hI (sI (sJ (setJ (SpH h2 fa qu qs.length) 82 rf) 67 32 (rf 0)) 67 31 (nI best)) 83) x6 x7 rfl (Nat.zero_le _) hz.1 (dv_some hz.2) hl.1 rfl rfl (RowI.nil _)
        · rw [setI_id, nI_0] at this
          exact this
        · refine k2 best _ hl ?_ ⟨by rw [hlen]; rfl, ?_, hf, by rw [hlen]; exact hb9⟩
          · have m4 : MO maA maS maJ maT h (SpH h2 fa qu qs.length) := mf3.mono (fun _ q => Or.inl q) (fun _ q => Or.inl q) (fun _ q => absurd q id) (fun _ q => absurd q id)
            exact (((m4.rJ rf rfl).sJ67 (rf 0) rfl).sI67 (nI best) (Or.inr rfl)).rI f (Or.inr rfl)
          · show rf 0 = _
            have h0 := hrf 0 hz.1
            unfold rfR rfv at h0
            rw [dv_some hz.2, if_pos (Nat.zero_le _), Nat.sub_zero] at h0
            exact h0
  · rintro r h' ⟨rfl, ht', hw'⟩
    simp only [w184_a, ht', zz]
    exact hw'
theorem s184f {v u : Int32} (ms : MS0 h) (h72 : hI h 72 0 = nI n) (hq : ¬ ((0 ≤ v ∧ v ≤ 7) ∧ (1 ≤ u ∧ u ≤ 14) ∧ 0 < nI n)) : WPM 184 [.ref 67, .int v, .int u] h Q ↔ Q (some (.int (-2))) (sI h 67 0 0) := by
  have mf : MF h (sI h 67 0 0) := MF.z
  rw [we184]
  simp only [w184_a, ms, mz, hs_sI, s182 (mf.ms ms), e72z, h72, if_neg hq, zz]
/-- an index of a row of m -/
theorem ix_t {i m : Nat} (hi : i < m) (hm : m < 2 ^ 30) : (0 : Int32) ≤ nI i ∧ nI i ≤ nI m - 1 := by
  have h1 : nI m - 1 = nI (m - 1) := pk_sub (a := m) (b := 1) (by omega)
  rw [h1]
  exact ⟨nI_pos' (by omega), nI_le (by omega) (by omega)⟩
theorem ix_f {v : Int32} {m : Nat} (hm : m < 2 ^ 30) (h : ¬ (0 ≤ v ∧ v < nI m)) : ¬ ((0 : Int32) ≤ v ∧ v ≤ nI m - 1) := by
  rintro ⟨h1, h2⟩
  obtain ⟨j, hj, rfl⟩ := nI_of (Int32.not_lt.mpr h1)
  rcases Nat.eq_zero_or_pos m with q | q
  · subst q
    have h3 : nI 0 - 1 = -1 := by decide +kernel
    rw [h3] at h2
    have h5 := nI_toInt hj
    rw [Int32.le_iff_toInt_le, h5] at h2
    have : (-1 : Int32).toInt = -1 := by decide +kernel
    omega
  · have h3 : nI m - 1 = nI (m - 1) := pk_sub (a := m) (b := 1) (by omega)
    rw [h3, nI_leI hj (by omega)] at h2
    exact h ⟨h1, nI_lt (by omega) (by omega)⟩
/-- what an index of a row of numbers answers -/
def atR (row : List Nat) (v : Int32) : Int32 := if 0 ≤ v ∧ v < nI row.length then oI (row[v.toNatClampNeg]?) else -1
theorem atR_in {row : List Nat} {i x : Nat} (hi : row[i]? = some x) (hl : row.length < 2 ^ 30) : atR row (nI i) = nI x := by
  obtain ⟨h1, -⟩ := List.getElem?_eq_some_iff.mp hi
  unfold atR
  rw [if_pos ⟨nI_pos' (by omega), nI_lt h1 (by omega)⟩, nI_clamp (by omega), hi]
  rfl
theorem atR_cases (row : List Nat) (hl : row.length < 2 ^ 30) (v : Int32) : (∃ i x, v = nI i ∧ row[i]? = some x ∧ i < row.length ∧ atR row v = nI x) ∨ (¬ (0 ≤ v ∧ v < nI row.length) ∧ atR row v = -1) := by
  by_cases q : 0 ≤ v ∧ v < nI row.length
  · obtain ⟨i, hi, rfl⟩ := nI_of (Int32.not_lt.mpr q.1)
    have hil : i < row.length := (nI_ltI hi (by omega)).mp q.2
    exact Or.inl ⟨i, row[i], rfl, List.getElem?_eq_getElem hil, hil, atR_in (List.getElem?_eq_getElem hil) hl⟩
  · refine Or.inr ⟨q, ?_⟩
    unfold atR
    rw [if_neg q]
theorem s185 {row : List Nat} {many : Nat} (ms : MS0 h) (mr : MRw h row many) (v : Int32) : WPM 185 [.ref 67, .int v] h Q ↔ Q (some (.int (atR row v))) (sI h 67 0 0) := by
  obtain ⟨r1, r2, r3, r4⟩ := mr
  have e31 : hI (sI h 67 0 0) 67 31 = nI row.length := r1
  have e83 : hI (sI h 67 0 0) 83 = hI h 83 := rfl
  rw [we185]
  rcases atR_cases row (by omega) v with ⟨i, x, rfl, hx, hil, ha⟩ | ⟨q, ha⟩
  · have c1 : (nI i).toNatClampNeg = i := nI_clamp (by omega)
    have i1 : inb (nI i) 16384 = true := inb_nI (by omega) (by decide)
    have hq := ix_t hil (show row.length < 2 ^ 30 by omega)
    rw [ha]
    simp only [w185, ms, hs_sI, e31, e83, s150, if_pos hq, c1, i1, r3 i x hx, mz, zz]
  · have hq := ix_f (show row.length < 2 ^ 30 by omega) q
    rw [ha]
    simp only [w185, ms, hs_sI, e31, s150, if_neg hq, mz, zz]
theorem s186 (ms : MS0 h) : WPM 186 [.ref 67] h Q ↔ Q (some (.long (hJ h 67 32))) (sI h 67 0 0) := by
  simp only [we186, w186, ms, hs_sI]
end Ac2

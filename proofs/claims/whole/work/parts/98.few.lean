/-! ===== the reference: fewestBy, fewest, alone, reached, canBe, ready ===== -/
theorem gk_rch {L : List Act} {N b : Nat} : ∀ k x, GK (fun x => x = 0) (spE L N b) k x ↔ RchK L N b k x := by
  intro k
  induction k with
  | zero => exact fun x => Iff.rfl
  | succ k ih =>
    intro x
    constructor
    · rintro ⟨s, h1, h2⟩
      obtain ⟨a, a1, a2⟩ := List.mem_filterMap.mp h2
      exact ⟨s, a, (ih s).mp h1, a1, a2⟩
    · rintro ⟨s, a, h1, a1, a2⟩
      exact ⟨s, (ih s).mpr h1, List.mem_filterMap.mpr ⟨a, a1, a2⟩⟩
theorem SpI.rch {L : List Act} {N b : Nat} {e : Nat → Bool} {D : Nat → Option Nat} {qs : List Nat} {o : Option Nat} (si : SpI L N b e D qs qs.length o) (x : Nat) : x ∈ qs ↔ Rch L N b x := by
  constructor
  · intro hx
    cases hD : D x with
    | none => exact absurd hD ((si.1.2.1 x).mpr hx)
    | some k => exact ⟨k, (gk_rch k x).mp (si.1.2.2.2.1 x k hD)⟩
  · rintro ⟨k, hk⟩
    refine (si.1.2.1 x).mp fun hD => ?_
    exact si.1.unr (Nat.le_refl _) hD k ((gk_rch k x).mpr hk)
theorem SpI.endAt {L : List Act} {N b w wi : Nat} {D : Nat → Option Nat} {qs : List Nat} {o : Option Nat} (si : SpI L N b (isEndB w wi) D qs qs.length o) : o ≠ none ↔ EndAt L N w wi b := by
  constructor
  · intro ho
    cases o with
    | none => exact absurd rfl ho
    | some k =>
      obtain ⟨⟨x, x1, x2, -⟩, -⟩ := si.2.2.2.2 k rfl
      exact ⟨x, (si.2.1 x x1).1, (si.rch x).mp x1, x2⟩
  · rintro ⟨x, x1, x2, x3⟩ ho
    have := si.2.2.2.1 ho x ((si.rch x).mpr x2)
    rw [show isEndB w wi x = true from x3] at this
    cases this
theorem FE.uniq {L : List Act} {N w wi m : Nat} {r r' : Int32} (h : FE L N w wi m r) (h' : FE L N w wi m r') : r = r' := by
  rcases h with ⟨rfl, h⟩ | ⟨c, rfl, h1, h2, h3⟩
  · rcases h' with ⟨rfl, -⟩ | ⟨c', -, h1', h2', -⟩
    · rfl
    · exact absurd h2' (h c' h1')
  · rcases h' with ⟨-, h'⟩ | ⟨c', rfl, h1', h2', h3'⟩
    · exact absurd h2 (h' c h1)
    · congr 1
      rcases Nat.lt_trichotomy c c' with q | q | q
      · exact absurd h2 (h3' c q)
      · exact q
      · exact absurd h2' (h3 c' q)
theorem FE.to14 {L : List Act} {n w wi : Nat} {r : Int32} (hn : n ≤ 14) (h : FE L (2 ^ n) w wi n r) : FE L (2 ^ n) w wi 14 r := by
  rcases h with ⟨rfl, h⟩ | ⟨c, rfl, h1, h2, h3⟩
  · refine Or.inl ⟨rfl, fun c hc he => ?_⟩
    obtain ⟨s, s1, s2, s3⟩ := he
    exact h n (Nat.le_refl _) ⟨s, s1, s2.cap hn (Nat.le_refl _), s3⟩
  · exact Or.inr ⟨c, rfl, by omega, h2, h3⟩
theorem cntB_len {N : Nat} {qs : List Nat} (h1 : qs.Nodup) (h2 : ∀ x, x ∈ qs → x < N) : cntB (fun x => decide (x ∈ qs)) N = qs.length := by
  have e : ∀ m, cntB (fun x => decide (x ∈ qs)) m = ((List.range m).filter (fun x => decide (x ∈ qs))).length := by
    intro m
    induction m with
    | zero => rfl
    | succ m ih =>
      show cntB (fun x => decide (x ∈ qs)) m + (if decide (m ∈ qs) = true then 1 else 0) = _
      rw [ih, List.range_succ, List.filter_append, List.length_append]
      by_cases q : m ∈ qs
      · simp [q]
      · simp [q]
  rw [e]
  refine Nat.le_antisymm ?_ ?_
  · exact List.Nodup.length_le_of_subset (List.nodup_range.filter _) (fun x hx => by simpa using (List.mem_filter.mp hx).2)
  · exact List.Nodup.length_le_of_subset h1 (fun x hx => List.mem_filter.mpr ⟨List.mem_range.mpr (h2 x hx), by simpa using hx⟩)
/-! arguments as told -/
theorem in8 (v : Int32) : (∃ w, w < 8 ∧ v = nI w) ∨ ¬ (0 ≤ v ∧ v ≤ 7) := by
  rcases pk_ix v (n := 8) (by decide) with q | q | q
  · exact Or.inr fun z => absurd z.1 (Int32.not_le.mpr q)
  · refine Or.inr fun z => ?_
    have h1 : (7 : Int32) < nI 8 := by decide +kernel
    rw [Int32.le_iff_toInt_le] at q
    rw [Int32.lt_iff_toInt_lt] at h1
    have h2 := z.2
    rw [Int32.le_iff_toInt_le] at h2
    omega
  · exact Or.inl q
theorem in14 (v : Int32) : (∃ b, 1 ≤ b ∧ b ≤ 14 ∧ v = nI b) ∨ ¬ (1 ≤ v ∧ v ≤ 14) := by
  rcases pk_ix v (n := 15) (by decide) with q | q | ⟨j, h1, h2⟩
  · refine Or.inr fun z => ?_
    have h2 := z.1
    have h1 : (0 : Int32) < 1 := by decide +kernel
    rw [Int32.le_iff_toInt_le] at h2
    rw [Int32.lt_iff_toInt_lt] at h1 q
    omega
  · refine Or.inr fun z => ?_
    have h1 : (14 : Int32) < nI 15 := by decide +kernel
    rw [Int32.le_iff_toInt_le] at q
    rw [Int32.lt_iff_toInt_lt] at h1
    have h2 := z.2
    rw [Int32.le_iff_toInt_le] at h2
    omega
  · rcases Nat.eq_zero_or_pos j with q | q
    · subst q
      subst h2
      exact Or.inr (by decide +kernel)
    · exact Or.inl ⟨j, q, by omega, h2⟩
theorem w_in8 : ∀ w, w < 8 → (0 ≤ nI w ∧ nI w ≤ 7) := by decide +kernel
theorem b_in14 : ∀ b, b < 15 → 1 ≤ b → (1 ≤ nI b ∧ nI b ≤ 14) := by decide +kernel
section Few
variable {h : AH} {n w wi b : Nat} {P : Nat → Nat} {Q : Option Value → AH → Prop}
def mfA (a : Nat) : Prop := a = 79 ∨ a = 80 ∨ a = 81
def mfS (j : Nat) : Prop := j = 0 ∨ j = 23 ∨ j = 24 ∨ j = 25 ∨ j = 28
abbrev nP (_ : Nat) : Prop := False
abbrev MF (h h' : AH) : Prop := MO mfA mfS nP nP h h'
theorem MF.lay {k : Nat} {ar : Nat → Int32} : MF h (LHp h w b k ar) := (LHp_mo h w b k ar).mono (fun _ q => Or.inl q) (fun _ q => Or.inr (by omega)) (fun _ q => q) (fun _ q => q)
theorem MF.sp {m : Nat} {fa qu : Nat → Int32} : MF h (SpH h fa qu m) := (SpH_mo h fa qu m).mono (fun _ q => Or.inr q) (fun _ q => Or.inr (by omega)) (fun _ q => q) (fun _ q => q)
theorem MF.z : MF h (sI h 67 0 0) := MO.rf.sI67 0 (Or.inl rfl)
theorem MF.nt {h1 : AH} (m : MF h h1) (nt : MNt h n P wi) : MNt h1 n P wi := nt.mo m (by unfold mfA; omega) (by unfold mfA; omega) (by unfold mfA; omega)
/-- lay, then spread -/
theorem lay_spread (ms : MS0 h) (nt : MNt h n P wi) (po : PartsOK n P) (hw : w < 8) (hb : b ≤ 14) (hwi : wi < 2 ^ n) {pcl : Nat}
    (k : ∀ h1 D qs o fa qu, MF h h1 → MWB h1 w b → MAc h1 (actsOf n P w) → SpI (actsOf n P w) (2 ^ n) b (isEndB w wi) D qs qs.length o → SpR D qs fa qu → Q (some (.int (oI o))) (SpH h1 fa qu qs.length)) :
    WPM 176 [.ref 67, .int (nI w), .int (nI b)] h (fun r h' => r = none ∧ hT h' 67 = 13 ∧ WPM 180 [.ref 67] h' Q) := by
  refine s176 ms nt po hw fun ar hra => ⟨rfl, ms.1, ?_⟩
  have m1 : MF h (LHp h w b (actsOf n P w).length ar) := MF.lay
  have wb : MWB (LHp h w b (actsOf n P w).length ar) w b := ⟨rfl, rfl, hw, hb⟩
  have ac : MAc (LHp h w b (actsOf n P w).length ar) (actsOf n P w) := ⟨rfl, hra, (po.acts w).2.2⟩
  exact s180 (m1.ms ms) (m1.nt nt) po wb ac hwi fun D qs o fa qu si sr => k _ D qs o fa qu m1 wb ac si sr
theorem WPM_seq {c : Nat} {av : List Value} {Q1 Q2 : Option Value → AH → Prop} (hw : WPM c av h Q1) (hq : ∀ r h', Q1 r h' → Q2 r h') : WPM c av h Q2 := WPM_mono hw hq
theorem s181 (ms : MS0 h) (nt : MNt h n P wi) (po : PartsOK n P) (hw : w < 8) (hw0 : 0 < wi) (hwi : wi < 2 ^ n)
    (k : ∀ h' r, FE (actsOf n P w) (2 ^ n) w wi 14 r → MF h h' → Q (some (.int r)) h') : WPM 181 [.ref 67, .int (nI w)] h Q := by
  have lp : ∀ d c h1, 15 - c = d → 1 ≤ c → c ≤ 15 → MF h h1 → (∀ c', c' < c → ¬ EndAt (actsOf n P w) (2 ^ n) w wi c') → WP 181 2 [.ref 67, .int (nI w), .int (nI c)] [] h1 Q := by
    intro d
    induction d with
    | zero =>
      intro c h1 hd hc1 hc mf hno
      have hlt : (14 : Int32) < nI c := nI_lt (a := 14) (by omega) (by omega)
      rw [w181_2]
      simp only [w181, hlt, zz]
      exact k h1 _ (Or.inl ⟨rfl, fun c' hc' => hno c' (by omega)⟩) mf
    | succ d ih =>
      intro c h1 hd hc1 hc mf hno
      have hlt : ¬ (14 : Int32) < nI c := nI_nlt (b := c) (a := 14) (by omega) (by decide)
      have ms1 := mf.ms ms
      rw [w181_2]
      simp only [w181, hlt, ms1, zz]
      refine WPM_mono (lay_spread (pcl := 0) (Q := fun r h' => WP 181 18 [.ref 67, .int (nI w), .int (nI c)] (r.toList ++ []) h' Q) ms1 (mf.nt nt) po hw (b := c) (by omega) hwi fun h2 D qs o fa qu m2 wb ac si sr => ?_) ?_
      · have mf3 : MF h (SpH h2 fa qu qs.length) := (mf.trans m2).trans MF.sp
        have hend := si.endAt
        cases o with
        | none =>
          simp only [w181, oI_none, mz, zz, nI_1]
          refine ih (c + 1) _ (by omega) (by omega) (by omega) mf3 fun c' hc' he => ?_
          rcases Nat.lt_or_ge c' c with q | q
          · exact hno c' q he
          · have : c' = c := by omega
            subst this
            exact (hend.mpr he) rfl
        | some q =>
          have hq9 : q ≤ 16384 := by
            obtain ⟨⟨x, x1, x2, x3⟩, -⟩ := si.2.2.2.2 q rfl
            obtain ⟨j, hj⟩ := List.getElem?_of_mem x1
            have h1 := si.2.2.1 j x hj
            rw [dv_some x3] at h1
            obtain ⟨hl, -⟩ := List.getElem?_eq_some_iff.mp hj
            have := nodup_len (2 ^ n) qs si.1.1 (fun y hy => (si.2.1 y hy).1)
            have : 2 ^ n ≤ 16384 := p2_le (n := 14) po.1
            omega
          have hneg : ¬ nI q < 0 := nI_pos (by omega)
          simp only [w181, oI_some, hneg, zz]
          exact k _ _ (Or.inr ⟨c, rfl, by omega, hend.mp (Option.some_ne_none _), hno⟩) mf3
      · rintro r h' ⟨rfl, ht', hw'⟩
        simp only [w181, ht', zz]
        exact hw'
  rw [we181]
  simp only [w181]
  have := lp 14 1 h rfl (Nat.le_refl _) (by decide) MO.rf (fun c' hc' he => by
    have hc0 : c' = 0 := by omega
    subst hc0
    have h1 := he.pc
    have h2 := pc_pos (v := wi) (by omega) (by have := s_lt po.1 hwi; omega)
    omega)
  exact this
theorem e72z : hI (sI h 67 0 0) 72 0 = hI h 72 0 := rfl
theorem asked_t (hw : w < 8) (hb1 : 1 ≤ b) (hb : b ≤ 14) (hn0 : 0 < n) (hn : n ≤ 14) : ((0 : Int32) ≤ nI w ∧ nI w ≤ 7) ∧ ((1 : Int32) ≤ nI b ∧ nI b ≤ 14) ∧ 0 < nI n := ⟨w_in8 w hw, b_in14 b (by omega) hb1, nI_lt (a := 0) hn0 (by omega)⟩
theorem asked_1 (hw : w < 8) (hn0 : 0 < n) (hn : n ≤ 14) : ((0 : Int32) ≤ nI w ∧ nI w ≤ 7) ∧ ((1 : Int32) ≤ 1 ∧ (1 : Int32) ≤ 14) ∧ 0 < nI n := ⟨w_in8 w hw, by decide +kernel, nI_lt (a := 0) hn0 (by omega)⟩
theorem s183 (ms : MS0 h) (nt : MNt h n P wi) (po : PartsOK n P) (hn0 : 0 < n) (hw : w < 8) (hw0 : 0 < wi) (hwi : wi < 2 ^ n)
    (k : ∀ h' r, FE (actsOf n P w) (2 ^ n) w wi 14 r → MF h h' → Q (some (.int r)) h') : WPM 183 [.ref 67, .int (nI w)] h Q := by
  have q := asked_1 hw hn0 po.1
  have mf : MF h (sI h 67 0 0) := MF.z
  rw [we183]
  simp only [w183, ms, mz, hs_sI, s182 (mf.ms ms), e72z, nt.1, if_pos q, zz]
  refine s181 (mf.ms ms) (mf.nt nt) po hw hw0 hwi fun h' r fe m => ?_
  simp only [w183, zz]
  exact k h' r fe (mf.trans m)
theorem s183f {v : Int32} (ms : MS0 h) (h72 : hI h 72 0 = nI n) (hq : ¬ ((0 ≤ v ∧ v ≤ 7) ∧ 0 < nI n)) : WPM 183 [.ref 67, .int v] h Q ↔ Q (some (.int (-1))) (sI h 67 0 0) := by
  have mf : MF h (sI h 67 0 0) := MF.z
  rw [we183]
  simp only [w183, ms, mz, hs_sI, s182 (mf.ms ms), e72z, h72, if_neg (fun z : (0 ≤ v ∧ v ≤ 7) ∧ ((1 : Int32) ≤ 1 ∧ (1 : Int32) ≤ 14) ∧ 0 < nI n => hq ⟨z.1, z.2.2⟩), zz]
theorem s191 (ms : MS0 h) (nt : MNt h n P wi) (po : PartsOK n P) (hn0 : 0 < n) (hw : w < 8) (hb1 : 1 ≤ b) (hb : b ≤ 14) (hwi : wi < 2 ^ n)
    (k : ∀ h' r, HowMany (fun x => Rch (actsOf n P w) (2 ^ n) b x) (2 ^ n) r → MF h h' → Q (some (.int r)) h') : WPM 191 [.ref 67, .int (nI w), .int (nI b)] h Q := by
  have q := asked_t hw hb1 hb hn0 po.1
  have mf : MF h (sI h 67 0 0) := MF.z
  rw [we191]
  simp only [w191, ms, mz, hs_sI, s182 (mf.ms ms), e72z, nt.1, if_pos q, zz]
  refine WPM_mono (lay_spread (pcl := 0) (Q := fun r h' => WP 191 26 [.ref 67, .int (nI w), .int (nI b)] (r.toList ++ []) h' Q) (mf.ms ms) (mf.nt nt) po hw hb hwi fun h2 D qs o fa qu m2 wb ac si sr => ?_) ?_
  · have ms2 := (mf.trans m2).ms ms
    simp only [w191, SpH_r h2, ms2, zz]
    refine k _ _ ⟨fun x => decide (x ∈ qs), fun x _ => by rw [decide_eq_true_eq]; exact si.rch x, ?_⟩ ((mf.trans m2).trans MF.sp)
    rw [cntB_len si.1.1 (fun x hx => (si.2.1 x hx).1)]
  · rintro r h' ⟨rfl, ht', hw'⟩
    simp only [w191, ht', zz]
    exact hw'
theorem s191f {v u : Int32} (ms : MS0 h) (h72 : hI h 72 0 = nI n) (hq : ¬ ((0 ≤ v ∧ v ≤ 7) ∧ (1 ≤ u ∧ u ≤ 14) ∧ 0 < nI n)) : WPM 191 [.ref 67, .int v, .int u] h Q ↔ Q (some (.int (-1))) (sI h 67 0 0) := by
  have mf : MF h (sI h 67 0 0) := MF.z
  rw [we191]
  simp only [w191, ms, mz, hs_sI, s182 (mf.ms ms), e72z, h72, if_neg hq, zz]
theorem s192 {f : Nat} (ms : MS0 h) (nt : MNt h n P wi) (po : PartsOK n P) (hn0 : 0 < n) (hw : w < 8) (hb1 : 1 ≤ b) (hb : b ≤ 14) (hwi : wi < 2 ^ n) (hf : f < 2 ^ n)
    (k : ∀ h' r, (r = 1 ∧ Rch (actsOf n P w) (2 ^ n) b f ∨ r = 0 ∧ ¬ Rch (actsOf n P w) (2 ^ n) b f) → MF h h' → Q (some (.int r)) h') : WPM 192 [.ref 67, .int (nI w), .int (nI b), .int (nI f)] h Q := by
  have q := asked_t hw hb1 hb hn0 po.1
  have mf : MF h (sI h 67 0 0) := MF.z
  have hN9 : 2 ^ n ≤ 16384 := p2_le (n := 14) po.1
  have hneg : ¬ nI f < 0 := nI_pos (by omega)
  have pw : (1 : Int32) <<< (nI n &&& 31) = nI (2 ^ n) := nI_pow n (by have := po.1; omega)
  have hlt : nI f < nI (2 ^ n) := nI_lt hf (by omega)
  have c1 : (nI f).toNatClampNeg = f := nI_clamp (by omega)
  have i1 : inb (nI f) 16384 = true := inb_nI (by omega) (by decide)
  rw [we192]
  simp only [w192, ms, mz, hs_sI, s182 (mf.ms ms), e72z, nt.1, if_pos q, hneg, pw, hlt, zz]
  refine WPM_mono (lay_spread (pcl := 0) (Q := fun r h' => WP 192 42 [.ref 67, .int (nI w), .int (nI b), .int (nI f)] (r.toList ++ []) h' Q) (mf.ms ms) (mf.nt nt) po hw hb hwi fun h2 D qs o fa qu m2 wb ac si sr => ?_) ?_
  · have ms2 := (mf.trans m2).ms ms
    have hff := sr.1 f (by omega)
    have hm := si.rch f
    have hdm := si.1.2.1 f
    cases hD : D f with
    | none =>
      rw [hD, fr_none] at hff
      have hle : nI 1000000000 ≤ nI 1000000000 := nI_le (Nat.le_refl _) (by decide)
      simp only [w192, SpH_r h2, ms2, c1, i1, hff, hle, zz]
      exact k _ _ (Or.inr ⟨rfl, fun z => hdm.mpr (hm.mpr z) hD⟩) ((mf.trans m2).trans MF.sp)
    | some q =>
      have hfq : f ∈ qs := hdm.mp (by rw [hD]; exact Option.some_ne_none _)
      have hq9 : q ≤ 16384 := by
        obtain ⟨j, hj⟩ := List.getElem?_of_mem hfq
        have h1 := si.2.2.1 j f hj
        rw [dv_some hD] at h1
        obtain ⟨hl, -⟩ := List.getElem?_eq_some_iff.mp hj
        have := nodup_len (2 ^ n) qs si.1.1 (fun y hy => (si.2.1 y hy).1)
        omega
      rw [hD, fr_some] at hff
      have hle : ¬ nI 1000000000 ≤ nI q := nI_ge (by omega) (by decide)
      simp only [w192, SpH_r h2, ms2, c1, i1, hff, hle, zz]
      exact k _ _ (Or.inl ⟨rfl, hm.mp hfq⟩) ((mf.trans m2).trans MF.sp)
  · rintro r h' ⟨rfl, ht', hw'⟩
    simp only [w192, ht', zz]
    exact hw'
theorem s192f {v u f : Int32} (ms : MS0 h) (h72 : hI h 72 0 = nI n) (hn : n ≤ 14) (hq : ¬ (((0 ≤ v ∧ v ≤ 7) ∧ (1 ≤ u ∧ u ≤ 14) ∧ 0 < nI n) ∧ 0 ≤ f ∧ f < nI (2 ^ n))) : WPM 192 [.ref 67, .int v, .int u, .int f] h Q ↔ Q (some (.int (-1))) (sI h 67 0 0) := by
  have mf : MF h (sI h 67 0 0) := MF.z
  have pw : (1 : Int32) <<< (nI n &&& 31) = nI (2 ^ n) := nI_pow n (by omega)
  rw [we192]
  by_cases q1 : (0 ≤ v ∧ v ≤ 7) ∧ (1 ≤ u ∧ u ≤ 14) ∧ 0 < nI n
  · by_cases q2 : f < 0
    · simp only [w192, ms, mz, hs_sI, s182 (mf.ms ms), e72z, h72, if_pos q1, q2, zz]
    · have q3 : ¬ f < nI (2 ^ n) := fun z => hq ⟨q1, Int32.not_lt.mp q2, z⟩
      simp only [w192, ms, mz, hs_sI, s182 (mf.ms ms), e72z, h72, if_pos q1, q2, pw, q3, zz]
  · simp only [w192, ms, mz, hs_sI, s182 (mf.ms ms), e72z, h72, if_neg q1, zz]
theorem thing_t {k : Nat} (hk : k < n) (hn : n ≤ 14) : (0 : Int32) ≤ nI k ∧ nI k ≤ nI n - 1 := by
  have h1 := nI_prd (c := n) (by omega) (by omega)
  rw [h1]
  exact ⟨nI_pos' (by omega), nI_le (by omega) (by omega)⟩
theorem thing_f {v : Int32} (hn : n ≤ 14) (h : ¬ (0 ≤ v ∧ v < nI n)) : ¬ ((0 : Int32) ≤ v ∧ v ≤ nI n - 1) := by
  rintro ⟨h1, h2⟩
  obtain ⟨j, hj, rfl⟩ := nI_of (Int32.not_lt.mpr h1)
  rcases Nat.eq_zero_or_pos n with q | q
  · subst q
    have h3 : nI 0 - 1 = -1 := by decide +kernel
    rw [h3] at h2
    exact absurd h2 (fun z => by
      have h5 := nI_toInt hj
      rw [Int32.le_iff_toInt_le, h5] at z
      have : (-1 : Int32).toInt = -1 := by decide +kernel
      omega)
  · have h3 := nI_prd (c := n) q (by omega)
    rw [h3, nI_leI hj (by omega)] at h2
    exact h ⟨h1, nI_lt (by omega) (by omega)⟩
theorem s190 {kk : Nat} (ms : MS0 h) (nt : MNt h n P wi) (po : PartsOK n P) (hw : w < 8) (hk : kk < n)
    (k : ∀ h' r, FE (actsOf n P w) (2 ^ n) w (2 ^ kk) 14 r → MF h h' → Q (some (.int r)) h') : WPM 190 [.ref 67, .int (nI kk), .int (nI w)] h Q := by
  have q := asked_1 hw (show 0 < n by omega) po.1
  have hn := po.1
  have mf : MF h (sI h 67 0 0) := MF.z
  have q2 := thing_t hk hn
  have pw : (1 : Int32) <<< (nI kk &&& 31) = nI (2 ^ kk) := nI_pow kk (by omega)
  have e73 : hI (sI h 67 0 0) 73 0 = nI wi := nt.2.1
  rw [we190]
  simp only [w190, ms, mz, hs_sI, s182 (mf.ms ms), s169 (mf.ms ms), e72z, nt.1, if_pos q, if_pos q2, e73, pw, zz]
  have nt2 : MNt (sI (sI h 67 0 0) 73 0 (nI (2 ^ kk))) n P (2 ^ kk) := ⟨nt.1, rfl, nt.2.2⟩
  refine s181 (h := sI (sI h 67 0 0) 73 0 (nI (2 ^ kk))) ms nt2 po hw (Nat.pow_pos (by decide)) (p2_lt hk) fun h' r fe m => ?_
  have ms' := m.ms (show MS0 (sI (sI h 67 0 0) 73 0 (nI (2 ^ kk))) from ms)
  simp only [w190, ms', mz, zz]
  refine k _ r fe ⟨m.1, m.2.1, m.2.2.1, m.2.2.2.1, m.2.2.2.2.1, fun a j ha hj => ?_, m.2.2.2.2.2.2⟩
  rw [hI_sI]
  by_cases q3 : a = 73 ∧ j = 0
  · rw [if_pos q3, q3.1, q3.2, nt.2.1]
  · rw [if_neg q3, m.2.2.2.2.2.1 a j ha hj, hI_sI, if_neg q3, hI_sI, if_neg]
    rintro ⟨rfl, rfl⟩
    exact hj ⟨rfl, Or.inl rfl⟩
theorem s190f {v u : Int32} (ms : MS0 h) (h72 : hI h 72 0 = nI n) (hn : n ≤ 14) (hq : ¬ (((0 ≤ u ∧ u ≤ 7) ∧ 0 < nI n) ∧ 0 ≤ v ∧ v < nI n)) : WPM 190 [.ref 67, .int v, .int u] h Q ↔ Q (some (.int (-1))) (sI h 67 0 0) := by
  have mf : MF h (sI h 67 0 0) := MF.z
  rw [we190]
  by_cases q1 : (0 ≤ u ∧ u ≤ 7) ∧ ((1 : Int32) ≤ 1 ∧ (1 : Int32) ≤ 14) ∧ 0 < nI n
  · have q2 := thing_f (v := v) hn (fun z => hq ⟨⟨q1.1, q1.2.2⟩, z⟩)
    simp only [w190, ms, mz, hs_sI, s182 (mf.ms ms), s169 (mf.ms ms), e72z, h72, if_pos q1, if_neg q2, zz]
  · simp only [w190, ms, mz, hs_sI, s182 (mf.ms ms), e72z, h72, if_neg q1, zz]
end Few

/-! ===== the reference's cooks: whole ===== -/
section Ck2
variable {h : AH} {n b ck wi : Nat} {P : Nat → Nat} {Q : Option Value → AH → Prop}
/-- a row of which the sets beyond the NET are not asked -/
def BN (n : Nat) (S : Nat → Prop) (f : Nat → Int32) : Prop := ∀ s, s < 2 ^ n → (f s = 1 ∧ S s) ∨ (f s = 0 ∧ ¬ S s)
/-- all that an hour makes of what is new -/
theorem ck_hour {N : Nat → Prop} {fn fs : Nat → Int32} {x4 : Int32} (ms : MS0 h) (nt : MNt h n P wi) (po : PartsOK n P) (hn8 : n ≤ 8) (hb : b ≤ 14) (hck : ck ≤ 14) (bn : BN n N fn)
    (kk : ∀ ft, BR (fun t => ∃ s, s < 2 ^ n ∧ N s ∧ ckS n P ck b s t) ft → WP 203 213 [.ref 67, .int (nI ck), .int (nI b), .int (nI (2 ^ n)), .int x4, .int 0, .int 0] [] (CkH h fn ft fs) Q) :
    ∀ d s ft x6, 2 ^ n - s = d → s ≤ 2 ^ n → BR (fun t => ∃ s', s' < s ∧ N s' ∧ ckS n P ck b s' t) ft → WP 203 146 [.ref 67, .int (nI ck), .int (nI b), .int (nI (2 ^ n)), .int x4, .int (nI s), x6] [] (CkH h fn ft fs) Q := by
  have hr := CkH_r h
  have h256 : 2 ^ n ≤ 256 := p2_le (n := 8) hn8
  intro d
  induction d with
  | zero =>
    intro s ft x6 hd hs br
    have hle : nI (2 ^ n) ≤ nI s := nI_le (by omega) (by omega)
    have hse : s = 2 ^ n := by omega
    rw [hse] at br
    rw [w203_146]
    simp only [w203_b, w203_c, hle, zz]
    exact kk ft br
  | succ d ih =>
    intro s ft x6 hd hs br
    have hsn : s < 2 ^ n := by omega
    have hle : ¬ nI (2 ^ n) ≤ nI s := nI_ge hsn (by omega)
    have c1 : (nI s).toNatClampNeg = s := nI_clamp (by omega)
    have i1 : inb (nI s) 256 = true := inb_nI (by omega) (by decide)
    have lp : N s → ∀ l ft, l &&& s = l → BR (fun t => (∃ s', s' < s ∧ N s' ∧ ckS n P ck b s' t) ∨ ∃ l', l < l' ∧ l' &&& s = l' ∧ ckL n P ck b l' t) ft → WP 203 166 [.ref 67, .int (nI ck), .int (nI b), .int (nI (2 ^ n)), .int x4, .int (nI s), .int (nI l)] [] (CkH h fn ft fs) Q := by
      intro hN l
      induction l using Nat.strongRecOn with
      | _ l ihl =>
        intro ft hl br
        have hls : l ≤ s := by
          have : l &&& s ≤ s := Nat.and_le_right
          omega
        have l0 : ¬ nI l < 0 := nI_nlt (a := l) (b := 0) (Nat.zero_le _) (by omega)
        rw [w203_166]
        simp only [w203_c, hr, ms, l0, zz]
        refine s204 ms nt po hn8 hb hck (show l < 2 ^ n by omega) br fun ft' br' => ?_
        by_cases q : l = 0
        · have hz : nI l = 0 := by rw [q]; exact nI_0
          simp only [w203_c, hz, mz, zz, nI_1, w203_166]
          refine ih (s + 1) ft' _ (by omega) (by omega) (br'.congr fun t _ => ?_)
          constructor
          · rintro ((⟨s', h1, z⟩ | ⟨l', h1, z⟩) | z)
            · exact ⟨s', by omega, z⟩
            · exact ⟨s, by omega, hN, l', z⟩
            · exact ⟨s, by omega, hN, l, hl, z⟩
          · rintro ⟨s', h1, h2, l', h3, h4⟩
            by_cases y : s' = s
            · subst y
              by_cases y2 : l' = l
              · subst y2
                exact Or.inr h4
              · exact Or.inl (Or.inr ⟨l', by omega, h3, h4⟩)
            · exact Or.inl (Or.inl ⟨s', by omega, h2, l', h3, h4⟩)
        · have hz : ¬ nI l = 0 := nI_ne0 (by omega) (by omega)
          have es : nI l - 1 = nI (l - 1) := pk_sub (a := l) (b := 1) (by omega)
          have hle' : (l - 1) &&& s ≤ l - 1 := Nat.and_le_left
          simp only [w203_c, hz, es, nI_and, zz]
          refine ihl _ (by omega) ft' (subm_in l s) (br'.congr fun t _ => ?_)
          constructor
          · rintro ((z | ⟨l', h1, z⟩) | z)
            · exact Or.inl z
            · exact Or.inr ⟨l', by omega, z⟩
            · exact Or.inr ⟨l, by omega, hl, z⟩
          · rintro (z | ⟨l', h1, h2, h3⟩)
            · exact Or.inl (Or.inl z)
            · rcases Nat.lt_trichotomy l' l with y | y | y
              · have := subm l s l' (by omega) hl h2 y
                omega
              · rw [y] at h3
                exact Or.inr h3
              · exact Or.inl (Or.inr ⟨l', y, h2, h3⟩)
    rw [w203_146]
    rcases bn s hsn with ⟨e1, hN⟩ | ⟨e1, hN⟩
    · simp only [w203_b, w203_c, hle, hr, ms, c1, i1, e1, mz, zz]
      refine lp hN s ft (Nat.and_self _) (br.congr fun t _ => ?_)
      constructor
      · exact fun z => Or.inl z
      · rintro (z | ⟨l', h1, h2, -⟩)
        · exact z
        · have : l' &&& s ≤ s := Nat.and_le_right
          omega
    · simp only [w203_b, w203_c, hle, hr, ms, c1, i1, e1, mz, zz, nI_1]
      refine ih (s + 1) ft _ (by omega) (by omega) (br.congr fun t _ => ?_)
      constructor
      · rintro ⟨s', h1, z⟩
        exact ⟨s', by omega, z⟩
      · rintro ⟨s', h1, h2, h3⟩
        refine ⟨s', ?_, h2, h3⟩
        rcases Nat.lt_or_ge s' s with y | y
        · exact y
        · have : s' = s := by omega
          rw [this] at h2
          exact absurd h2 hN
/-- which are new, which are seen -/
theorem ck_look {T N' S S' : Nat → Prop} {ft : Nat → Int32} {x4 : Int32} (ms : MS0 h) (nt : MNt h n P wi) (po : PartsOK n P) (hn8 : n ≤ 8) (hwi : wi < 2 ^ n) (bt : BR T ft) (hN' : ∀ s, N' s ↔ T s ∧ ¬ S s) (hS' : ∀ s, S' s ↔ S s ∨ T s)
    (k1 : ∀ fn fs t, T t → t &&& wi = wi → Q (some (.int x4)) (CkH h fn ft fs))
    (k2 : ∀ fn fs, (∀ t, t < 2 ^ n → T t → t &&& wi ≠ wi) → (∀ s, s < 2 ^ n → ¬ N' s) → Q (some (.int (-1))) (CkH h fn ft fs))
    (k3 : ∀ fn fs x5 x6 s0, s0 < 2 ^ n → N' s0 → (∀ t, t < 2 ^ n → T t → t &&& wi ≠ wi) → (∀ s, s < 2 ^ n → (fn s = 1 ∧ N' s) ∨ (fn s = 0 ∧ ¬ N' s)) → (∀ s, s < 2 ^ n → (fs s = 1 ∧ S' s) ∨ (fs s = 0 ∧ ¬ S' s)) → WP 203 110 [.ref 67, .int (nI ck), .int (nI b), .int (nI (2 ^ n)), .int (x4 + 1), x5, x6] [] (CkH h fn ft fs) Q) :
    ∀ d s fn fs (a : Bool), 2 ^ n - s = d → s ≤ 2 ^ n → (∀ y, y < s → (fn y = 1 ∧ N' y) ∨ (fn y = 0 ∧ ¬ N' y)) → (∀ y, y < s → (fs y = 1 ∧ S' y) ∨ (fs y = 0 ∧ ¬ S' y)) → (∀ y, s ≤ y → y < 2 ^ n → (fs y = 1 ∧ S y) ∨ (fs y = 0 ∧ ¬ S y)) → (∀ y, y < s → T y → y &&& wi ≠ wi) → (a = true ↔ ∃ y, y < s ∧ N' y) → WP 203 213 [.ref 67, .int (nI ck), .int (nI b), .int (nI (2 ^ n)), .int x4, .int (if a = true then 1 else 0), .int (nI s)] [] (CkH h fn ft fs) Q := by
  have hr := CkH_r h
  have h256 : 2 ^ n ≤ 256 := p2_le (n := 8) hn8
  have hwi9 := s_lt po.1 hwi
  intro d
  induction d with
  | zero =>
    intro s fn fs a hd hs hf1 hf2 hf3 hf4 ha
    have hle : nI (2 ^ n) ≤ nI s := nI_le (by omega) (by omega)
    have hse : s = 2 ^ n := by omega
    rw [hse] at hf1 hf2 hf4 ha
    rw [w203_213]
    cases a with
    | false =>
      simp only [w203_c, w203_d, w203_e, hle, mz, zz, if_false]
      refine k2 fn fs hf4 (fun y hy hn => ?_)
      have := ha.mpr ⟨y, hy, hn⟩
      cases this
    | true =>
      obtain ⟨y, hy, hn⟩ := ha.mp rfl
      simp only [w203_c, w203_d, w203_e, hle, mz, zz, if_true]
      exact k3 fn fs _ _ y hy hn hf4 hf1 hf2
  | succ d ih =>
    intro s fn fs a hd hs hf1 hf2 hf3 hf4 ha
    have hsn : s < 2 ^ n := by omega
    have hle : ¬ nI (2 ^ n) ≤ nI s := nI_ge hsn (by omega)
    have c1 : (nI s).toNatClampNeg = s := nI_clamp (by omega)
    have i1 : inb (nI s) 256 = true := inb_nI (by omega) (by decide)
    have d1 : 2 ^ n - (s + 1) = d := by rw [← Nat.sub_sub, hd, Nat.add_sub_cancel]
    have d2 : s + 1 ≤ 2 ^ n := hsn
    have d3 : s < 256 := Nat.lt_of_lt_of_le hsn h256
    have ew := sdf0 (a := wi) (s := s) (by omega)
    have us : ∀ (f : Nat → Int32) v, va_up f s v s = v := fun f v => by rw [up_at, if_pos rfl]
    have uo : ∀ (f : Nat → Int32) v y, y ≠ s → va_up f s v y = f y := fun f v y hy => by rw [up_at, if_neg hy]
    -- go on with given values
    have go : ∀ vn vs, ((vn = 1 ∧ N' s) ∨ (vn = 0 ∧ ¬ N' s)) → ((vs = 1 ∧ S' s) ∨ (vs = 0 ∧ ¬ S' s)) → (T s → s &&& wi ≠ wi) → ∀ a' : Bool, (a' = true ↔ a = true ∨ N' s) → WP 203 213 [.ref 67, .int (nI ck), .int (nI b), .int (nI (2 ^ n)), .int x4, .int (if a' = true then 1 else 0), .int (nI (s + 1))] [] (CkH h (va_up fn s vn) ft (va_up fs s vs)) Q := by
      intro vn vs h1 h2 h3 a' ha'
      refine ih (s + 1) _ _ a' d1 d2 (fun y hy => ?_) (fun y hy => ?_) (fun y h4 h5 => ?_) (fun y hy => ?_) ?_
      · by_cases q : y = s
        · rw [q, us]; exact h1
        · rw [uo _ _ y q]; exact hf1 y (Nat.lt_of_le_of_ne (Nat.le_of_lt_succ hy) q)
      · by_cases q : y = s
        · rw [q, us]; exact h2
        · rw [uo _ _ y q]; exact hf2 y (Nat.lt_of_le_of_ne (Nat.le_of_lt_succ hy) q)
      · rw [uo _ _ y (fun z => by rw [z] at h4; exact absurd h4 (Nat.not_succ_le_self s))]; exact hf3 y (Nat.le_of_succ_le h4) h5
      · by_cases q : y = s
        · rw [q]; exact h3
        · exact hf4 y (Nat.lt_of_le_of_ne (Nat.le_of_lt_succ hy) q)
      · rw [ha', ha]
        constructor
        · rintro (⟨y, h4, h5⟩ | h4)
          · exact ⟨y, Nat.lt_succ_of_lt h4, h5⟩
          · exact ⟨s, Nat.lt_succ_self s, h4⟩
        · rintro ⟨y, h4, h5⟩
          by_cases q : y = s
          · rw [q] at h5; exact Or.inr h5
          · exact Or.inl ⟨y, Nat.lt_of_le_of_ne (Nat.le_of_lt_succ h4) q, h5⟩
    rw [w203_213]
    rcases bt s d3 with ⟨e1, hT'⟩ | ⟨e1, hT'⟩
    · by_cases q : s &&& wi = wi
      · simp only [w203_c, w203_d, w203_e, hle, hr, ms, mz, c1, i1, e1, nt.2.1, nI_sdf, ew, eq_true q, zz]
        exact k1 fn fs s hT' q
      · rcases hf3 s (Nat.le_refl _) hsn with ⟨e2, hS⟩ | ⟨e2, hS⟩
        · have g := go 0 1 (Or.inr ⟨rfl, fun z => ((hN' s).mp z).2 hS⟩) (Or.inl ⟨rfl, (hS' s).mpr (Or.inl hS)⟩) (fun _ => q) a ⟨fun z => Or.inl z, fun z => z.elim id (fun z => absurd hS ((hN' s).mp z).2)⟩
          cases a with
          | false =>
            simp only [if_false, Bool.false_eq_true] at g
            simp only [w203_c, w203_d, w203_e, hle, hr, ms, mz, c1, i1, e1, e2, us, nt.2.1, nI_sdf, ew, eq_false q, and11, zz, nI_1, if_false]
            exact g
          | true =>
            simp only [if_true] at g
            simp only [w203_c, w203_d, w203_e, hle, hr, ms, mz, c1, i1, e1, e2, us, nt.2.1, nI_sdf, ew, eq_false q, and11, zz, nI_1, if_true]
            exact g
        · have g := go 1 1 (Or.inl ⟨rfl, (hN' s).mpr ⟨hT', hS⟩⟩) (Or.inl ⟨rfl, (hS' s).mpr (Or.inr hT')⟩) (fun _ => q) true ⟨fun _ => Or.inr ((hN' s).mpr ⟨hT', hS⟩), fun _ => rfl⟩
          simp only [if_true] at g
          cases a with
          | false =>
            simp only [w203_c, w203_d, w203_e, hle, hr, ms, mz, c1, i1, e1, e2, us, nt.2.1, nI_sdf, ew, eq_false q, and11, zz, nI_1, if_false]
            exact g
          | true =>
            simp only [w203_c, w203_d, w203_e, hle, hr, ms, mz, c1, i1, e1, e2, us, nt.2.1, nI_sdf, ew, eq_false q, and11, zz, nI_1, if_true]
            exact g
    · rcases hf3 s (Nat.le_refl _) hsn with ⟨e2, hS⟩ | ⟨e2, hS⟩
      · have g := go 0 1 (Or.inr ⟨rfl, fun z => ((hN' s).mp z).2 hS⟩) (Or.inl ⟨rfl, (hS' s).mpr (Or.inl hS)⟩) (fun z => absurd z hT') a ⟨fun z => Or.inl z, fun z => z.elim id (fun z => absurd hS ((hN' s).mp z).2)⟩
        cases a with
        | false =>
          simp only [if_false, Bool.false_eq_true] at g
          simp only [w203_c, w203_d, w203_e, hle, hr, ms, mz, c1, i1, e1, e2, us, and11, zz, nI_1, if_false]
          exact g
        | true =>
          simp only [if_true] at g
          simp only [w203_c, w203_d, w203_e, hle, hr, ms, mz, c1, i1, e1, e2, us, and11, zz, nI_1, if_true]
          exact g
      · have g := go 0 0 (Or.inr ⟨rfl, fun z => hT' ((hN' s).mp z).1⟩) (Or.inr ⟨rfl, fun z => ((hS' s).mp z).elim hS hT'⟩) (fun z => absurd z hT') a ⟨fun z => Or.inl z, fun z => z.elim id (fun z => absurd ((hN' s).mp z).1 hT')⟩
        cases a with
        | false =>
          simp only [if_false, Bool.false_eq_true] at g
          simp only [w203_c, w203_d, w203_e, hle, hr, ms, mz, c1, i1, e1, e2, us, and11, zz, nI_1, if_false]
          exact g
        | true =>
          simp only [if_true] at g
          simp only [w203_c, w203_d, w203_e, hle, hr, ms, mz, c1, i1, e1, e2, us, and11, zz, nI_1, if_true]
          exact g
theorem ck_main (ms : MS0 h) (nt : MNt h n P wi) (po : PartsOK n P) (hn8 : n ≤ 8) (hb : b ≤ 14) (hck : ck ≤ 14) (hwi : wi < 2 ^ n)
    (kk : ∀ r fn ft fs, HoR n P ck b wi r → Q (some (.int r)) (CkH h fn ft fs)) :
    ∀ d k fn ft fs x5 x6 s0, 300 - k = d → k ≤ 300 → VN n P ck b k s0 → BN n (VN n P ck b k) fn → BN n (VS n P ck b k) fs → (∀ j s, j ≤ k → VV n P ck b j s → s &&& wi ≠ wi) → WP 203 110 [.ref 67, .int (nI ck), .int (nI b), .int (nI (2 ^ n)), .int (nI (k + 1)), x5, x6] [] (CkH h fn ft fs) Q := by
  have hr := CkH_r h
  have h256 : 2 ^ n ≤ 256 := p2_le (n := 8) hn8
  intro d
  induction d with
  | zero =>
    intro k fn ft fs x5 x6 s0 hd hk h0
    have := VN_300 hn8 h0
    omega
  | succ d ih =>
    intro k fn ft fs x5 x6 s0 hd hk h0 bn bs hno
    have hlt : ¬ (300 : Int32) < nI (k + 1) := nI_nlt (b := k + 1) (a := 300) (by omega) (by decide)
    have clr : ∀ d s ft, 256 - s = d → s ≤ 256 → (∀ y, y < s → ft y = 0) → WP 203 121 [.ref 67, .int (nI ck), .int (nI b), .int (nI (2 ^ n)), .int (nI (k + 1)), .int (nI s), x6] [] (CkH h fn ft fs) Q := by
      intro d
      induction d with
      | zero =>
        intro s ft hd hs hz
        have hle : (256 : Int32) ≤ nI s := nI_le (a := 256) (by omega) (by omega)
        rw [w203_121]
        simp only [w203_b, w203_c, hle, zz]
        have hstep : ∀ t, (∃ s, s < 2 ^ n ∧ VN n P ck b k s ∧ ckS n P ck b s t) ↔ ∃ s, VN n P ck b k s ∧ ckS n P ck b s t := fun t => ⟨fun ⟨s, _, z⟩ => ⟨s, z⟩, fun ⟨s, z⟩ => ⟨s, VV_lt k s z.1.1, z⟩⟩
        have ho := ck_hour (h := h) (b := b) (ck := ck) (Q := Q) (x4 := nI (k + 1)) (fs := fs) ms nt po hn8 hb hck bn (fun ft2 bt => ?_) (2 ^ n) 0 ft x6 rfl (Nat.zero_le _) (fun s hs => Or.inr ⟨hz s (by omega), fun ⟨s', h1, _⟩ => Nat.not_lt_zero _ h1⟩)
        · rw [nI_0] at ho
          exact ho
        · have lo := ck_look (h := h) (ck := ck) (b := b) (Q := Q) (T := fun t => ∃ s, s < 2 ^ n ∧ VN n P ck b k s ∧ ckS n P ck b s t) (N' := VN n P ck b (k + 1)) (S := VS n P ck b k) (S' := VS n P ck b (k + 1)) (x4 := nI (k + 1)) ms nt po hn8 hwi bt (fun s => by rw [hstep]; exact VN_next) (fun s => by rw [hstep]; exact VS_next) (fun fn2 fs2 t ht he => ?_) (fun fn2 fs2 hne hnn => ?_) (fun fn2 fs2 y5 y6 s1 hs1 hn1 hne b1 b2 => ?_) (2 ^ n) 0 fn fs false rfl (Nat.zero_le _) (fun y hy => absurd hy (Nat.not_lt_zero _)) (fun y hy => absurd hy (Nat.not_lt_zero _)) (fun y _ hy => bs y hy) (fun y hy => absurd hy (Nat.not_lt_zero _)) ⟨fun z => by (cases z), fun ⟨y, hy, _⟩ => absurd hy (Nat.not_lt_zero _)⟩
          · rw [nI_0] at lo
            exact lo
          · obtain ⟨s, -, h1, h2⟩ := ht
            exact kk _ fn2 ft2 fs2 (VV_found hn8 (by omega) ⟨s, h1.1, h2⟩ he (fun j u hj hu => hno j u (by omega) hu))
          · refine kk _ fn2 ft2 fs2 (VV_none hn8 fun m a ha => ?_)
            obtain ⟨i, hi, hv⟩ := VN_stop (fun s hs => hnn s (VV_lt (k + 1) s hs.1) hs) m a ha
            exact hno i a (by omega) hv
          · rw [nI_1]
            refine ih (k + 1) fn2 ft2 fs2 y5 y6 s1 (by omega) (by omega) hn1 b1 b2 (fun j s hj hv => ?_)
            by_cases q : VS n P ck b k s
            · obtain ⟨j', hj', hv'⟩ := q
              exact hno j' s hj' hv'
            · have hj1 : j = k + 1 := by
                rcases Nat.lt_or_ge k j with z | z
                · omega
                · exact absurd ⟨j, z, hv⟩ q
              rw [hj1] at hv
              obtain ⟨s', h1, h2⟩ := VV_step hv q
              exact hne s (VV_lt (k + 1) s hv) ⟨s', VV_lt k s' h1.1, h1, h2⟩
      | succ d ih2 =>
        intro s ft hd hs hz
        have hle : ¬ (256 : Int32) ≤ nI s := nI_ge (b := 256) (by omega) (by decide)
        have c1 : (nI s).toNatClampNeg = s := nI_clamp (by omega)
        have i1 : inb (nI s) 256 = true := inb_nI (by omega) (by decide)
        rw [w203_121]
        simp only [w203_b, w203_c, hle, hr, ms, c1, i1, and11, zz, nI_1]
        refine ih2 (s + 1) _ (by omega) (by omega) (fun y hy => ?_)
        rw [up_at]
        by_cases q : y = s
        · rw [if_pos q]
        · rw [if_neg q]
          exact hz y (by omega)
    rw [w203_110]
    simp only [w203_b, hlt, zz]
    have := clr 256 0 ft rfl (by decide) (fun y hy => absurd hy (Nat.not_lt_zero _))
    rw [nI_0] at this
    exact this
def mkkA (a : Nat) : Prop := a = 92 ∨ a = 93 ∨ a = 94
abbrev MCk (h h' : AH) : Prop := MO mkkA mbS nP nP h h'
theorem CkH_mo (h : AH) (fn ft fs : Nat → Int32) : MCk h (CkH h fn ft fs) := ((MO.rf.rI fn (Or.inl rfl)).rI ft (Or.inr (Or.inl rfl))).rI fs (Or.inr (Or.inr rfl))
theorem MCk.nt {h1 : AH} (m : MCk h h1) (nt : MNt h n P wi) : MNt h1 n P wi := nt.mo m (by unfold mkkA; omega) (by unfold mkkA; omega) (by unfold mkkA; omega)
theorem s203 (ms : MS0 h) (nt : MNt h n P wi) (po : PartsOK n P) (hn0 : 0 < n) (hn8 : n ≤ 8) (hb1 : 1 ≤ b) (hb : b ≤ 8) (hck1 : 1 ≤ ck) (hck : ck ≤ 4) (hw0 : 0 < wi) (hwi : wi < 2 ^ n)
    (kk : ∀ h' r, HoR n P ck b wi r → MCk h h' → Q (some (.int r)) h') : WPM 203 [.ref 67, .int (nI ck), .int (nI b)] h Q := by
  have m0 : MCk h (sI h 67 0 0) := MO.rf.sI67 0 rfl
  have ms1 := m0.ms ms
  have nt1 := MCk.nt m0 nt
  have k1 : ∀ r fn ft fs, HoR n P ck b wi r → Q (some (.int r)) (CkH (sI h 67 0 0) fn ft fs) := fun r fn ft fs c => kk _ r c (m0.trans (CkH_mo _ fn ft fs))
  have hne : ¬ nI n = 0 := nI_ne0 hn0 (by omega)
  have hle8 : nI n ≤ (8 : Int32) := nI_le (b := 8) hn8 (by decide)
  have q : (1 : Int32) ≤ nI b ∧ nI b ≤ (8 : Int32) := ⟨nI_le (a := 1) hb1 (by omega), nI_le (b := 8) hb (by decide)⟩
  have q' : (1 : Int32) ≤ nI ck ∧ nI ck ≤ (4 : Int32) := ⟨nI_le (a := 1) hck1 (by omega), nI_le (b := 4) hck (by decide)⟩
  have hpw : (1 : Int32) <<< (nI n &&& 31) = nI (2 ^ n) := nI_pow n (by omega)
  rw [we203]
  simp only [w203_a, ms, mz, hs_sI, e72z, nt.1, s150, if_pos q, if_pos q', hne, hle8, hpw, zz]
  generalize sI h 67 0 0 = h1 at ms1 nt1 k1 ⊢
  have hr := CkH_r h1
  have h256 : 2 ^ n ≤ 256 := p2_le (n := 8) hn8
  have hp : 0 < 2 ^ n := Nat.pow_pos (by decide)
  have fill : ∀ d x fn fs, 256 - x = d → x ≤ 256 → (∀ y, y < x → fn y = if y = 0 then 1 else 0) → (∀ y, y < x → fs y = if y = 0 then 1 else 0) → WP 203 59 [.ref 67, .int (nI ck), .int (nI b), .int (nI (2 ^ n)), .int (nI x), .retAddr 0, .retAddr 0] [] (CkH h1 fn (hI h1 93) fs) Q := by
    intro d
    induction d with
    | zero =>
      intro x fn fs hd hx hf1 hf2
      have hle : (256 : Int32) ≤ nI x := nI_le (a := 256) (by omega) (by omega)
      rw [w203_59]
      simp only [w203_a, w203_b, hle, zz]
      have e1 : ∀ s, VV n P ck b 0 s ↔ s = 0 := fun s => Iff.rfl
      have := ck_main (h := h1) (Q := Q) ms1 nt1 po hn8 (show b ≤ 14 by omega) (show ck ≤ 14 by omega) hwi k1 300 0 fn (hI h1 93) fs (.retAddr 0) (.retAddr 0) 0 rfl (by decide) ⟨rfl, fun j hj => absurd hj (Nat.not_lt_zero _)⟩ (fun s hs => ?_) (fun s hs => ?_) (fun j s hj hv => ?_)
      · exact this
      · rw [hf1 s (by omega)]
        by_cases z : s = 0
        · rw [if_pos z]
          exact Or.inl ⟨rfl, (e1 s).mpr z, fun j hj => absurd hj (Nat.not_lt_zero _)⟩
        · rw [if_neg z]
          exact Or.inr ⟨rfl, fun y => z y.1⟩
      · rw [hf2 s (by omega)]
        by_cases z : s = 0
        · rw [if_pos z]
          exact Or.inl ⟨rfl, 0, Nat.le_refl _, z⟩
        · rw [if_neg z]
          exact Or.inr ⟨rfl, fun ⟨j, hj, y⟩ => z (by rw [show j = 0 by omega] at y; exact y)⟩
      · have hj0 : j = 0 := by omega
        subst hj0
        rw [show s = 0 from hv, Nat.zero_and]
        omega
    | succ d ih =>
      intro x fn fs hd hx hf1 hf2
      have hle : ¬ (256 : Int32) ≤ nI x := nI_ge (b := 256) (by omega) (by decide)
      have c1 : (nI x).toNatClampNeg = x := nI_clamp (by omega)
      have i1 : inb (nI x) 256 = true := inb_nI (by omega) (by decide)
      have up : ∀ (f : Nat → Int32) v, v = (if x = 0 then (1 : Int32) else 0) → (∀ y, y < x → f y = if y = 0 then 1 else 0) → ∀ y, y < x + 1 → va_up f x v y = if y = 0 then 1 else 0 := fun f v hv hf y hy => by
        rw [up_at]
        by_cases z : y = x
        · rw [if_pos z, hv, z]
        · rw [if_neg z]
          exact hf y (by omega)
      rw [w203_59]
      by_cases z : x = 0
      · have hz : nI x = 0 := by rw [z]; exact nI_0
        have hz' : inb 0 256 = true := by decide +kernel
        have go := ih (x + 1) (va_up fn x 1) (va_up fs x 1) (by omega) (by omega) (up fn 1 (by rw [if_pos z]) hf1) (up fs 1 (by rw [if_pos z]) hf2)
        have hle0 : ¬ (256 : Int32) ≤ 0 := by decide +kernel
        rw [z] at go
        simp only [w203_a, w203_b, hle0, hr, ms1, hz, hz', mz, and11, zz]
        exact go
      · have hz : ¬ nI x = 0 := nI_ne0 (by omega) (by omega)
        simp only [w203_a, w203_b, hle, hr, ms1, c1, i1, hz, mz, and11, zz, nI_1]
        exact ih (x + 1) (va_up fn x 0) (va_up fs x 0) (by omega) (by omega) (up fn 0 (by rw [if_neg z]) hf1) (up fs 0 (by rw [if_neg z]) hf2)
  have e0 : CkH h1 (hI h1 92) (hI h1 93) (hI h1 94) = h1 := by
    unfold CkH
    rw [setI_id, setI_id, setI_id]
  have := fill 256 0 (hI h1 92) (hI h1 94) rfl (by decide) (fun y hy => absurd hy (Nat.not_lt_zero _)) (fun y hy => absurd hy (Nat.not_lt_zero _))
  rw [e0, nI_0] at this
  exact this
theorem s203f (ms : MS0 h) (h72 : hI h 72 0 = nI n) (hn : n ≤ 14) (u v : Int32) (hq : ¬ ((1 ≤ u ∧ u ≤ 4) ∧ (1 ≤ v ∧ v ≤ 8) ∧ 0 < n ∧ n ≤ 8)) : WPM 203 [.ref 67, .int u, .int v] h Q ↔ Q (some (.int (-2))) (sI h 67 0 0) := by
  rw [we203]
  by_cases q' : (1 : Int32) ≤ u ∧ u ≤ 4
  · by_cases q : (1 : Int32) ≤ v ∧ v ≤ 8
    · rcases Nat.eq_zero_or_pos n with z | z
      · have hz : nI n = 0 := by rw [z]; exact nI_0
        simp only [w203_a, ms, mz, hs_sI, e72z, h72, s150, if_pos q, if_pos q', hz, zz]
      · have hne : ¬ nI n = 0 := nI_ne0 z (by omega)
        have h8 : ¬ n ≤ 8 := fun y => hq ⟨q', q, z, y⟩
        have hle : ¬ nI n ≤ (8 : Int32) := nI_ge (a := 8) (by omega) (by omega)
        simp only [w203_a, ms, mz, hs_sI, e72z, h72, s150, if_pos q, if_pos q', hne, hle, zz]
    · simp only [w203_a, ms, mz, hs_sI, e72z, h72, s150, if_pos q', if_neg q, zz]
  · simp only [w203_a, ms, mz, hs_sI, e72z, h72, s150, if_neg q', zz]
end Ck2

/-! ===== the reference's cooks ===== -/
/-- a row of booleans -/
def BR (S : Nat → Prop) (f : Nat → Int32) : Prop := ∀ s, s < 256 → (f s = 1 ∧ S s) ∨ (f s = 0 ∧ ¬ S s)
theorem BR.congr {S S' : Nat → Prop} {f : Nat → Int32} (h : BR S f) (e : ∀ s, s < 256 → (S s ↔ S' s)) : BR S' f := by
  intro s hs
  rcases h s hs with ⟨h1, h2⟩ | ⟨h1, h2⟩
  · exact Or.inl ⟨h1, (e s hs).mp h2⟩
  · exact Or.inr ⟨h1, fun z => h2 ((e s hs).mpr z)⟩
theorem BR.put {S : Nat → Prop} {f : Nat → Int32} (h : BR S f) (t : Nat) : BR (fun s => S s ∨ s = t) (va_up f t 1) := by
  intro s hs
  rw [up_at]
  by_cases q : s = t
  · rw [if_pos q]
    exact Or.inl ⟨rfl, Or.inr q⟩
  · rw [if_neg q]
    rcases h s hs with ⟨h1, h2⟩ | ⟨h1, h2⟩
    · exact Or.inl ⟨h1, Or.inl h2⟩
    · exact Or.inr ⟨h1, fun z => z.elim h2 q⟩
def CkH (h : AH) (fn ft fs : Nat → Int32) : AH := setI (setI (setI h 92 fn) 93 ft) 94 fs
theorem CkH_r (h : AH) : ∀ fn ft fs, hT (CkH h fn ft fs) = hT h ∧ hL (CkH h fn ft fs) = hL h ∧ hR (CkH h fn ft fs) = hR h ∧ hI (CkH h fn ft fs) 92 = fn ∧ hI (CkH h fn ft fs) 93 = ft ∧ hI (CkH h fn ft fs) 94 = fs ∧ hI (CkH h fn ft fs) 70 = hI h 70 ∧ hI (CkH h fn ft fs) 72 = hI h 72 ∧ hI (CkH h fn ft fs) 73 = hI h 73 ∧ (∀ k v, sI (CkH h fn ft fs) 92 k v = CkH h (va_up fn k v) ft fs) ∧ (∀ k v, sI (CkH h fn ft fs) 93 k v = CkH h fn (va_up ft k v) fs) ∧ ∀ k v, sI (CkH h fn ft fs) 94 k v = CkH h fn ft (va_up fs k v) := by
  intro fn ft fs
  refine ⟨rfl, rfl, rfl, rfl, rfl, rfl, rfl, rfl, rfl, fun k v => ?_, fun k v => ?_, fun k v => sI_setI _ _ _ _ _⟩
  · unfold CkH
    rw [sI_setI_o (by decide), sI_setI_o (by decide), sI_setI]
  · unfold CkH
    rw [sI_setI_o (by decide), sI_setI]
section Ck
variable {h : AH} {n b ck wi : Nat} {P : Nat → Nat} {Q : Option Value → AH → Prop}
theorem s204 {l : Nat} {T : Nat → Prop} {fn fs ft0 : Nat → Int32} {x4 : Int32} (ms : MS0 h) (nt : MNt h n P wi) (po : PartsOK n P) (hn8 : n ≤ 8) (hb : b ≤ 14) (hck : ck ≤ 14) (hl : l < 2 ^ n) (br0 : BR T ft0)
    (kk : ∀ ft, BR (fun t => T t ∨ ckL n P ck b l t) ft → Q none (CkH h fn ft fs)) : WPM 204 [.ref 67, .int (nI l), .int (nI ck), .int (nI b), .int x4] (CkH h fn ft0 fs) Q := by
  have hr := CkH_r h
  have hl6 := lt256 hl hn8
  have n0 := nt.1
  have hmc6 := lt256 (mcN_lt (P := P) (full := l) n) hn8
  have hbl := fun (ft : Nat → Int32) (Q : Option Value → AH → Prop) => s152 (Q := Q) (h := CkH h fn ft fs) (s := l) (by omega)
  have sb : ∀ s ft, s &&& mcN P l n = s → BR (fun t => T t ∨ ∃ m, s < m ∧ m &&& mcN P l n = m ∧ pc m ≤ ck ∧ pc l + pc m ≤ b ∧ t = l ||| m) ft → WP 204 63 [.ref 67, .int (nI l), .int (nI ck), .int (nI b), .int x4, .int (nI (mcN P l n)), .int (nI s)] [] (CkH h fn ft fs) Q := by
    intro s
    induction s using Nat.strongRecOn with
    | _ s ih =>
      intro ft hs br
      have hsm : s ≤ mcN P l n := by
        have : s &&& mcN P l n ≤ mcN P l n := Nat.and_le_right
        omega
      have hs6 : s < 256 := by omega
      have l0 : ¬ nI s < 0 := nI_nlt (a := s) (b := 0) (Nat.zero_le _) (by omega)
      have hbs := fun (ft : Nat → Int32) (Q : Option Value → AH → Prop) => s152 (Q := Q) (h := CkH h fn ft fs) (s := s) (by omega)
      have hps := pc_le s
      have hpl := pc_le l
      have e1 : (nI ck < nI (pc s)) ↔ ck < pc s := nI_ltI (by omega) (by omega)
      have e2 : (nI b < nI (pc l + pc s)) ↔ b < pc l + pc s := nI_ltI (by omega) (by omega)
      have hor : l ||| s < 256 := Nat.or_lt_two_pow (n := 8) hl6 hs6
      have c1 : (nI (l ||| s)).toNatClampNeg = l ||| s := nI_clamp (by omega)
      have i1 : inb (nI (l ||| s)) 256 = true := inb_nI hor (by decide)
      -- behind s
      have tail : ∀ ft, BR (fun t => T t ∨ ∃ m, s ≤ m ∧ m &&& mcN P l n = m ∧ pc m ≤ ck ∧ pc l + pc m ≤ b ∧ t = l ||| m) ft → WP 204 101 [.ref 67, .int (nI l), .int (nI ck), .int (nI b), .int x4, .int (nI (mcN P l n)), .int (nI s)] [] (CkH h fn ft fs) Q := by
        intro ft br'
        by_cases q : s = 0
        · have hz : nI s = 0 := by rw [q]; exact nI_0
          simp only [w204_b, hz, mz, zz, w204_63, w204_a]
          refine kk ft (br'.congr fun t _ => ?_)
          constructor
          · rintro (z | ⟨m, -, z⟩)
            · exact Or.inl z
            · exact Or.inr ⟨m, z⟩
          · rintro (z | ⟨m, z⟩)
            · exact Or.inl z
            · exact Or.inr ⟨m, by omega, z⟩
        · have hz : ¬ nI s = 0 := nI_ne0 (by omega) (by omega)
          have es : nI s - 1 = nI (s - 1) := pk_sub (a := s) (b := 1) (by omega)
          have hle : (s - 1) &&& mcN P l n ≤ s - 1 := Nat.and_le_left
          simp only [w204_b, hz, es, nI_and, zz]
          refine ih _ (by omega) ft (subm_in s _) (br'.congr fun t _ => ?_)
          constructor
          · rintro (z | ⟨m, h1, z⟩)
            · exact Or.inl z
            · exact Or.inr ⟨m, by omega, z⟩
          · rintro (z | ⟨m, h1, z⟩)
            · exact Or.inl z
            · refine Or.inr ⟨m, ?_, z⟩
              rcases Nat.lt_or_ge m s with y | y
              · have := subm s (mcN P l n) m (by omega) hs z.1 y
                omega
              · exact y
      have skip : ¬ (pc s ≤ ck ∧ pc l + pc s ≤ b) → WP 204 101 [.ref 67, .int (nI l), .int (nI ck), .int (nI b), .int x4, .int (nI (mcN P l n)), .int (nI s)] [] (CkH h fn ft fs) Q := fun hno => by
        refine tail ft (br.congr fun t _ => ?_)
        constructor
        · rintro (z | ⟨m, h1, z⟩)
          · exact Or.inl z
          · exact Or.inr ⟨m, by omega, z⟩
        · rintro (z | ⟨m, h1, z⟩)
          · exact Or.inl z
          · refine Or.inr ⟨m, ?_, z⟩
            rcases Nat.lt_or_ge s m with y | y
            · exact y
            · have : m = s := by omega
              rw [this] at z
              exact absurd ⟨z.2.1, z.2.2.1⟩ hno
      rw [w204_63]
      by_cases q1 : ck < pc s
      · have k' := skip (by omega)
        simp only [w204_b] at k'
        simp only [w204_a, w204_b, l0, hbs, e1, q1, zz]
        exact k'
      · by_cases q2 : b < pc l + pc s
        · have k' := skip (by omega)
          simp only [w204_b] at k'
          simp only [w204_a, w204_b, l0, hbs, hbl, nI_add, e1, q1, e2, q2, zz]
          exact k'
        · have k' := tail (va_up ft (l ||| s) 1) ((br.put (l ||| s)).congr fun t _ => by
            constructor
            · rintro ((z | ⟨m, h1, z⟩) | z)
              · exact Or.inl z
              · exact Or.inr ⟨m, by omega, z⟩
              · exact Or.inr ⟨s, Nat.le_refl _, hs, by omega, by omega, z⟩
            · rintro (z | ⟨m, h1, z⟩)
              · exact Or.inl (Or.inl z)
              · rcases Nat.lt_or_ge s m with y | y
                · exact Or.inl (Or.inr ⟨m, y, z⟩)
                · have : m = s := by omega
                  rw [this] at z
                  exact Or.inr z.2.2.2)
          simp only [w204_b] at k'
          simp only [w204_a, w204_b, l0, hbs, hbl, nI_add, e1, q1, e2, q2, hr, ms, nI_or, c1, i1, and11, zz]
          exact k'
  have can : ∀ d x, n - x = d → x ≤ n → WP 204 6 [.ref 67, .int (nI l), .int (nI ck), .int (nI b), .int x4, .int (nI (mcN P l x)), .int (nI x)] [] (CkH h fn ft0 fs) Q := by
    intro d
    induction d with
    | zero =>
      intro x hd hx
      have hxn : x = n := by omega
      have hle : nI n ≤ nI x := nI_le (by omega) (by omega)
      rw [w204_6]
      simp only [w204_a, w204_b, hr, ms, mz, n0, hle, zz]
      rw [hxn]
      refine sb _ ft0 (Nat.and_self _) (br0.congr fun t _ => ?_)
      constructor
      · exact fun z => Or.inl z
      · rintro (z | ⟨m, h1, h2, -⟩)
        · exact z
        · have : m &&& mcN P l n ≤ mcN P l n := Nat.and_le_right
          omega
    | succ d ih =>
      intro x hd hx
      have hxn : x < n := by omega
      have hle : ¬ nI n ≤ nI x := nI_ge hxn (by omega)
      have c1 : (nI x).toNatClampNeg = x := nI_clamp (by omega)
      have i1 : inb (nI x) 28 = true := inb_nI (by omega) (by decide)
      have pw : (1 : Int32) <<< (nI x &&& 31) = nI (2 ^ x) := nI_pow x (by omega)
      have m0 := nt.2.2 x hxn
      have hPx := s_lt po.1 (po.lt hxn)
      have e1 := sdf0 (a := P x) (s := l) (by omega)
      have eb := mtb0 (s := l) (x := x) (by omega) (by omega)
      have o0 : ∀ a : Int32, a ||| 0 = a := fun a => Int32.or_zero
      have hst : mcN P l (x + 1) = if l.testBit x = false ∧ l &&& P x = P x then mcN P l x ||| 2 ^ x else mcN P l x := rfl
      have go := ih (x + 1) (by omega) (by omega)
      rw [w204_6]
      by_cases q1 : l.testBit x = true
      · rw [hst, if_neg (fun z => by rw [q1] at z; cases z.1)] at go
        simp only [w204_a, w204_b, hr, ms, mz, n0, hle, eb, q1, o0, zz, nI_1]
        exact go
      · by_cases q2 : l &&& P x = P x
        · rw [hst, if_pos ⟨by simpa using q1, q2⟩] at go
          simp only [w204_a, w204_b, hr, ms, mz, n0, hle, eb, q1, c1, i1, m0, nI_sdf, e1, eq_true q2, pw, nI_or, zz, nI_1]
          exact go
        · rw [hst, if_neg (fun z => q2 z.2)] at go
          simp only [w204_a, w204_b, hr, ms, mz, n0, hle, eb, q1, c1, i1, m0, nI_sdf, e1, eq_false q2, o0, zz, nI_1]
          exact go
  rw [we204]
  simp only [w204_a]
  have := can n 0 rfl (Nat.zero_le _)
  rw [nI_0] at this
  exact this
end Ck

/-! ===== plans: the acts by number; the reference's judge ===== -/
theorem actN_cons (a : Act) (L : List Act) (p : Nat) : actN (a :: L) p = if a.1 = p then some a else actN L p := by
  unfold actN
  show ((if a.1 = p then some 0 else (findA L p).map (· + 1)) : Option Nat).bind (fun j => (a :: L)[j]?) = _
  by_cases q : a.1 = p
  · rw [if_pos q, if_pos q]
    rfl
  · rw [if_neg q, if_neg q]
    cases findA L p <;> rfl
theorem actN_none {p : Nat} : ∀ (L : List Act), (∀ a ∈ L, a.1 ≠ p) → actN L p = none := by
  intro L
  induction L with
  | nil => exact fun _ => rfl
  | cons a L ih =>
    intro h
    rw [actN_cons, if_neg (h a List.mem_cons_self)]
    exact ih fun b hb => h b (List.mem_cons_of_mem _ hb)
theorem actN_one {p : Nat} {a0 : Act} (h2 : a0.1 = p) : ∀ (L : List Act), a0 ∈ L → (∀ a ∈ L, a.1 = p → a = a0) → actN L p = some a0 := by
  intro L
  induction L with
  | nil => exact fun h => absurd h List.not_mem_nil
  | cons a L ih =>
    intro h1 hu
    rw [actN_cons]
    by_cases q : a.1 = p
    · rw [if_pos q, hu a List.mem_cons_self q]
    · rw [if_neg q]
      refine ih ?_ fun b hb => hu b (List.mem_cons_of_mem _ hb)
      rcases List.mem_cons.mp h1 with z | z
      · rw [← z] at q
        exact absurd h2 q
      · exact z
/-- the numbers of a plan -/
def plN (p : Nat) : Prop := p < 14 ∨ (∃ x, x < 14 ∧ p = 20 + x) ∨ ∃ x y, x < 14 ∧ y < 14 ∧ p = 100 + 20 * x + y
section An
variable {n w : Nat} {P : Nat → Nat}
theorem acts_cases (po : PartsOK n P) {a : Act} (ha : a ∈ actsOf n P w) : (∃ x, x < n ∧ a = mkA P x ∧ a.1 = x) ∨ (∃ x, x < n ∧ a = waA w P x ∧ a.1 = 20 + x) ∨ (w % 2 = 1 ∧ ∃ x y, x < n ∧ y < x ∧ (P x).testBit y = true ∧ a = inA w P x y ∧ a.1 = 100 + 20 * x + y) := by
  rcases mem_actsOf.mp ha with ⟨x, hx, rfl⟩ | ⟨x, hx, rfl⟩ | ⟨hw1, x, y, hx, hy, hb', rfl⟩
  · exact Or.inl ⟨x, hx, rfl, rfl⟩
  · exact Or.inr (Or.inl ⟨x, hx, rfl, rfl⟩)
  · exact Or.inr (Or.inr ⟨hw1, x, y, hx, hy, hb', rfl, rfl⟩)
theorem actN_mk (po : PartsOK n P) {x : Nat} (hx : x < 14) : actN (actsOf n P w) x = if x < n then some (mkA P x) else none := by
  have hn := po.1
  by_cases q : x < n
  · rw [if_pos q]
    refine actN_one (p := x) (a0 := mkA P x) rfl _ (mem_actsOf.mpr (Or.inl ⟨x, q, rfl⟩)) fun a ha h => ?_
    rcases acts_cases po ha with ⟨x', h1, h2, h3⟩ | ⟨x', h1, h2, h3⟩ | ⟨-, x', y', h1, h2, h3, h4, h5⟩
    · rw [h2, show x' = x by omega]
    · omega
    · omega
  · rw [if_neg q]
    refine actN_none _ fun a ha h => ?_
    rcases acts_cases po ha with ⟨x', h1, h2, h3⟩ | ⟨x', h1, h2, h3⟩ | ⟨-, x', y', h1, h2, h3, h4, h5⟩ <;> omega
theorem actN_wa (po : PartsOK n P) {x : Nat} (hx : x < 14) : actN (actsOf n P w) (20 + x) = if x < n then some (waA w P x) else none := by
  have hn := po.1
  by_cases q : x < n
  · rw [if_pos q]
    refine actN_one (p := 20 + x) (a0 := waA w P x) rfl _ (mem_actsOf.mpr (Or.inr (Or.inl ⟨x, q, rfl⟩))) fun a ha h => ?_
    rcases acts_cases po ha with ⟨x', h1, h2, h3⟩ | ⟨x', h1, h2, h3⟩ | ⟨-, x', y', h1, h2, h3, h4, h5⟩
    · omega
    · rw [h2, show x' = x by omega]
    · omega
  · rw [if_neg q]
    refine actN_none _ fun a ha h => ?_
    rcases acts_cases po ha with ⟨x', h1, h2, h3⟩ | ⟨x', h1, h2, h3⟩ | ⟨-, x', y', h1, h2, h3, h4, h5⟩ <;> omega
theorem actN_in (po : PartsOK n P) {x y : Nat} (hx : x < 14) (hy : y < 14) : actN (actsOf n P w) (100 + 20 * x + y) = if w % 2 = 1 ∧ x < n ∧ (P x).testBit y = true then some (inA w P x y) else none := by
  have hn := po.1
  by_cases q : w % 2 = 1 ∧ x < n ∧ (P x).testBit y = true
  · rw [if_pos q]
    refine actN_one (p := 100 + 20 * x + y) (a0 := inA w P x y) rfl _ (mem_actsOf.mpr (Or.inr (Or.inr ⟨q.1, x, y, q.2.1, bit_lt po q.2.1 q.2.2, q.2.2, rfl⟩))) fun a ha h => ?_
    rcases acts_cases po ha with ⟨x', h1, h2, h3⟩ | ⟨x', h1, h2, h3⟩ | ⟨-, x', y', h1, h2, h3, h4, h5⟩
    · omega
    · omega
    · rw [h4, show x' = x by omega, show y' = y by omega]
  · rw [if_neg q]
    refine actN_none _ fun a ha h => ?_
    rcases acts_cases po ha with ⟨x', h1, h2, h3⟩ | ⟨x', h1, h2, h3⟩ | ⟨hw1, x', y', h1, h2, h3, h4, h5⟩
    · omega
    · omega
    · refine q ⟨hw1, by omega, ?_⟩
      rw [show x = x' by omega, show y = y' by omega]
      exact h3
end An
section Jd
variable {h : AH} {n w wi b : Nat} {P C : Nat → Nat} {Q : Option Value → AH → Prop}
theorem s178p {p s : Nat} (ms : MS0 h) (nt : MNt h n P wi) (po : PartsOK n P) (wb : MWB h w b) (hp : plN p) (hs : s < 2 ^ n) (hpc : pc s ≤ b) : WPM 178 [.ref 67, .int (nI s), .int (nI p)] h Q ↔ Q (some (.int (oI (acN (actsOf n P w) (2 ^ n) b p s)))) h := by
  have hn := po.1
  unfold acN
  rcases hp with hx | ⟨x, hx, rfl⟩ | ⟨x, y, hx, hy, rfl⟩
  · rw [actN_mk po hx]
    by_cases q : p < n
    · rw [if_pos q]
      exact s178a ms nt po wb (mem_actsOf.mpr (Or.inl ⟨p, q, rfl⟩)) hs hpc
    · rw [if_neg q]
      exact after_no ms nt.1 hn (by omega) hx (Or.inl rfl) _
  · rw [actN_wa po hx]
    by_cases q : x < n
    · rw [if_pos q]
      exact s178a ms nt po wb (mem_actsOf.mpr (Or.inr (Or.inl ⟨x, q, rfl⟩))) hs hpc
    · rw [if_neg q]
      exact after_no ms nt.1 hn (by omega) hx (Or.inr (Or.inl rfl)) _
  · rw [actN_in po hx hy]
    by_cases q : x < n
    · by_cases q2 : w % 2 = 1 ∧ x < n ∧ (P x).testBit y = true
      · rw [if_pos q2]
        exact s178a ms nt po wb (mem_actsOf.mpr (Or.inr (Or.inr ⟨q2.1, x, y, q, bit_lt po q q2.2.2, q2.2.2, rfl⟩))) hs hpc
      · rw [if_neg q2]
        have := after_in (Q := Q) ms nt po wb.1 wb.2.2.1 q hy hs
        rw [if_neg (fun z => q2 ⟨z.1, q, z.2.2.2.1⟩)] at this
        exact this
    · rw [if_neg (fun z => q z.2.1)]
      exact after_no ms nt.1 hn (by omega) hx (Or.inr (Or.inr ⟨y, hy, rfl⟩)) _
theorem acN_lt {L : List Act} {N b p s t : Nat} (h : acN L N b p s = some t) : t < N ∧ pc t ≤ b := by
  unfold acN at h
  cases q : actN L p with
  | none => rw [q] at h; cases h
  | some a => rw [q] at h; exact aft_lt h
/-- the reference's plan -/
def MPl (h : AH) (pl : List Nat) : Prop := hI h 67 49 = nI pl.length ∧ RowI (hI h 95) pl ∧ pl.length ≤ 60 ∧ ∀ p ∈ pl, plN p
theorem judge_l {pl : List Nat} (ms : MS0 h) (nt : MNt h n P wi) (po : PartsOK n P) (wb : MWB h w b) (hwi : wi < 2 ^ n) (hC : ∀ x, x < n → hI h 71 x = nI (C x)) (mp : MPl h pl)
    (k : ∀ g, (∀ j, j ≠ 52 → j ≠ 53 → g j = hI h 67 j) → g 52 = nI (jW (actsOf n P w) (2 ^ n) b C pl 0 (0, 0, 0)).2.2.1 → g 53 = nI (jW (actsOf n P w) (2 ^ n) b C pl 0 (0, 0, 0)).2.2.2 → Q (some (.int (jR (isEndB w wi) pl.length (jW (actsOf n P w) (2 ^ n) b C pl 0 (0, 0, 0))))) (setI h 67 g)) :
    ∀ d i f mo sp g y5, pl.length - i = d → i ≤ pl.length → f < 2 ^ n → pc f ≤ b → mo ≤ 16 → (∀ j, j ≠ 52 → j ≠ 53 → g j = hI h 67 j) → g 52 = nI mo → g 53 = nI sp → jW (actsOf n P w) (2 ^ n) b C pl 0 (0, 0, 0) = jW (actsOf n P w) (2 ^ n) b C (pl.drop i) i (f, mo, sp) → WP 213 44 [.ref 67, .int (nI w), .int (nI b), .int (nI f), .int (nI i), y5] [] (setI h 67 g) Q := by
  obtain ⟨p1, p2, p3, p4⟩ := mp
  have hn := po.1
  have hr := hs_setI h 67
  have e67 : ∀ g, hI (setI h 67 g) 67 = g := fun g => by rw [hI_setI, if_pos rfl]
  have e95 : ∀ g, hI (setI h 67 g) 95 = hI h 95 := fun g => rfl
  have e71 : ∀ g, hI (setI h 67 g) 71 = hI h 71 := fun g => rfl
  intro d
  induction d with
  | zero =>
    intro i f mo sp g y5 hd hi hf hfp hmo hg g2 g3 he
    have hle : nI pl.length ≤ nI i := nI_le (by omega) (by omega)
    have g1 : g 49 = nI pl.length := (hg 49 (by decide) (by decide)).trans p1
    have hil : i = pl.length := by omega
    rw [hil, List.drop_length] at he
    have hk := k g hg
    rw [he] at hk
    have hk' := hk g2 g3
    have hf9 := s_lt hn hf
    have wb24 : hI (setI h 67 g) 67 24 = nI w := (hg 24 (by decide) (by decide)).trans wb.1
    have hend := fun (Q : Option Value → AH → Prop) => s179 (h := setI h 67 g) (Q := Q) (s := f) ms wb24 wb.2.2.1 nt.2.1 (by omega) (show wi < 65536 by have := s_lt hn hwi; omega)
    rw [w213_44]
    by_cases q : isEndP w wi f
    · have er : jR (isEndB w wi) pl.length (jW (actsOf n P w) (2 ^ n) b C [] pl.length (f, mo, sp)) = nI (1000 + pl.length) := by
        show (if isEndB w wi f = true then _ else _) = _
        rw [if_pos q]
      rw [er] at hk'
      have e1000 : (1000 : Int32) + nI pl.length = nI (1000 + pl.length) := nI_add 1000 _
      simp only [w213_a, w213_c, hr, e67, ms, g1, hle, hend, if_pos q, mz, e1000, zz]
      exact hk'
    · have er : jR (isEndB w wi) pl.length (jW (actsOf n P w) (2 ^ n) b C [] pl.length (f, mo, sp)) = -1 - nI pl.length := by
        show (if isEndB w wi f = true then _ else _) = _
        rw [if_neg q]
      rw [er] at hk'
      simp only [w213_a, w213_c, hr, e67, ms, g1, hle, hend, if_neg q, mz, zz]
      exact hk'
  | succ d ih =>
    intro i f mo sp g y5 hd hi hf hfp hmo hg g2 g3 he
    have hil : i < pl.length := by omega
    have hle : ¬ nI pl.length ≤ nI i := nI_ge (by omega) (by omega)
    have g1 : g 49 = nI pl.length := (hg 49 (by decide) (by decide)).trans p1
    have c1 : (nI i).toNatClampNeg = i := nI_clamp (by omega)
    have i1 : inb (nI i) 60 = true := inb_nI (by omega) (by decide)
    have hpi := p2 i pl[i] (List.getElem?_eq_getElem hil)
    have hpN := p4 pl[i] (List.getElem_mem hil)
    rw [List.drop_eq_getElem_cons hil] at he
    generalize pl[i] = p at hpi hpN he
    have wb' : ∀ g', (∀ j, j ≠ 52 → j ≠ 53 → g' j = hI h 67 j) → MWB (setI h 67 g') w b := fun g' hg' => ⟨(hg' 24 (by decide) (by decide)).trans wb.1, (hg' 25 (by decide) (by decide)).trans wb.2.1, wb.2.2⟩
    have haft := fun (Q : Option Value → AH → Prop) => s178p (h := setI h 67 g) (Q := Q) ms nt po (wb' g hg) hpN hf hfp
    have hstep : jW (actsOf n P w) (2 ^ n) b C (p :: pl.drop (i + 1)) i (f, mo, sp) = match (actN (actsOf n P w) p).bind (fun a => (aft (2 ^ n) b a f).map (fun t => (a, t))) with
      | none => (some i, (f, mo, sp))
      | some (a, t) => jW (actsOf n P w) (2 ^ n) b C (pl.drop (i + 1)) (i + 1) (t, max mo (pc t), sp + prA C none a) := rfl
    rw [w213_44]
    cases hac : acN (actsOf n P w) (2 ^ n) b p f with
    | none =>
      have hno : (actN (actsOf n P w) p).bind (fun a => (aft (2 ^ n) b a f).map (fun t => (a, t))) = none := by
        unfold acN at hac
        cases q : actN (actsOf n P w) p with
        | none => rfl
        | some a =>
          rw [q] at hac
          change aft (2 ^ n) b a f = none at hac
          show (aft (2 ^ n) b a f).map (fun t => (a, t)) = none
          rw [hac]
          rfl
      rw [hno] at hstep
      rw [hstep] at he
      have hk := k g hg
      rw [he] at hk
      simp only [w213_a, w213_b, hr, e67, ms, g1, hle, e95, c1, i1, hpi, haft, hac, oI_none, mz, zz]
      exact hk g2 g3
    | some t =>
      obtain ⟨ht, htp⟩ := acN_lt hac
      have ht9 := s_lt hn ht
      obtain ⟨a, haN, haf⟩ : ∃ a, actN (actsOf n P w) p = some a ∧ aft (2 ^ n) b a f = some t := by
        unfold acN at hac
        cases q : actN (actsOf n P w) p with
        | none => rw [q] at hac; cases hac
        | some a => rw [q] at hac; exact ⟨a, rfl, hac⟩
      have hyes : (actN (actsOf n P w) p).bind (fun a => (aft (2 ^ n) b a f).map (fun t => (a, t))) = some (a, t) := by
        rw [haN]
        show (aft (2 ^ n) b a f).map (fun t => (a, t)) = some (a, t)
        rw [haf]
        rfl
      rw [hyes] at hstep
      change _ = jW (actsOf n P w) (2 ^ n) b C (pl.drop (i + 1)) (i + 1) (t, max mo (pc t), sp + prA C none a) at hstep
      rw [hstep] at he
      have hge : (0 : Int32) ≤ nI t := nI_pos' (by omega)
      have hbt := fun (g' : Nat → Int32) (Q : Option Value → AH → Prop) => s152 (Q := Q) (h := setI h 67 g') (s := t) (by omega)
      have hpt := pc_le t
      have hcmp : (nI (pc t) ≤ nI mo) ↔ pc t ≤ mo := nI_leI (by omega) (by omega)
      have up2 : ∀ v, va_up g 52 v 53 = g 53 := fun v => by rw [up_at, if_neg (by decide)]
      have fin : ∀ m, m = nI (max mo (pc t)) → ∀ y5, WP 213 44 [.ref 67, .int (nI w), .int (nI b), .int (nI t), .int (nI (i + 1)), y5] [] (setI h 67 (va_up (va_up g 52 m) 53 (nI (sp + prA C none a)))) Q := fun m hm y5 => by
        refine ih (i + 1) t (max mo (pc t)) (sp + prA C none a) _ y5 (by omega) (by omega) ht htp (by omega) (fun j j1 j2 => ?_) ?_ ?_ he
        · rw [up_at, if_neg j2, up_at, if_neg j1]
          exact hg j j1 j2
        · rw [up_at, if_neg (by decide), up_at, if_pos rfl, hm]
        · rw [up_at, if_pos rfl]
      have m1 : pc t ≤ mo → nI mo = nI (max mo (pc t)) := fun q => by rw [Nat.max_eq_left q]
      have m2 : ¬ pc t ≤ mo → nI (pc t) = nI (max mo (pc t)) := fun q => by rw [Nat.max_eq_right (by omega)]
      rcases hpN with hx | ⟨x, hx, rfl⟩ | ⟨x, y, hx, hy, rfl⟩
      · have hxn : p < n := by
          rw [actN_mk po hx] at haN
          split at haN
          · assumption
          · cases haN
        have hpr : prA C none a = C p := by
          rw [actN_mk po hx, if_pos hxn] at haN
          cases haN
          rfl
        have g20 : ¬ (20 : Int32) ≤ nI p := nI_ge (b := 20) (a := p) (by omega) (by decide)
        have c2 : (nI p).toNatClampNeg = p := nI_clamp (by omega)
        have i2 : inb (nI p) 28 = true := inb_nI (by omega) (by decide)
        rw [hpr] at fin
        by_cases q : pc t ≤ mo
        · simp only [w213_a, w213_b, w213_c, hr, e67, ms, g1, hle, e95, e71, c1, i1, hpi, haft, hac, oI_some, hge, hbt, g2, g3, up2, hcmp, q, sI_setI, g20, c2, i2, hC p hxn, nI_add, mz, zz, nI_1]
          exact fin _ (m1 q) _
        · simp only [w213_a, w213_b, w213_c, hr, e67, ms, g1, hle, e95, e71, c1, i1, hpi, haft, hac, oI_some, hge, hbt, g2, g3, up2, hcmp, q, sI_setI, g20, c2, i2, hC p hxn, nI_add, mz, zz, nI_1]
          exact fin _ (m2 q) _
      · have hpr : prA C none a = 0 := by
          rw [actN_wa po hx] at haN
          split at haN
          · cases haN
            rfl
          · cases haN
        have g20 : (20 : Int32) ≤ nI (20 + x) := nI_le (a := 20) (b := 20 + x) (by omega) (by omega)
        have g100 : ¬ (100 : Int32) ≤ nI (20 + x) := nI_ge (b := 100) (a := 20 + x) (by omega) (by decide)
        have e0 : nI sp + 0 = nI (sp + 0) := by rw [← nI_add]; rfl
        rw [hpr] at fin
        by_cases q : pc t ≤ mo
        · simp only [w213_a, w213_b, w213_c, hr, e67, ms, g1, hle, e95, c1, i1, hpi, haft, hac, oI_some, hge, hbt, g2, g3, up2, hcmp, q, sI_setI, g20, g100, e0, mz, zz, nI_1]
          exact fin _ (m1 q) _
        · simp only [w213_a, w213_b, w213_c, hr, e67, ms, g1, hle, e95, c1, i1, hpi, haft, hac, oI_some, hge, hbt, g2, g3, up2, hcmp, q, sI_setI, g20, g100, e0, mz, zz, nI_1]
          exact fin _ (m2 q) _
      · have hxn : w % 2 = 1 ∧ x < n ∧ (P x).testBit y = true := by
          rw [actN_in po hx hy] at haN
          split at haN
          · assumption
          · cases haN
        have hpr : prA C none a = C x := by
          rw [actN_in po hx hy, if_pos hxn] at haN
          cases haN
          rfl
        obtain ⟨g20, g100, e1, e2, e3⟩ := num_in (x := x) (y := y) hx hy
        have c2 : (nI x).toNatClampNeg = x := nI_clamp (by omega)
        have i2 : inb (nI x) 28 = true := inb_nI (by omega) (by decide)
        rw [hpr] at fin
        by_cases q : pc t ≤ mo
        · simp only [w213_a, w213_b, w213_c, hr, e67, ms, g1, hle, e95, e71, c1, i1, hpi, haft, hac, oI_some, hge, hbt, g2, g3, up2, hcmp, q, sI_setI, g20, g100, e1, e2, c2, i2, hC x hxn.2.1, nI_add, mz, zz, nI_1]
          exact fin _ (m1 q) _
        · simp only [w213_a, w213_b, w213_c, hr, e67, ms, g1, hle, e95, e71, c1, i1, hpi, haft, hac, oI_some, hge, hbt, g2, g3, up2, hcmp, q, sI_setI, g20, g100, e1, e2, c2, i2, hC x hxn.2.1, nI_add, mz, zz, nI_1]
          exact fin _ (m2 q) _
def mjA (a : Nat) : Prop := a = 79
def mjS (j : Nat) : Prop := j = 0 ∨ j = 23 ∨ j = 24 ∨ j = 25 ∨ j = 51 ∨ j = 52 ∨ j = 53
theorem s213 {pl : List Nat} (ms : MS0 h) (nt : MNt h n P wi) (po : PartsOK n P) (hC : ∀ x, x < n → hI h 71 x = nI (C x)) (mp : MPl h pl) (hn0 : 0 < n) (hw : w < 8) (hb1 : 1 ≤ b) (hb : b ≤ 14) (hwi : wi < 2 ^ n)
    (k : ∀ h', MO mjA mjS nP nP h h' → hI h' 67 51 = 1 → hI h' 67 52 = nI (jW (actsOf n P w) (2 ^ n) b C pl 0 (0, 0, 0)).2.2.1 → hI h' 67 53 = nI (jW (actsOf n P w) (2 ^ n) b C pl 0 (0, 0, 0)).2.2.2 → Q (some (.int (jR (isEndB w wi) pl.length (jW (actsOf n P w) (2 ^ n) b C pl 0 (0, 0, 0))))) h') : WPM 213 [.ref 67, .int (nI w), .int (nI b)] h Q := by
  have q := asked_t hw hb1 hb hn0 po.1
  have hn := po.1
  have m0 : MO mjA mjS nP nP h (sI h 67 0 0) := MO.rf.sI67 0 (Or.inl rfl)
  have hN0 : 0 < 2 ^ n := Nat.pow_pos (by decide)
  rw [we213]
  simp only [w213_a, ms, mz, hs_sI, s182 (m0.ms ms), e72z, nt.1, if_pos q, zz]
  refine s176 (h := sI h 67 0 0) ms nt po hw fun ar hra => ?_
  have m1 : MO mjA mjS nP nP h (LHp (sI h 67 0 0) w b (actsOf n P w).length ar) := m0.trans ((LHp_mo _ w b _ ar).mono (fun _ q => q) (fun _ q => by unfold mjS; omega) (fun _ q => q) (fun _ q => q))
  have e3 : sI (sI (sI (LHp (sI h 67 0 0) w b (actsOf n P w).length ar) 67 51 1) 67 52 0) 67 53 0 = setI (LHp (sI h 67 0 0) w b (actsOf n P w).length ar) 67 (va_up (va_up (va_up (hI (LHp (sI h 67 0 0) w b (actsOf n P w).length ar) 67) 51 1) 52 0) 53 0) := by
    rw [sI_as (LHp (sI h 67 0 0) w b (actsOf n P w).length ar), sI_setI, sI_setI]
  have eT : hT (LHp (sI h 67 0 0) w b (actsOf n P w).length ar) 67 = 13 := ms.1
  simp only [w213_a, hs_sI, eT, e3, zz]
  have h51 : ∀ j, j ≠ 51 → j ≠ 52 → j ≠ 53 → va_up (va_up (va_up (hI (LHp (sI h 67 0 0) w b (actsOf n P w).length ar) 67) 51 1) 52 0) 53 0 j = hI (LHp (sI h 67 0 0) w b (actsOf n P w).length ar) 67 j := fun j j1 j2 j3 => by rw [up_at, if_neg j3, up_at, if_neg j2, up_at, if_neg j1]
  have go := judge_l (Q := Q) (C := C) (h := setI (LHp (sI h 67 0 0) w b (actsOf n P w).length ar) 67 (va_up (va_up (va_up (hI (LHp (sI h 67 0 0) w b (actsOf n P w).length ar) 67) 51 1) 52 0) 53 0)) (w := w) (b := b) (pl := pl) ms nt po ⟨rfl, rfl, hw, hb⟩ hwi hC mp (fun g hg g2 g3 => ?_) pl.length 0 0 0 0 (va_up (va_up (va_up (hI (LHp (sI h 67 0 0) w b (actsOf n P w).length ar) 67) 51 1) 52 0) 53 0) (.retAddr 0) rfl (Nat.zero_le _) hN0 (by rw [pc_0]; exact Nat.zero_le _) (Nat.zero_le _) (fun _ _ _ => rfl) rfl rfl rfl
  · rw [setI_setI, nI_0] at go
    exact go
  · rw [setI_setI]
    refine k _ (m1.r67 fun j hj => ?_) ((hg 51 (by decide) (by decide)).trans rfl) g2 g3
    unfold mjS at hj
    rw [hg j (by omega) (by omega)]
    exact h51 j (by omega) (by omega) (by omega)
theorem s213f {v u : Int32} (ms : MS0 h) (h72 : hI h 72 0 = nI n) (hq : ¬ ((0 ≤ v ∧ v ≤ 7) ∧ (1 ≤ u ∧ u ≤ 14) ∧ 0 < nI n)) : WPM 213 [.ref 67, .int v, .int u] h Q ↔ Q (some (.int (-1000))) (sI h 67 0 0) := by
  have mf : MF h (sI h 67 0 0) := MF.z
  rw [we213]
  simp only [w213_a, ms, mz, hs_sI, s182 (mf.ms ms), e72z, h72, if_neg hq, zz]
/-- what judged answers: whether it was judged, most, spent -/
def jdR (hj m c v : Int32) : Int32 := if hj = 0 ∨ ¬ (0 ≤ v ∧ v ≤ 1) then -1 else if v = 0 then m else c
theorem s214 (ms : MS0 h) (v : Int32) : WPM 214 [.ref 67, .int v] h Q ↔ Q (some (.int (jdR (hI h 67 51) (hI h 67 52) (hI h 67 53) v))) (sI h 67 0 0) := by
  have e51 : hI (sI h 67 0 0) 67 51 = hI h 67 51 := rfl
  have e52 : hI (sI h 67 0 0) 67 52 = hI h 67 52 := rfl
  have e53 : hI (sI h 67 0 0) 67 53 = hI h 67 53 := rfl
  unfold jdR
  rw [we214]
  by_cases q1 : hI h 67 51 = 0
  · rw [if_pos (Or.inl q1)]
    simp only [w214, ms, hs_sI, e51, q1, zz]
  · by_cases q2 : 0 ≤ v ∧ v ≤ 1
    · rw [if_neg (fun z => z.elim q1 (fun y => y q2))]
      by_cases q3 : v = 0
      · rw [if_pos q3]
        rw [q3] at q2
        simp only [w214, ms, hs_sI, e51, e52, q1, q3, s150, if_pos q2, mz, zz]
      · rw [if_neg q3]
        simp only [w214, ms, hs_sI, e51, e53, q1, q3, s150, if_pos q2, mz, zz]
    · rw [if_pos (Or.inr q2)]
      simp only [w214, ms, hs_sI, e51, q1, s150, if_neg q2, mz, zz]
theorem s212 {pl : List Nat} (ms : MS0 h) (mp : MPl h pl) (v : Int32) : WPM 212 [.ref 67, .int v] h Q ↔ Q (some (.int (atR pl v))) (sI h 67 0 0) := by
  obtain ⟨r1, r3, r4, -⟩ := mp
  have e49 : hI (sI h 67 0 0) 67 49 = nI pl.length := r1
  have e95 : hI (sI h 67 0 0) 95 = hI h 95 := rfl
  rw [we212]
  rcases atR_cases pl (by omega) v with ⟨i, x, rfl, hx, hil, ha⟩ | ⟨q, ha⟩
  · have c1 : (nI i).toNatClampNeg = i := nI_clamp (by omega)
    have i1 : inb (nI i) 60 = true := inb_nI (by omega) (by decide)
    have hq := ix_t hil (show pl.length < 2 ^ 30 by omega)
    rw [ha]
    simp only [w212, ms, hs_sI, e49, e95, s150, if_pos hq, c1, i1, r3 i x hx, mz, zz]
  · have hq := ix_f (show pl.length < 2 ^ 30 by omega) q
    rw [ha]
    simp only [w212, ms, hs_sI, e49, s150, if_neg hq, mz, zz]
def MSp (h : AH) (ks : List Nat) : Prop := hI h 67 56 = nI ks.length ∧ RowI (hI h 98) ks ∧ ks.length ≤ 60
theorem s216 {ks : List Nat} (ms : MS0 h) (mp : MSp h ks) (v : Int32) : WPM 216 [.ref 67, .int v] h Q ↔ Q (some (.int (atR ks v))) (sI h 67 0 0) := by
  obtain ⟨r1, r3, r4⟩ := mp
  have e56 : hI (sI h 67 0 0) 67 56 = nI ks.length := r1
  have e98 : hI (sI h 67 0 0) 98 = hI h 98 := rfl
  rw [we216]
  rcases atR_cases ks (by omega) v with ⟨i, x, rfl, hx, hil, ha⟩ | ⟨q, ha⟩
  · have c1 : (nI i).toNatClampNeg = i := nI_clamp (by omega)
    have i1 : inb (nI i) 60 = true := inb_nI (by omega) (by decide)
    have hq := ix_t hil (show ks.length < 2 ^ 30 by omega)
    rw [ha]
    simp only [w216, ms, hs_sI, e56, e98, s150, if_pos hq, c1, i1, r3 i x hx, mz, zz]
  · have hq := ix_f (show ks.length < 2 ^ 30 by omega) q
    rw [ha]
    simp only [w216, ms, hs_sI, e56, s150, if_neg hq, mz, zz]
def cnR (a b c v : Int32) : Int32 := if v = 0 then a else if v = 1 then b else if v = 2 then c else -1
theorem s217 (ms : MS0 h) (v : Int32) : WPM 217 [.ref 67, .int v] h Q ↔ Q (some (.int (cnR (hI h 72 0) (hI h 67 49) (hI h 67 2) v))) (sI h 67 0 0) := by
  have e72 : hI (sI h 67 0 0) 72 = hI h 72 := rfl
  have e49 : hI (sI h 67 0 0) 67 49 = hI h 67 49 := rfl
  have e2 : hI (sI h 67 0 0) 67 2 = hI h 67 2 := rfl
  have z1 : ¬ (2 : Int32) = 0 ∧ ¬ (2 : Int32) = 1 := by decide +kernel
  unfold cnR
  rw [we217]
  by_cases q0 : v = 0
  · rw [if_pos q0]
    simp only [w217, ms, hs_sI, e72, q0, mz, zz]
  · rw [if_neg q0]
    by_cases q1 : v = 1
    · rw [if_pos q1]
      simp only [w217, ms, hs_sI, e49, q1, mz, zz]
    · rw [if_neg q1]
      by_cases q2 : v = 2
      · rw [if_pos q2]
        simp only [w217, ms, hs_sI, e2, q2, z1, mz, zz]
      · rw [if_neg q2]
        simp only [w217, ms, hs_sI, q0, q1, q2, mz, zz]
theorem s168 (ms : MS0 h) : WPM 168 [.ref 67] h Q ↔ Q (some (.int (hI h 67 15))) (sI h 67 0 0) := by
  have e15 : hI (sI h 67 0 0) 67 15 = hI h 67 15 := rfl
  simp only [we168, w168, ms, hs_sI, e15]
theorem s144 (ms : MS0 h) : WPM 144 [.ref 67] h Q ↔ Q (some (.int (hI h 67 0))) h := by
  simp only [we144, w144, ms]
end Jd

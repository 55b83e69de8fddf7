/-! ===== THE SCRIPT stays as it is, whatever is run ===== -/
def K1 (h h' : AH) : Prop := hN h ≤ hN h' ∧ (∀ a, a < hN h → hT h' a = hT h a) ∧ (1 < hN h → hT h 1 = 110 → hL h' 1 = hL h 1 ∧ hI h' 1 = hI h 1)
theorem K1.rf {h : AH} : K1 h h := ⟨Nat.le_refl _, fun _ _ => rfl, fun _ _ => ⟨rfl, rfl⟩⟩
theorem K1.tr {h h1 h2 : AH} (p : K1 h h1) (q : K1 h1 h2) : K1 h h2 := by
  obtain ⟨p1, p2, p3⟩ := p
  obtain ⟨q1, q2, q3⟩ := q
  refine ⟨Nat.le_trans p1 q1, fun a ha => (q2 a (by omega)).trans (p2 a ha), fun a b => ?_⟩
  have u := p3 a b
  have v := q3 (by omega) ((p2 1 a).trans b)
  exact ⟨v.1.trans u.1, v.2.trans u.2⟩
theorem K1.nw {h : AH} (t n sl : Nat) : K1 h (nw h t n sl) := ⟨Nat.le_succ _, fun a ha => by rw [hT_nw, if_neg (by omega)], fun p _ => ⟨by rw [hL_nw, if_neg (by omega)], by rw [hI_nw, if_neg (by omega)]⟩⟩
theorem K1.sI {h : AH} {a k : Nat} {x : Int32} (q : hT h a ≠ 110) : K1 h (sI h a k x) := ⟨Nat.le_refl _, fun _ _ => rfl, fun _ b => ⟨rfl, hI_sI_o (fun z => q (by rw [← z]; exact b))⟩⟩
theorem K1.sJ {h : AH} {a k : Nat} {x : Int64} : K1 h (sJ h a k x) := ⟨Nat.le_refl _, fun _ _ => rfl, fun _ _ => ⟨rfl, rfl⟩⟩
theorem K1.sR {h : AH} {a k : Nat} {x : Nat} : K1 h (sR h a k x) := ⟨Nat.le_refl _, fun _ _ => rfl, fun _ _ => ⟨rfl, rfl⟩⟩
def okP (e : Nat × Instr × Nat × List Nat) : Bool := match e.2.1 with
  | .putfield _ => decide (e.2.2.2.headD 0 ≠ 109)
  | _ => true
theorem okP_all : (LT.all fun t => t.2.all okP) = true := by decide +kernel
theorem ct_okP {c pc : Nat} {e : Instr × Nat × List Nat} (h : ct c pc = some e) : okP (pc, e) = true := by
  obtain ⟨t, h1, h2⟩ := ct_mem h
  exact List.all_eq_true.mp (List.all_eq_true.mp okP_all _ h1) _ h2
theorem hstep_k1 {i : Instr} {info : List Nat} {st : List Value} {h : AH} {q : HSt} (hok : okP (0, i, 1, info) = true) (hst : hstep i info st h = some q) : K1 h q.2 := by
  have gf : ∀ ci k kd, getf ci k kd h st = some q → K1 h q.2 := fun ci k kd e => by
    unfold getf at e
    split at e
    · split at e
      · cases e; exact K1.rf
      · cases e
    · cases e
  have pf : ∀ ci k kd, ci ≠ 109 → putf ci k kd h st = some q → K1 h q.2 := fun ci k kd hc e => by
    unfold putf at e
    split at e
    · split at e
      · next z => cases e; exact K1.sI (by rw [z.1]; omega)
      · cases e
    · split at e
      · cases e; exact K1.sJ
      · cases e
    · split at e
      · cases e; exact K1.sR
      · cases e
    · cases e
  have mf : ∀ op, math op h st = some q → K1 h q.2 := fun op e => by
    unfold math at e
    split at e
    · split at e
      · split at e
        · cases e; exact K1.rf
        · split at e
          · cases e; exact K1.rf
          · cases e
      · cases e
    · split at e
      · cases e; exact K1.rf
      · cases e
    · cases e
  cases i with
  | getfield ix =>
    match info, hst with
    | [ci, k, kd, pl], hst => exact gf _ _ _ hst
  | putfield ix =>
    match info, hok, hst with
    | [ci, k, kd, fin, pl], hok, hst =>
      have hc : ci ≠ 109 := of_decide_eq_true hok
      exact pf _ _ _ hc hst
  | iaload =>
    have hst : aldI h st = some q := hst
    unfold aldI at hst
    split at hst
    · split at hst
      · cases hst; exact K1.rf
      · cases hst
    · cases hst
  | baload =>
    have hst : aldB h st = some q := hst
    unfold aldB at hst
    split at hst
    · split at hst
      · cases hst; exact K1.rf
      · cases hst
    · cases hst
  | laload =>
    have hst : aldJ h st = some q := hst
    unfold aldJ at hst
    split at hst
    · split at hst
      · cases hst; exact K1.rf
      · cases hst
    · cases hst
  | iastore =>
    have hst : astI h st = some q := hst
    unfold astI at hst
    split at hst
    · split at hst
      · next z => cases hst; exact K1.sI (by rw [z.1]; decide)
      · cases hst
    · cases hst
  | bastore =>
    have hst : astB h st = some q := hst
    unfold astB at hst
    split at hst
    · split at hst
      · next z => cases hst; exact K1.sI (by rcases z.1 with z | z <;> rw [z] <;> decide)
      · cases hst
    · cases hst
  | lastore =>
    have hst : astJ h st = some q := hst
    unfold astJ at hst
    split at hst
    · split at hst
      · cases hst; exact K1.sJ
      · cases hst
    · cases hst
  | arraylength =>
    have hst : alen h st = some q := hst
    unfold alen at hst
    split at hst
    · split at hst
      · cases hst; exact K1.rf
      · cases hst
    · cases hst
  | newarray a =>
    match info, hst with
    | [t, pl], hst =>
      have hst : newa t h st = some q := hst
      unfold newa at hst
      split at hst
      · split at hst
        · cases hst; exact K1.nw _ _ _
        · cases hst
      · cases hst
  | new ix =>
    match info, hst with
    | [ci, n, p1, p2, p3], hst => cases Option.some.inj hst; exact K1.nw _ _ _
  | invokespecial ix =>
    have hst : obin h st = some q := hst
    unfold obin at hst
    split at hst
    · split at hst
      · cases hst; exact K1.rf
      · cases hst
    · cases hst
  | invokestatic ix =>
    match info, hst with
    | op :: _, hst => exact mf _ hst
  | _ => cases hst
theorem prim_k1 {c : Nat} {av : List Value} {h : AH} {q : Option Value × AH} (hst : prim c av h = some q) : K1 h q.2 := by
  unfold prim at hst
  split at hst
  · split at hst
    · split at hst
      · split at hst
        · cases hst; exact K1.sJ
        · cases hst; exact K1.nw _ _ _
      · split at hst
        · split at hst
          · cases hst; exact K1.sJ
          · cases hst; exact K1.nw _ _ _
        · cases hst
    · cases hst
  · cases hst
theorem run_k1 : ∀ (n m pc : Nat) (ls st : List Value) (h : AH) (r : Option Value × AH), run n m pc ls st h = some r → K1 h r.2
  | 0, _, _, _, _, _, _, e => by cases e
  | n + 1, m, pc, ls, st, h, r, e => by
    cases hc : ct m pc with
    | none => simp only [run, hc] at e; cases e
    | some x =>
      obtain ⟨i, cat, info⟩ := x
      have hok := ct_okP hc
      match cat, hc, hok with
      | 0, hc, hok =>
        rw [run_0 hc] at e
        cases hl : lstep i info pc ls st with
        | none => rw [hl] at e; cases e
        | some q => rw [hl] at e; exact run_k1 n _ _ _ _ _ _ e
      | 1, hc, hok =>
        rw [run_1 hc] at e
        cases hl : hstep i info st h with
        | none => rw [hl] at e; cases e
        | some q =>
          rw [hl] at e
          have h1 := hstep_k1 hok hl
          have h2 := run_k1 n _ _ _ _ _ _ e
          exact h1.tr h2
      | 2, hc, hok =>
        rw [run_2 hc] at e
        rw [retv_h e]
        exact K1.rf
      | 3, hc, hok =>
        rw [run_3 hc] at e
        cases hl : popc info st h with
        | none => rw [hl] at e; cases e
        | some q =>
          rw [hl] at e
          simp only [Option.bind_some] at e
          cases hz : runM n q.1 q.2.1 h with
          | none => rw [hz] at e; cases e
          | some z =>
            rw [hz] at e
            have h1 : K1 h z.2 := by
              unfold runM at hz
              split at hz
              · exact prim_k1 hz
              · split at hz
                · exact run_k1 n _ _ _ _ _ _ hz
                · cases hz
            have h2 := run_k1 n _ _ _ _ _ _ e
            exact h1.tr h2
      | k + 4, hc, hok =>
        match info, hc with
        | [v, pc'], hc =>
          rw [run_4 hc] at e
          split at e
          · exact run_k1 n _ _ _ _ _ _ e
          · cases e
        | [], hc => simp only [run, hc] at e; cases e
        | [_], hc => simp only [run, hc] at e; cases e
        | _ :: _ :: _ :: _, hc => simp only [run, hc] at e; cases e
theorem WPM_k1 {c : Nat} {av : List Value} {h : AH} {Q : Option Value → AH → Prop} (w : WPM c av h Q) : WPM c av h (fun r h' => Q r h' ∧ K1 h h') := by
  obtain ⟨n, r, h', e, q⟩ := w
  refine ⟨n, r, h', e, q, ?_⟩
  unfold runM at e
  split at e
  · exact prim_k1 e
  · split at e
    · exact run_k1 n _ _ _ _ _ _ e
    · cases e
theorem WPM_mn {c : Nat} {av : List Value} {h : AH} {Q Q' : Option Value → AH → Prop} (w : WPM c av h Q) (k : ∀ r h', Q r h' → Q' r h') : WPM c av h Q' := by
  obtain ⟨n, r, h', e, q⟩ := w
  exact ⟨n, r, h', e, k r h' q⟩

/-! ===== the reference's lightest, times, cost ===== -/
def LgH (h : AH) (fa rg wt : Nat → Int32) : AH := setI (setI (setI h 80 fa) 85 rg) 86 wt
theorem LgH_r (h : AH) : ∀ fa rg wt, hT (LgH h fa rg wt) = hT h ∧ hL (LgH h fa rg wt) = hL h ∧ hR (LgH h fa rg wt) = hR h ∧ hI (LgH h fa rg wt) 80 = fa ∧ hI (LgH h fa rg wt) 85 = rg ∧ hI (LgH h fa rg wt) 86 = wt ∧ hI (LgH h fa rg wt) 67 = hI h 67 ∧ hI (LgH h fa rg wt) 79 = hI h 79 ∧ hI (LgH h fa rg wt) 84 = hI h 84 ∧ (∀ k v, sI (LgH h fa rg wt) 80 k v = LgH h (va_up fa k v) rg wt) ∧ (∀ k v, sI (LgH h fa rg wt) 85 k v = LgH h fa (va_up rg k v) wt) ∧ ∀ k v, sI (LgH h fa rg wt) 86 k v = LgH h fa rg (va_up wt k v) := by
  intro fa rg wt
  refine ⟨rfl, rfl, rfl, rfl, rfl, rfl, rfl, rfl, rfl, fun k v => ?_, fun k v => ?_, fun k v => sI_setI _ _ _ _ _⟩
  · unfold LgH
    rw [sI_setI_o (by decide), sI_setI_o (by decide), sI_setI]
  · unfold LgH
    rw [sI_setI_o (by decide), sI_setI]
def mlA (a : Nat) : Prop := a = 79 ∨ a = 80 ∨ a = 84 ∨ a = 85 ∨ a = 86
abbrev ML (h h' : AH) : Prop := MO mlA mfS nP nP h h'
theorem LgH_mo (h : AH) (fa rg wt : Nat → Int32) : ML h (LgH h fa rg wt) := ((MO.rf.rI fa (Or.inr (Or.inl rfl))).rI rg (Or.inr (Or.inr (Or.inr (Or.inl rfl))))).rI wt (Or.inr (Or.inr (Or.inr (Or.inr rfl))))
/-- the ring from fi on holds q -/
def Rng (fi : Nat) (q : List Nat) (rg : Nat → Int32) : Prop := ∀ j x, q[j]? = some x → rg ((fi + j) % 16384) = nI x
theorem Rng.tail {fi s : Nat} {q : List Nat} {rg : Nat → Int32} (h : Rng fi (s :: q) rg) : Rng ((fi + 1) % 16384) q rg := by
  intro j x hj
  have := h (j + 1) x hj
  rw [show (fi + (j + 1)) % 16384 = ((fi + 1) % 16384 + j) % 16384 by omega] at this
  exact this
theorem Rng.add {fi t : Nat} {q : List Nat} {rg : Nat → Int32} (h : Rng fi q rg) (hl : q.length < 16384) : Rng fi (q ++ [t]) (va_up rg ((fi + q.length) % 16384) (nI t)) := by
  intro j x hj
  rw [up_at]
  by_cases z : j < q.length
  · rw [List.getElem?_append_left z] at hj
    rw [if_neg (by omega)]
    exact h j x hj
  · rw [List.getElem?_append_right (by omega)] at hj
    have hj0 : j - q.length = 0 := by
      rcases Nat.eq_zero_or_pos (j - q.length) with y | y
      · exact y
      · rw [List.getElem?_eq_none (by simp; omega)] at hj
        cases hj
    rw [hj0] at hj
    cases hj
    rw [if_pos (by congr 1; omega)]
/-- the rows hold the search -/
def LgR (V : Nat → Option Nat) (q : List Nat) (fi : Nat) (fa rg wt : Nat → Int32) : Prop := (∀ x, x < 16384 → fa x = nI (fv V x)) ∧ Rng fi q rg ∧ (∀ x, x < 16384 → wt x = if x ∈ q then 1 else 0) ∧ fi < 16384
def prW (W : Nat → Nat) (a : Act) : Nat := if a.2.1 = 0 then 0 else W (a.2.1 - 1)
theorem and11 : (1 : Int32) &&& 1 = 1 ∧ (0 : Int32) &&& 1 = 0 := by decide +kernel
section Lg
variable {h : AH} {n w wi b : Nat} {P W : Nat → Nat} {Q : Option Value → AH → Prop}
/-- what an act costs, behind its look -/
theorem lg_mid {s j cs : Nat} {a : Act} {f1 f2 t5 : Int32} {x6 x7 : Value} {fa rg wt : Nat → Int32} (ms : MS0 h) (hn : n ≤ 14) (ac : MAc h (actsOf n P w)) (hW : ∀ x, x < n → hI h 84 x = nI (W x) ∧ W x ≤ 99) (ha : (actsOf n P w)[j]? = some a) (hs : s < 16384) (hfs : fa s = nI cs)
    (k : ∀ y6, WP 187 191 [.ref 67, .int f1, .int f2, .int (nI s), .int (nI j), .int t5, .int y6, .int (nI (cs + prW W a))] [] (LgH h fa rg wt) Q) :
    WP 187 110 [.ref 67, .int f1, .int f2, .int (nI s), .int (nI j), .int t5, x6, x7] [] (LgH h fa rg wt) Q := by
  obtain ⟨a1, a2, a3⟩ := ac
  have hr := LgH_r h
  have hjl : j < (actsOf n P w).length := by
    obtain ⟨hl, -⟩ := List.getElem?_eq_some_iff.mp ha
    exact hl
  have c1 : (nI j).toNatClampNeg = j := nI_clamp (by omega)
  have i1 : inb (nI j) 112 = true := inb_nI (by omega) (by decide)
  have c4 : (nI s).toNatClampNeg = s := nI_clamp (by omega)
  have i4 : inb (nI s) 16384 = true := inb_nI (by omega) (by decide)
  have har : hI h 79 j = nI a.1 := a2 j a.1 (by rw [List.getElem?_map, ha]; rfl)
  rcases mem_actsOf.mp (List.mem_of_getElem? ha) with ⟨x, hx, rfl⟩ | ⟨x, hx, rfl⟩ | ⟨hw1, x, y, hx, hy, hb', rfl⟩
  · change hI h 79 j = nI x at har
    have g20 : ¬ (20 : Int32) ≤ nI x := nI_ge (b := 20) (a := x) (by omega) (by decide)
    have g20' : nI x < (20 : Int32) := nI_lt (b := 20) (by omega) (by decide)
    have c2 : (nI x).toNatClampNeg = x := nI_clamp (by omega)
    have i2 : inb (nI x) 14 = true := inb_nI (by omega) (by decide)
    have hp : prW W (mkA P x) = W x := rfl
    simp only [w187_b, w187_c, w187_d, hr, ms, c1, i1, c4, i4, har, g20, g20', c2, i2, hfs, (hW x hx).1, nI_add, zz]
    rw [hp] at k
    have k' := k (nI x)
    simp only [w187_b, w187_c, w187_d, hr, ms, zz] at k'
    exact k'
  · change hI h 79 j = nI (20 + x) at har
    have g20 : (20 : Int32) ≤ nI (20 + x) := nI_le (a := 20) (b := 20 + x) (by omega) (by omega)
    have g20' : ¬ nI (20 + x) < (20 : Int32) := nI_nlt (b := 20) (a := 20 + x) (by omega) (by omega)
    have g100 : ¬ (100 : Int32) ≤ nI (20 + x) := nI_ge (b := 100) (a := 20 + x) (by omega) (by decide)
    have hp : prW W (waA w P x) = 0 := rfl
    have e0 : nI cs + 0 = nI (cs + 0) := by rw [← nI_add]; rfl
    simp only [w187_b, w187_c, w187_d, hr, ms, mz, c1, i1, c4, i4, har, g20, g20', g100, hfs, e0, zz]
    rw [hp] at k
    have k' := k ((nI (20 + x) - 100) / 20)
    simp only [w187_b, w187_c, w187_d, hr, ms, zz] at k'
    exact k'
  · change hI h 79 j = nI (100 + 20 * x + y) at har
    obtain ⟨g20, g100, g1, g2, g3⟩ := num_in (x := x) (y := y) (by omega) (by omega)
    have g20' : ¬ nI (100 + 20 * x + y) < (20 : Int32) := nI_nlt (b := 20) (by omega) (by omega)
    have c2 : (nI x).toNatClampNeg = x := nI_clamp (by omega)
    have i2 : inb (nI x) 14 = true := inb_nI (by omega) (by decide)
    have hp : prW W (inA w P x y) = W x := rfl
    simp only [w187_b, w187_c, w187_d, hr, ms, mz, c1, i1, c4, i4, har, g20, g20', g100, g1, g2, c2, i2, hfs, (hW x hx).1, nI_add, zz]
    rw [hp] at k
    have k' := k (nI x)
    simp only [w187_b, w187_c, w187_d, hr, ms, zz] at k'
    exact k'
theorem lg_in (ms : MS0 h) (nt : MNt h n P wi) (po : PartsOK n P) (wb : MWB h w b) (ac : MAc h (actsOf n P w)) (hW : ∀ x, x < n → hI h 84 x = nI (W x) ∧ W x ≤ 99) {s cs fi M : Nat}
    (k : ∀ V q fa rg wt x4 x5 x6 x7, LcM (actsOf n P w) (2 ^ n) b (prW W) V q s cs (actsOf n P w).length → LgR V q fi fa rg wt → phi V q ≤ M → WP 187 55 [.ref 67, .int (nI fi), .int (nI q.length), .int (nI s), x4, x5, x6, x7] [] (LgH h fa rg wt) Q) :
    ∀ d j V q fa rg wt x5 x6 x7, (actsOf n P w).length - j = d → j ≤ (actsOf n P w).length → LcM (actsOf n P w) (2 ^ n) b (prW W) V q s cs j → LgR V q fi fa rg wt → phi V q ≤ M → WP 187 87 [.ref 67, .int (nI fi), .int (nI q.length), .int (nI s), .int (nI j), x5, x6, x7] [] (LgH h fa rg wt) Q := by
  have hr := LgH_r h
  have hn := po.1
  have hN9 : 2 ^ n ≤ 16384 := p2_le (n := 14) hn
  obtain ⟨a1, a2, a3⟩ := id ac
  intro d
  induction d with
  | zero =>
    intro j V q fa rg wt x5 x6 x7 hd hj lm lr hM
    have hjl : j = (actsOf n P w).length := by omega
    subst hjl
    have hle : nI (actsOf n P w).length ≤ nI (actsOf n P w).length := nI_le (Nat.le_refl _) (by omega)
    rw [w187_87]
    simp only [w187_b, w187_e, w187_d, hr, ms, a1, hle, zz]
    exact k V q fa rg wt _ _ _ _ lm lr hM
  | succ d ih =>
    intro j V q fa rg wt x5 x6 x7 hd hj lm lr hM
    have hjl : j < (actsOf n P w).length := by omega
    have hle : ¬ nI (actsOf n P w).length ≤ nI j := nI_ge hjl (by omega)
    obtain ⟨a, ha⟩ : ∃ a, (actsOf n P w)[j]? = some a := ⟨_, List.getElem?_eq_getElem hjl⟩
    have ham : a ∈ actsOf n P w := List.mem_of_getElem? ha
    have c1 : (nI j).toNatClampNeg = j := nI_clamp (by omega)
    have i1 : inb (nI j) 112 = true := inb_nI (by omega) (by decide)
    have har : hI h 79 j = nI a.1 := a2 j a.1 (by rw [List.getElem?_map, ha]; rfl)
    have hVs := lm.2.2.2.1
    obtain ⟨hwc, hsN, hsp, -⟩ := lm.1.2.1 s cs hVs
    have hcs := lm.1.lt hVs
    have hfs : fa s = nI cs := by
      rw [lr.1 s (by omega)]
      unfold fv
      rw [hVs]
      rfl
    have haft := fun (fa rg wt : Nat → Int32) (Q : Option Value → AH → Prop) => s178a (h := LgH h fa rg wt) (Q := Q) ms nt po wb ham hsN hsp
    have hpr : prW W a ≤ 99 := by
      unfold prW
      split
      · omega
      · have := (parts_num (w := w) hn a ham).2
        exact (hW _ (by omega)).2
    rw [w187_87]
    simp only [w187_b, hr, ms, a1, hle, c1, i1, har, haft, zz]
    suffices hmid : ∀ y6, WP 187 191 [.ref 67, .int (nI fi), .int (nI q.length), .int (nI s), .int (nI j), .int (oI (aft (2 ^ n) b a s)), .int y6, .int (nI (cs + prW W a))] [] (LgH h fa rg wt) Q by
      have h110 := lg_mid (Q := Q) (f1 := nI fi) (f2 := nI q.length) (t5 := oI (aft (2 ^ n) b a s)) (x6 := x6) (x7 := x7) (fa := fa) (rg := rg) (wt := wt) ms hn ac hW ha (by omega) hfs hmid
      simp only [w187_b, hr, ms, c1, i1, har, zz] at h110
      exact h110
    intro y6
    cases haf : aft (2 ^ n) b a s with
    | none =>
      simp only [w187_c, w187_d, w187_e, oI_none, mz, zz, nI_1]
      exact ih (j + 1) V q fa rg wt _ _ _ (by omega) (by omega) (lm.skip ha (fun t ht => by rw [haf] at ht; cases ht) hpr) lr hM
    | some t =>
      have htN := aft_lt haf
      have c2 : (nI t).toNatClampNeg = t := nI_clamp (by omega)
      have i2 : inb (nI t) 16384 = true := inb_nI (by omega) (by decide)
      have hneg : ¬ nI t < 0 := nI_pos (by omega)
      have hft := lr.1 t (by omega)
      have hf9 : fv V t ≤ 1000000000 := by
        unfold fv
        cases hV : V t with
        | none => exact Nat.le_refl _
        | some c =>
          have := lm.1.lt hV
          show c ≤ 1000000000
          omega
      have hlt : (nI (cs + prW W a) < nI (fv V t)) ↔ cs + prW W a < fv V t := nI_ltI (by omega) (by omega)
      by_cases q1 : cs + prW W a < fv V t
      · have hts : t ≠ s := fun z => by
          have := aft_again (parts_actW po a ham) (parts_ne a ham) haf
          rw [z] at this
          rw [haf] at this
          cases this
        have lm' := lm.relax hN9 ha haf hts q1 hpr
        have hfa' : ∀ x, x < 16384 → va_up fa t (nI (cs + prW W a)) x = nI (fv (va_up V t (some (cs + prW W a))) x) := fun x hx => by
          unfold fv
          rw [up_at, up_at]
          by_cases z : x = t
          · rw [if_pos z, if_pos z]
            rfl
          · rw [if_neg z, if_neg z]
            exact lr.1 x hx
        have hwt := lr.2.2.1 t (by omega)
        by_cases q2 : t ∈ q
        · rw [if_pos q2] at lm' hwt
          simp only [w187_c, w187_d, w187_e, hr, ms, oI_some, mz, hneg, c2, i2, hft, hlt, q1, hwt, zz, nI_1]
          exact ih (j + 1) _ q _ rg wt _ _ _ (by omega) (by omega) lm' ⟨hfa', lr.2⟩ (Nat.le_trans (phi_down (q := q) (by omega) q1 (by omega)) hM)
        · rw [if_neg q2] at lm' hwt
          have hql : q.length < 16384 := by
            have h1 := nodup_len (2 ^ n) (t :: q) (List.nodup_cons.mpr ⟨q2, lm.1.2.2.1⟩) (fun y hy => by
              rcases List.mem_cons.mp hy with rfl | z
              · exact htN.1
              · cases hV : V y with
                | none => exact absurd hV (lm.1.2.2.2 y z)
                | some c => exact (lm.1.2.1 y c hV).2.1)
            rw [List.length_cons] at h1
            omega
          have hfi := lr.2.2.2
          have er : nI (fi + q.length) - nI (fi + q.length) / 16384 * 16384 = nI ((fi + q.length) % 16384) := pk_rem (d := 16384) (by omega) (by decide) (by decide)
          have c5 : (nI ((fi + q.length) % 16384)).toNatClampNeg = (fi + q.length) % 16384 := nI_clamp (by omega)
          have i5 : inb (nI ((fi + q.length) % 16384)) 16384 = true := inb_nI (by omega) (by decide)
          simp only [w187_c, w187_d, w187_e, hr, ms, oI_some, mz, hneg, c2, i2, hft, hlt, q1, hwt, and11, nI_add, er, c5, i5, zz, nI_1]
          have := ih (j + 1) _ (q ++ [t]) _ (va_up rg ((fi + q.length) % 16384) (nI t)) (va_up wt t 1) (.int (nI t)) (.int y6) (.int (nI (cs + prW W a))) (by omega) (by omega) lm' ⟨hfa', lr.2.1.add hql, fun x hx => ?_, hfi⟩ (Nat.le_trans (phi_down (q := q) (by omega) q1 (by simp)) hM)
          · rw [show (q ++ [t]).length = q.length + 1 by simp] at this
            exact this
          · rw [up_at]
            by_cases z : x = t
            · rw [if_pos z, if_pos (by simp [z])]
            · rw [if_neg z, lr.2.2.1 x hx]
              simp [z]
      · simp only [w187_c, w187_d, w187_e, hr, ms, oI_some, mz, hneg, c2, i2, hft, hlt, q1, zz, nI_1]
        refine ih (j + 1) V q fa rg wt _ _ _ (by omega) (by omega) (lm.skip ha (fun t' ht' => ?_) hpr) lr hM
        rw [haf] at ht'
        cases ht'
        omega
/-- the ENDs -/
theorem lg_end (ms : MS0 h) (nt : MNt h n P wi) (po : PartsOK n P) (wb : MWB h w b) (hwi : wi < 2 ^ n) {V : Nat → Option Nat} {fa rg wt : Nat → Int32} {f1 f2 : Int32} (hfa : ∀ x, x < 16384 → fa x = nI (fv V x)) (li : LcI (actsOf n P w) (2 ^ n) b (prW W) V []) (lr : ∀ s, LcR (actsOf n P w) (2 ^ n) b (prW W) V s)
    (k : ∀ r, LC (actsOf n P w) (2 ^ n) b (prW W) (isEndB w wi) r → Q (some (.int r)) (LgH h fa rg wt)) :
    ∀ d x o x5 x6 x7, 16384 - x = d → x ≤ 16384 → LcB (isEndB w wi) V x o → (∀ c, o = some c → c < 1000000000) → WP 187 273 [.ref 67, .int f1, .int f2, .int (frI o), .int (nI x), x5, x6, x7] [] (LgH h fa rg wt) Q := by
  have hr := LgH_r h
  have hN9 : 2 ^ n ≤ 16384 := p2_le (n := 14) po.1
  intro d
  induction d with
  | zero =>
    intro x o x5 x6 x7 hd hx lb ho
    have hx6 : x = 16384 := by omega
    subst hx6
    have hle : (16384 : Int32) ≤ nI 16384 := by decide +kernel
    rw [w187_273]
    cases o with
    | none =>
      simp only [w187_d, w187_e, hle, fr_none, zz]
      exact k _ (lb.lc hN9 li lr rfl)
    | some c =>
      have hne : ¬ nI c = nI 1000000000 := fun z => by
        have := nI_inj (by have := ho c rfl; omega) (by decide) z
        have := ho c rfl
        omega
      simp only [w187_d, w187_e, hle, fr_some, hne, zz]
      exact k _ (lb.lc hN9 li lr rfl)
  | succ d ih =>
    intro x o x5 x6 x7 hd hx lb ho
    have hx6 : x < 16384 := by omega
    have hle : ¬ (16384 : Int32) ≤ nI x := nI_ge (b := 16384) hx6 (by decide)
    have c1 : (nI x).toNatClampNeg = x := nI_clamp (by omega)
    have i1 : inb (nI x) 16384 = true := inb_nI (by omega) (by decide)
    have hend := fun (Q : Option Value → AH → Prop) => s179 (h := LgH h fa rg wt) (Q := Q) (s := x) ms wb.1 wb.2.2.1 nt.2.1 (by omega) (show wi < 65536 by omega)
    have h8 : ∀ c, V x = some c → c < 1000000000 := fun c hc => by have := li.lt hc; omega
    have lb' := lb.step ho h8
    have hf9 : fv V x ≤ 1000000000 := by
      unfold fv
      cases hV : V x with
      | none => exact Nat.le_refl _
      | some c => exact Nat.le_of_lt (h8 c hV)
    have ho9 : o.getD 1000000000 ≤ 1000000000 := by
      cases o with
      | none => exact Nat.le_refl _
      | some c => exact Nat.le_of_lt (ho c rfl)
    have hfo : frI o = nI (o.getD 1000000000) := by cases o <;> rfl
    have hlt : (nI (o.getD 1000000000) ≤ nI (fv V x)) ↔ o.getD 1000000000 ≤ fv V x := nI_leI (by omega) (by omega)
    have hfx := hfa x hx6
    rw [w187_273]
    by_cases q1 : isEndP w wi x
    · by_cases q2 : o.getD 1000000000 ≤ fv V x
      · rw [if_neg (fun z => by have := z.2; omega)] at lb'
        simp only [w187_d, w187_e, hle, hr, ms, mz, hend, if_pos q1, c1, i1, hfx, hfo, hlt, q2, zz, nI_1]
        have := ih (x + 1) o x5 x6 x7 (by omega) (by omega) lb' ho
        rw [hfo] at this
        exact this
      · rw [if_pos ⟨q1, by omega⟩] at lb'
        simp only [w187_d, w187_e, hle, hr, ms, mz, hend, if_pos q1, c1, i1, hfx, hfo, hlt, q2, zz, nI_1]
        have := ih (x + 1) (V x) x5 x6 x7 (by omega) (by omega) lb' h8
        rw [frI_fv] at this
        exact this
    · rw [if_neg (fun z => q1 z.1)] at lb'
      simp only [w187_d, w187_e, hle, hr, ms, mz, hend, if_neg q1, zz, nI_1]
      exact ih (x + 1) o x5 x6 x7 (by omega) (by omega) lb' ho
theorem lg_out (ms : MS0 h) (nt : MNt h n P wi) (po : PartsOK n P) (wb : MWB h w b) (ac : MAc h (actsOf n P w)) (hwi : wi < 2 ^ n) (hW : ∀ x, x < n → hI h 84 x = nI (W x) ∧ W x ≤ 99)
    (k : ∀ r fa rg wt, LC (actsOf n P w) (2 ^ n) b (prW W) (isEndB w wi) r → Q (some (.int r)) (LgH h fa rg wt)) :
    ∀ M V q fi fa rg wt x3 x4 x5 x6 x7, phi V q ≤ M → LcI (actsOf n P w) (2 ^ n) b (prW W) V q → (∀ s, s ∉ q → LcR (actsOf n P w) (2 ^ n) b (prW W) V s) → LgR V q fi fa rg wt → WP 187 55 [.ref 67, .int (nI fi), .int (nI q.length), x3, x4, x5, x6, x7] [] (LgH h fa rg wt) Q := by
  have hr := LgH_r h
  have hn := po.1
  have hN9 : 2 ^ n ≤ 16384 := p2_le (n := 14) hn
  intro M
  induction M with
  | zero =>
    intro V q fi fa rg wt x3 x4 x5 x6 x7 hM li lr lg
    cases q with
    | nil =>
      have hle : nI ([] : List Nat).length ≤ 0 := by decide +kernel
      rw [w187_55]
      simp only [w187_a, w187_b, w187_d, w187_e, hle, zz]
      have := lg_end (Q := Q) (f1 := nI fi) (f2 := nI ([] : List Nat).length) (rg := rg) (wt := wt) ms nt po wb hwi lg.1 li (fun s => lr s List.not_mem_nil) (fun r hr' => k r _ _ _ hr') 16384 0 none x5 x6 x7 rfl (Nat.zero_le _) ⟨fun _ y hy => absurd hy (Nat.not_lt_zero _), fun c hc => by cases hc⟩ (fun c hc => by cases hc)
      rw [nI_0] at this
      exact this
    | cons s q =>
      unfold phi at hM
      rw [List.length_cons] at hM
      omega
  | succ M ih =>
    intro V q fi fa rg wt x3 x4 x5 x6 x7 hM li lr lg
    cases q with
    | nil =>
      have hle : nI ([] : List Nat).length ≤ 0 := by decide +kernel
      rw [w187_55]
      simp only [w187_a, w187_b, w187_d, w187_e, hle, zz]
      have := lg_end (Q := Q) (f1 := nI fi) (f2 := nI ([] : List Nat).length) (rg := rg) (wt := wt) ms nt po wb hwi lg.1 li (fun s => lr s List.not_mem_nil) (fun r hr' => k r _ _ _ hr') 16384 0 none x5 x6 x7 rfl (Nat.zero_le _) ⟨fun _ y hy => absurd hy (Nat.not_lt_zero _), fun c hc => by cases hc⟩ (fun c hc => by cases hc)
      rw [nI_0] at this
      exact this
    | cons s q =>
      have hql : q.length < 16384 := by
        have h1 := nodup_len (2 ^ n) (s :: q) li.2.2.1 (fun y hy => by
          cases hV : V y with
          | none => exact absurd hV (li.2.2.2 y hy)
          | some c => exact (li.2.1 y c hV).2.1)
        rw [List.length_cons] at h1
        omega
      have hle : ¬ nI (s :: q).length ≤ 0 := nI_ge (a := 0) (b := (s :: q).length) (by simp) (by simp; omega)
      have hfi := lg.2.2.2
      obtain ⟨cs, hcs⟩ : ∃ cs, V s = some cs := by
        cases hV : V s with
        | none => exact absurd hV (li.2.2.2 s List.mem_cons_self)
        | some c => exact ⟨c, rfl⟩
      have hsN := (li.2.1 s cs hcs).2.1
      have c1 : (nI fi).toNatClampNeg = fi := nI_clamp (by omega)
      have i1 : inb (nI fi) 16384 = true := inb_nI hfi (by decide)
      have hrs : rg fi = nI s := by
        have := lg.2.1 0 s rfl
        rw [Nat.add_zero, Nat.mod_eq_of_lt hfi] at this
        exact this
      have er : nI (fi + 1) - nI (fi + 1) / 16384 * 16384 = nI ((fi + 1) % 16384) := pk_rem (d := 16384) (by omega) (by decide) (by decide)
      have em : nI (s :: q).length + (-1) = nI q.length := pk_m1 q.length
      have c4 : (nI s).toNatClampNeg = s := nI_clamp (by omega)
      have i4 : inb (nI s) 16384 = true := inb_nI (by omega) (by decide)
      have lm := LcM.take li lr hcs
      rw [w187_55]
      simp only [w187_a, w187_b, w187_e, hle, hr, ms, mz, c1, i1, hrs, nI_1, er, em, c4, i4, and11, zz]
      have := lg_in (Q := Q) (M := M) (s := s) (cs := cs) (fi := (fi + 1) % 16384) ms nt po wb ac hW (fun V' q' fa' rg' wt' y4 y5 y6 y7 lm' lr' hM' => ?_) _ 0 V q fa rg (va_up wt s 0) x5 x6 x7 rfl (Nat.zero_le _) lm ⟨lg.1, lg.2.1.tail, fun x hx => ?_, Nat.mod_lt _ (by decide)⟩ (by unfold phi at hM ⊢; rw [List.length_cons] at hM; omega)
      · rw [nI_0] at this
        exact this
      · exact ih V' q' _ fa' rg' wt' _ _ _ _ _ hM' lm'.out.1 lm'.out.2 lr'
      · rw [up_at]
        have hn' := (List.nodup_cons.mp li.2.2.1).1
        by_cases z : x = s
        · rw [if_pos z, if_neg (by rw [z]; exact hn')]
        · rw [if_neg z, lg.2.2.1 x hx]
          simp [z]
theorem s187 (ms : MS0 h) (nt : MNt h n P wi) (po : PartsOK n P) (wb : MWB h w b) (ac : MAc h (actsOf n P w)) (hwi : wi < 2 ^ n) (hW : ∀ x, x < n → hI h 84 x = nI (W x) ∧ W x ≤ 99)
    (k : ∀ r fa rg wt, LC (actsOf n P w) (2 ^ n) b (prW W) (isEndB w wi) r → Q (some (.int r)) (LgH h fa rg wt)) : WPM 187 [.ref 67] h Q := by
  have hr := LgH_r h
  have hN0 : 0 < 2 ^ n := Nat.pow_pos (by decide)
  have fill : ∀ d x fa wt, 16384 - x = d → x ≤ 16384 → (∀ y, y < x → fa y = nI 1000000000 ∧ wt y = 0) → WP 187 2 [.ref 67, .int (nI x), .retAddr 0, .retAddr 0, .retAddr 0, .retAddr 0, .retAddr 0, .retAddr 0] [] (LgH h fa (hI h 85) wt) Q := by
    intro d
    induction d with
    | zero =>
      intro x fa wt hd hx hf
      have hx6 : x = 16384 := by omega
      subst hx6
      have hle : (16384 : Int32) ≤ nI 16384 := by decide +kernel
      have i0 : inb 0 16384 = true := by decide +kernel
      rw [w187_2]
      simp only [w187_a, w187_b, hle, hr, ms, mz, i0, and11, zz]
      have hv0 : ∀ y, fv (fun x => if x = 0 then some 0 else none) y = if y = 0 then 0 else 1000000000 := fun y => by
        unfold fv
        dsimp only
        split <;> rfl
      have := lg_out (Q := Q) ms nt po wb ac hwi hW k _ (fun x => if x = 0 then some 0 else none) [0] 0 (va_up fa 0 0) (va_up (hI h 85) 0 0) (va_up wt 0 1) (.retAddr 0) (.retAddr 0) (.retAddr 0) (.retAddr 0) (.retAddr 0) (Nat.le_refl _) ⟨rfl, fun s c hc => ?_, by simp, fun s hs => ?_⟩ (fun s hs c hc => ?_) ⟨fun x hx => ?_, fun j x hj => ?_, fun x hx => ?_, by decide⟩
      · rw [nI_0] at this
        exact this
      · dsimp only at hc
        by_cases z : s = 0
        · rw [if_pos z] at hc
          cases hc
          subst z
          exact ⟨⟨0, rfl, rfl⟩, hN0, by rw [pc_0]; exact Nat.zero_le _, Nat.zero_le _⟩
        · rw [if_neg z] at hc
          cases hc
      · have hs0 : s = 0 := by simpa using hs
        rw [hs0]
        exact Option.some_ne_none _
      · dsimp only at hc
        rw [if_neg (fun z => hs (by simp [z]))] at hc
        cases hc
      · rw [up_at, hv0]
        by_cases z : x = 0
        · rw [if_pos z, if_pos z]
          exact nI_0.symm
        · rw [if_neg z, if_neg z]
          exact (hf x hx).1
      · cases j with
        | zero =>
          have hx0 : x = 0 := by simpa using hj.symm
          subst hx0
          exact nI_0.symm
        | succ j => simp at hj
      · rw [up_at]
        by_cases z : x = 0
        · rw [if_pos z, if_pos (by simp [z])]
        · rw [if_neg z, if_neg (by simp [z])]
          exact (hf x hx).2
    | succ d ih =>
      intro x fa wt hd hx hf
      have hx6 : x < 16384 := by omega
      have hle : ¬ (16384 : Int32) ≤ nI x := nI_ge (b := 16384) hx6 (by decide)
      have c1 : (nI x).toNatClampNeg = x := nI_clamp (by omega)
      have i1 : inb (nI x) 16384 = true := inb_nI (by omega) (by decide)
      rw [w187_2]
      simp only [w187_a, hle, hr, ms, c1, i1, and11, zz, nI_1]
      refine ih (x + 1) _ _ (by omega) (by omega) (fun y hy => ?_)
      rw [up_at, up_at]
      by_cases q : y = x
      · rw [if_pos q, if_pos q]
        exact ⟨rfl, rfl⟩
      · rw [if_neg q, if_neg q]
        exact hf y (by omega)
  rw [we187]
  simp only [w187_a]
  have := fill 16384 0 (hI h 80) (hI h 86) rfl (by decide) (fun y hy => absurd hy (Nat.not_lt_zero _))
  have e0 : LgH h (hI h 80) (hI h 85) (hI h 86) = h := by
    unfold LgH
    rw [setI_id, setI_id, setI_id]
  rw [e0, nI_0] at this
  exact this
end Lg

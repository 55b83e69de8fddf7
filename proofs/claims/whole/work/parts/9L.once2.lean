/-! ===== the reference's once: ways, the first order; onceMany, onceAt ===== -/
section On2
variable {h : AH} {n nd wi w best : Nat} {P : Nat → Nat} {Q : Option Value → AH → Prop}
theorem ow_in {s : Nat} {v0 : Int64} {ow0 : Nat → Int64} (ms : MS0 h) (nt : MNt h n P wi) (po : PartsOK n P) (h39 : hI h 67 39 = nI nd) (hnd : nd < 2 ^ n) (hs : s < 2 ^ n) (hw : w < 2) (hb : best ≤ 15)
    (kk : ∀ ow y4 y5 y6, (∀ t, t ≠ s → ow t = ow0 t) → ow s = (List.range n).foldl (mwS n P nd wi w best s ow0) v0 → WP 196 189 [.ref 67, .int (nI w), .int (nI best), .int (mkI s), y4, y5, y6] [] (setJ h 89 ow) Q) :
    ∀ d x ow y5 y6, n - x = d → x ≤ n → (∀ t, t ≠ s → ow t = ow0 t) → ow s = (List.range x).foldl (mwS n P nd wi w best s ow0) v0 → WP 196 229 [.ref 67, .int (nI w), .int (nI best), .int (nI s), .int (nI x), y5, y6] [] (setJ h 89 ow) Q := by
  have hr := hs_setJ h 89
  have hn := po.1
  have hs9 := s_lt hn hs
  have n0 := nt.1
  have e89 : ∀ f, hJ (setJ h 89 f) 89 = f := fun f => by rw [hJ_setJ, if_pos rfl]
  have c4 : (nI s).toNatClampNeg = s := nI_clamp (by omega)
  have i4 : inb (nI s) 16384 = true := inb_nI (by omega) (by decide)
  intro d
  induction d with
  | zero =>
    intro x ow y5 y6 hd hx ho hv
    have hle : nI n ≤ nI x := nI_le (by omega) (by omega)
    have hxn : x = n := by omega
    rw [hxn] at hv
    rw [w196_229]
    simp only [w196_c, w196_d, w196_e, hr, ms, mz, n0, hle, nI_mk, zz]
    exact kk ow _ _ _ ho hv
  | succ d ih =>
    intro x ow y5 y6 hd hx ho hv
    have hxn : x < n := by omega
    have hle : ¬ nI n ≤ nI x := nI_ge hxn (by omega)
    have hcan := fun (f : Nat → Int64) (Q : Option Value → AH → Prop) => s195 (h := setJ h 89 f) (Q := Q) ms nt po h39 hnd hs hxn
    have hnee := fun (f : Nat → Int64) (Q : Option Value → AH → Prop) => s194 (h := setJ h 89 f) (Q := Q) ms nt po h39 hnd hs hxn hw
    have hN : ndB n P nd wi w s x ≤ n + 1 := ndB_le
    have hcmp : (nI best < nI (ndB n P nd wi w s x)) ↔ best < ndB n P nd wi w s x := nI_ltI (by omega) (by omega)
    have hst := range_fold (mwS n P nd wi w best s ow0) v0 x
    rw [← hv] at hst
    unfold mwS at hst
    rw [w196_229]
    by_cases q : mayC P nd s x = true
    · by_cases q2 : best < ndB n P nd wi w s x
      · rw [if_neg (fun z => by have := z.2; omega)] at hst
        simp only [w196_c, w196_d, w196_e, hr, ms, mz, n0, hle, hcan, if_pos q, hnee, hcmp, q2, zz, nI_1]
        exact ih (x + 1) ow _ _ (by omega) (by omega) ho (by rw [← hst]; rfl)
      · have hne := or_ne q
        have hs2 : s ||| 2 ^ x < 2 ^ n := or_lt2 hs (p2_lt hxn)
        have hs29 := s_lt hn hs2
        have pw : (1 : Int32) <<< (nI x &&& 31) = nI (2 ^ x) := nI_pow x (by omega)
        have c5 : (nI (s ||| 2 ^ x)).toNatClampNeg = s ||| 2 ^ x := nI_clamp (by omega)
        have i5 : inb (nI (s ||| 2 ^ x)) 16384 = true := inb_nI (by omega) (by decide)
        have hon := ho (s ||| 2 ^ x) hne
        rw [if_pos ⟨q, by omega⟩, ← hon] at hst
        simp only [w196_c, w196_d, w196_e, hr, ms, mz, n0, hle, hcan, if_pos q, hnee, hcmp, q2, e89, c4, i4, pw, nI_or, c5, i5, sJ_setJ, zz, nI_1]
        exact ih (x + 1) _ _ _ (by omega) (by omega) (fun t ht => by rw [up_at, if_neg ht]; exact ho t ht) (by rw [up_at, if_pos rfl, ← hst]; rfl)
    · rw [if_neg (fun z => q z.1)] at hst
      simp only [w196_c, w196_d, w196_e, hr, ms, mz, n0, hle, hcan, if_neg q, zz, nI_1]
      exact ih (x + 1) ow _ _ (by omega) (by omega) ho (by rw [← hst]; rfl)
theorem mw_po {s k : Nat} {ow : Nat → Int64} (hon : ∀ x, x < n → mayC P nd s x = true → ow (s ||| 2 ^ x) = lN (PO n P nd wi w best k (s ||| 2 ^ x))) : (List.range n).foldl (mwS n P nd wi w best s ow) 0 = lN (PO n P nd wi w best (k + 1) s) := by
  have h1 : ∀ m, m ≤ n → (List.range m).foldl (mwS n P nd wi w best s ow) 0 = lN (sm (fun x => if mayC P nd s x = true ∧ ndB n P nd wi w s x ≤ best then PO n P nd wi w best k (s ||| 2 ^ x) else 0) m) := by
    intro m
    induction m with
    | zero => exact fun _ => rfl
    | succ m ih =>
      intro hm
      rw [range_fold, ih (by omega)]
      show mwS n P nd wi w best s ow _ m = lN (sm _ m + _)
      unfold mwS
      by_cases q : mayC P nd s m = true ∧ ndB n P nd wi w s m ≤ best
      · rw [if_pos q, hon m (by omega) q.1, lN_add]
        dsimp only
        rw [if_pos q]
      · rw [if_neg q]
        dsimp only
        rw [if_neg q]
        rfl
  exact h1 n (Nat.le_refl _)
def OPk (n : Nat) (P : Nat → Nat) (nd wi w best : Nat) (ow : Nat → Int64) (c : Nat) : Prop := ∀ s, c ≤ s → s ≤ nd → Dwn n P nd s → ow s = lN (PO n P nd wi w best (rk nd s) s)
theorem ow_out (ms : MS0 h) (nt : MNt h n P wi) (po : PartsOK n P) (h39 : hI h 67 39 = nI nd) (hnd : nd < 2 ^ n) (hw : w < 2) (hb : best ≤ 15)
    (kk : ∀ ow y4 y5 y6, OPk n P nd wi w best ow 0 → WP 196 294 [.ref 67, .int (nI w), .int (nI best), .int (-1), y4, y5, y6] [] (setJ h 89 ow) Q) :
    ∀ c ow y4 y5 y6, c ≤ nd + 1 → OPk n P nd wi w best ow c → WP 196 189 [.ref 67, .int (nI w), .int (nI best), .int (mkI c), y4, y5, y6] [] (setJ h 89 ow) Q := by
  have hr := hs_setJ h 89
  have hn := po.1
  have hnd9 := s_lt hn hnd
  intro c
  induction c with
  | zero =>
    intro ow y4 y5 y6 hc ol
    have k' := kk ow y4 y5 y6 ol
    rw [w196_189]
    simp only [w196_c, w196_d, w196_e, mkI_0, mz, hr, ms, zz] at k' ⊢
    exact k'
  | succ s ih =>
    intro ow y4 y5 y6 hc ol
    have hs2 : s < 2 ^ n := by omega
    have hs9 := s_lt hn hs2
    have hneg : ¬ nI s < 0 := nI_pos (by omega)
    have e1 := sdf0 (a := s) (s := nd) (by omega)
    have c4 : (nI s).toNatClampNeg = s := nI_clamp (by omega)
    have i4 : inb (nI s) 16384 = true := inb_nI (by omega) (by decide)
    have heq : (nI s = nI nd) ↔ s = nd := nI_eq (by omega) (by omega)
    rw [w196_189]
    by_cases q : nd &&& s = s
    · have fin : ∀ (v0 : Int64) (ow' : Nat → Int64), (∀ t, t ≠ s → ow' t = va_up ow s v0 t) → ow' s = (List.range n).foldl (mwS n P nd wi w best s (va_up ow s v0)) v0 → (s = nd → v0 = 1) → (s ≠ nd → v0 = 0) → OPk n P nd wi w best ow' s := fun v0 ow' g1 g2 g3 g4 t ht1 ht2 hd => by
        by_cases z : t = s
        · rw [z] at hd ⊢
          rw [g2]
          cases hk : rk nd s with
          | zero =>
            have hsn := (rk_zero (by omega) hd).mp hk
            have hno : ∀ x, mayC P nd s x = true → False := fun x hx => by
              have h1 := mayC_iff.mp hx
              rw [← hsn] at h1
              rw [h1.1] at h1
              cases h1.2.1
            have hfold : ∀ m, (List.range m).foldl (mwS n P nd wi w best s (va_up ow s v0)) v0 = v0 := fun m => by
              induction m with
              | zero => rfl
              | succ m ihm =>
                rw [range_fold, ihm]
                unfold mwS
                rw [if_neg (fun z => hno m z.1)]
            rw [hfold, g3 hsn]
            rfl
          | succ k =>
            have hsn : s ≠ nd := fun z => by
              have := (rk_zero (by omega) hd).mpr z
              omega
            rw [g4 hsn]
            refine mw_po fun x hx hm => ?_
            have h1 := rk_add hm (by omega)
            rw [up_at, if_neg (or_ne hm)]
            have h2 := ol (s ||| 2 ^ x) (by have := or_gt hm; omega) (sub_le (hd.add hm).1) (hd.add hm)
            rw [h2]
            congr 2
            omega
        · rw [g1 t z, up_at, if_neg z]
          exact ol t (by omega) ht2 hd
      by_cases q2 : s = nd
      · simp only [w196_c, w196_d, w196_e, mkI_s, hneg, hr, ms, h39, nI_sdf, e1, q, heq, eq_true q2, c4, i4, sJ_setJ, zz]
        have go := ow_in (Q := Q) (s := s) (v0 := 1) (ow0 := va_up ow s 1) ms nt po h39 hnd hs2 hw hb (fun ow' z4 z5 z6 g1 g2 => ?_) n 0 (va_up ow s 1) y5 y6 rfl (Nat.zero_le _) (fun _ _ => rfl) (by rw [up_at, if_pos rfl]; rfl)
        · rw [nI_0] at go
          exact go
        · exact ih ow' z4 z5 z6 (by omega) (fin 1 ow' g1 g2 (fun _ => rfl) (fun z => absurd q2 z))
      · simp only [w196_c, w196_d, w196_e, mkI_s, hneg, hr, ms, h39, nI_sdf, e1, q, heq, q2, c4, i4, sJ_setJ, zz]
        have go := ow_in (Q := Q) (s := s) (v0 := 0) (ow0 := va_up ow s 0) ms nt po h39 hnd hs2 hw hb (fun ow' z4 z5 z6 g1 g2 => ?_) n 0 (va_up ow s 0) y5 y6 rfl (Nat.zero_le _) (fun _ _ => rfl) (by rw [up_at, if_pos rfl]; rfl)
        · rw [nI_0] at go
          exact go
        · exact ih ow' z4 z5 z6 (by omega) (fin _ ow' g1 g2 (fun z => absurd z q2) (fun _ => rfl))
    · simp only [w196_c, w196_d, w196_e, mkI_s, hneg, hr, ms, h39, nI_sdf, e1, q, nI_mk, zz]
      refine ih ow _ _ _ (by omega) fun t ht1 ht2 hd => ?_
      by_cases z : t = s
      · rw [z] at hd
        exact absurd (sub_and.mp hd.1) q
      · exact ol t (by omega) ht2 hd
theorem find_range {p : Nat → Bool} : ∀ n, (∃ x, x < n ∧ p x = true) → ∃ x, x < n ∧ p x = true ∧ (∀ y, y < x → p y = false) ∧ (List.range n).find? p = some x := by
  intro n
  induction n with
  | zero => exact fun ⟨x, hx, _⟩ => absurd hx (Nat.not_lt_zero _)
  | succ n ih =>
    rintro ⟨x, hx, hp⟩
    by_cases q : ∃ x, x < n ∧ p x = true
    · obtain ⟨y, h1, h2, h3, h4⟩ := ih q
      exact ⟨y, by omega, h2, h3, by rw [List.range_succ, List.find?_append, h4]; rfl⟩
    · have hno : ∀ y, y < n → p y = false := fun y hy => by
        cases h : p y with
        | false => rfl
        | true => exact absurd ⟨y, hy, h⟩ q
      have hxn : x = n := by
        rcases Nat.lt_or_ge x n with z | z
        · rw [hno x z] at hp
          cases hp
        · omega
      refine ⟨n, by omega, by rw [← hxn]; exact hp, hno, ?_⟩
      have hn : (List.range n).find? p = none := List.find?_eq_none.mpr fun y hy => by
        rw [hno y (List.mem_range.mp hy)]
        decide
      rw [List.range_succ, List.find?_append, hn]
      rw [hxn] at hp
      simp [hp]
theorem foP_iff {k s x : Nat} : foP n P nd wi w best k s x = true ↔ mayC P nd s x = true ∧ ndB n P nd wi w s x ≤ best ∧ 0 < PO n P nd wi w best k (s ||| 2 ^ x) := by
  unfold foP
  rw [Bool.and_eq_true, Bool.and_eq_true, decide_eq_true_eq, decide_eq_true_eq, and_assoc]
theorem PO_sm {k s : Nat} (hn : n ≤ 14) (hk : k ≤ 14) : PO n P nd wi w best k s < 2 ^ 62 := by
  have h1 := PO_le (P := P) (nd := nd) (wi := wi) (w := w) (best := best) hn k s
  have h2 : 14 ^ k ≤ 14 ^ 14 := Nat.pow_le_pow_right (by decide) hk
  have h3 : 14 ^ 14 < 2 ^ 62 := by decide
  omega
theorem fo_l {K : Nat} (ms : MS0 h) (nt : MNt h n P wi) (po : PartsOK n P) (h39 : hI h 67 39 = nI nd) (h40 : hI h 67 40 = nI K) (hnd : nd < 2 ^ n) (hw : w < 2) (hb : best ≤ 15) (hK : K ≤ 14) (op : OPk n P nd wi w best (hJ h 89) 0)
    (kk : ∀ f, RowI f (FO n P nd wi w best K 0) → Q (some (.int (nI best))) (setI h 88 f)) :
    ∀ d i s pre f y5 y6, K - i = d → i ≤ K → Dwn n P nd s → rk nd s = K - i → 0 < PO n P nd wi w best (K - i) s → FO n P nd wi w best K 0 = pre ++ FO n P nd wi w best (K - i) s → pre.length = i → RowI f pre → WP 196 320 [.ref 67, .int (nI w), .int (nI best), .int (nI s), .int (nI i), y5, y6] [] (setI h 88 f) Q := by
  have hr := hs_setI h 88
  have hn := po.1
  have e40 : ∀ f, hI (setI h 88 f) 67 40 = nI K := fun f => h40
  intro d
  induction d with
  | zero =>
    intro i s pre f y5 y6 hd hi hD hrk hP he hl hf
    have hle : nI K ≤ nI i := nI_le (by omega) (by omega)
    have hKi : K - i = 0 := by omega
    rw [w196_320]
    simp only [w196_e, w196_f, hr, ms, e40, hle, zz]
    refine kk f ?_
    rw [he, hKi]
    show RowI f (pre ++ [])
    rw [List.append_nil]
    exact hf
  | succ d ih =>
    intro i s pre f y5 y6 hd hi hD hrk hP he hl hf
    have hle : ¬ nI K ≤ nI i := nI_ge (by omega) (by omega)
    have hsn : s < 2 ^ n := Nat.lt_of_le_of_lt (sub_le hD.1) hnd
    have hs9 := s_lt hn hsn
    have e1 : K - i = (K - (i + 1)) + 1 := by omega
    rw [e1] at hP
    change 0 < sm _ n at hP
    obtain ⟨x0, hx0, hp0⟩ := sm_pos.mp hP
    have hp0' : foP n P nd wi w best (K - (i + 1)) s x0 = true := by
      by_cases q : mayC P nd s x0 = true ∧ ndB n P nd wi w s x0 ≤ best
      · rw [if_pos q] at hp0
        exact foP_iff.mpr ⟨q.1, q.2, hp0⟩
      · rw [if_neg q] at hp0
        exact absurd hp0 (Nat.lt_irrefl 0)
    obtain ⟨x, hx, hpx, hbef, hfind⟩ := find_range (p := foP n P nd wi w best (K - (i + 1)) s) n ⟨x0, hx0, hp0'⟩
    obtain ⟨f1, f2, f3⟩ := foP_iff.mp hpx
    have hfr : FO n P nd wi w best (K - i) s = x :: FO n P nd wi w best (K - (i + 1)) (s ||| 2 ^ x) := by
      rw [e1]
      show (match (List.range n).find? (foP n P nd wi w best (K - (i + 1)) s) with
        | some x => x :: FO n P nd wi w best (K - (i + 1)) (s ||| 2 ^ x)
        | none => []) = _
      rw [hfind]
    have hJ : ∀ y, y < n → mayC P nd s y = true → hJ h 89 (s ||| 2 ^ y) = lN (PO n P nd wi w best (K - (i + 1)) (s ||| 2 ^ y)) := fun y hy hm => by
      have h1 := rk_add hm (by omega)
      have h2 := op (s ||| 2 ^ y) (Nat.zero_le _) (sub_le (hD.add hm).1) (hD.add hm)
      rw [h2]
      congr 2
      omega
    have lp : ∀ e y z6, x - y = e → y ≤ x → WP 196 332 [.ref 67, .int (nI w), .int (nI best), .int (nI s), .int (nI i), .int (nI y), z6] [] (setI h 88 f) Q := by
      intro e
      induction e with
      | zero =>
        intro y z6 he' hy
        have hyx : y = x := by omega
        have hN : ndB n P nd wi w s x ≤ n + 1 := ndB_le
        have hcmp : ¬ nI best < nI (ndB n P nd wi w s x) := nI_nlt f2 (by omega)
        have hcan := fun (f : Nat → Int32) (Q : Option Value → AH → Prop) => s195 (h := setI h 88 f) (Q := Q) ms nt po h39 hnd hsn hx
        have hnee := fun (f : Nat → Int32) (Q : Option Value → AH → Prop) => s194 (h := setI h 88 f) (Q := Q) ms nt po h39 hnd hsn hx hw
        have hs2 : s ||| 2 ^ x < 2 ^ n := or_lt2 hsn (p2_lt hx)
        have hs29 := s_lt hn hs2
        have pw : (1 : Int32) <<< (nI x &&& 31) = nI (2 ^ x) := nI_pow x (by omega)
        have c5 : (nI (s ||| 2 ^ x)).toNatClampNeg = s ||| 2 ^ x := nI_clamp (by omega)
        have i5 : inb (nI (s ||| 2 ^ x)) 16384 = true := inb_nI (by omega) (by decide)
        have hv := hJ x hx f1
        have hps := PO_sm (P := P) (nd := nd) (wi := wi) (w := w) (best := best) (k := K - (i + 1)) (s := s ||| 2 ^ x) hn (by omega)
        have hl0 : ¬ lg_cmp (lN (PO n P nd wi w best (K - (i + 1)) (s ||| 2 ^ x))) 0 = 0 := fun z => by
          rw [lg_cmp_eq, show (0 : Int64) = lN 0 from rfl, lN_eqI hps (by decide)] at z
          omega
        have c6 : (nI i).toNatClampNeg = i := nI_clamp (by omega)
        have i6 : inb (nI i) 14 = true := inb_nI (by omega) (by decide)
        have h1 := rk_add f1 (show x < 16 by omega)
        rw [hyx, w196_332]
        simp only [w196_e, w196_f, hr, ms, mz, hcan, if_pos f1, hnee, hcmp, pw, nI_or, c5, i5, hv, hl0, c6, i6, sI_setI, zz, nI_1]
        exact ih (i + 1) (s ||| 2 ^ x) (pre ++ [x]) _ _ _ (by omega) (by omega) (hD.add f1) (by omega) f3 (by rw [he, hfr, List.append_assoc]; rfl) (by rw [List.length_append, hl]; rfl) (by rw [← hl]; exact hf.add _)
      | succ e ihe =>
        intro y z6 he' hy
        have hyn : y < n := by omega
        have hfalse := hbef y (by omega)
        have hN : ndB n P nd wi w s y ≤ n + 1 := ndB_le
        have hcmp : (nI best < nI (ndB n P nd wi w s y)) ↔ best < ndB n P nd wi w s y := nI_ltI (by omega) (by omega)
        have hcan := fun (f : Nat → Int32) (Q : Option Value → AH → Prop) => s195 (h := setI h 88 f) (Q := Q) ms nt po h39 hnd hsn hyn
        have hnee := fun (f : Nat → Int32) (Q : Option Value → AH → Prop) => s194 (h := setI h 88 f) (Q := Q) ms nt po h39 hnd hsn hyn hw
        rw [w196_332]
        by_cases q1 : mayC P nd s y = true
        · by_cases q2 : best < ndB n P nd wi w s y
          · simp only [w196_e, w196_f, hr, ms, mz, hcan, if_pos q1, hnee, hcmp, q2, zz, nI_1]
            exact ihe (y + 1) _ (by omega) (by omega)
          · have hs2 : s ||| 2 ^ y < 2 ^ n := or_lt2 hsn (p2_lt hyn)
            have hs29 := s_lt hn hs2
            have pw : (1 : Int32) <<< (nI y &&& 31) = nI (2 ^ y) := nI_pow y (by omega)
            have c5 : (nI (s ||| 2 ^ y)).toNatClampNeg = s ||| 2 ^ y := nI_clamp (by omega)
            have i5 : inb (nI (s ||| 2 ^ y)) 16384 = true := inb_nI (by omega) (by decide)
            have hz : PO n P nd wi w best (K - (i + 1)) (s ||| 2 ^ y) = 0 := by
              rcases Nat.eq_zero_or_pos (PO n P nd wi w best (K - (i + 1)) (s ||| 2 ^ y)) with z | z
              · exact z
              · rw [foP_iff.mpr ⟨q1, by omega, z⟩] at hfalse
                cases hfalse
            have hv := hJ y hyn q1
            rw [hz] at hv
            have hl0 : lg_cmp (lN 0) 0 = 0 := by decide +kernel
            simp only [w196_e, w196_f, hr, ms, mz, hcan, if_pos q1, hnee, hcmp, q2, pw, nI_or, c5, i5, hv, hl0, zz, nI_1]
            exact ihe (y + 1) _ (by omega) (by omega)
        · simp only [w196_e, w196_f, hr, ms, mz, hcan, if_neg q1, zz, nI_1]
          exact ihe (y + 1) _ (by omega) (by omega)
    rw [w196_320]
    simp only [w196_e, w196_f, hr, ms, e40, hle, zz]
    have := lp x 0 y6 (by omega) (Nat.zero_le _)
    rw [nI_0] at this
    exact this
end On2

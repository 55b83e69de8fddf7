/-! ===== the reference's once ===== -/
/-- one look at a THING that may come next -/
def moS (n : Nat) (P : Nat → Nat) (nd wi w s : Nat) (on : Nat → Int32) (v : Int32) (x : Nat) : Int32 :=
  if mayC P nd s x = true then (if nI (ndB n P nd wi w s x) ≤ on (s ||| 2 ^ x) then (if v ≤ on (s ||| 2 ^ x) then v else on (s ||| 2 ^ x)) else (if v ≤ nI (ndB n P nd wi w s x) then v else nI (ndB n P nd wi w s x))) else v
def mwS (n : Nat) (P : Nat → Nat) (nd wi w best s : Nat) (ow : Nat → Int64) (v : Int64) (x : Nat) : Int64 :=
  if mayC P nd s x = true ∧ ndB n P nd wi w s x ≤ best then v + ow (s ||| 2 ^ x) else v
theorem range_fold {β : Type} (f : β → Nat → β) (b : β) (m : Nat) : (List.range (m + 1)).foldl f b = f ((List.range m).foldl f b) m := by
  rw [List.range_succ, List.foldl_append]
  rfl
section On
variable {h : AH} {n nd wi w best : Nat} {P : Nat → Nat} {Q : Option Value → AH → Prop}
theorem or_ne {s x : Nat} (h : mayC P nd s x = true) : s ||| 2 ^ x ≠ s := fun z => by
  have h1 := (mayC_iff.mp h).2.1
  have h2 := congrArg (fun y => y.testBit x) z
  simp only [bit_or_pow, decide_true, Bool.or_true] at h2
  rw [h1] at h2
  cases h2
theorem on_in {s : Nat} {v0 : Int32} {on0 : Nat → Int32} (ms : MS0 h) (nt : MNt h n P wi) (po : PartsOK n P) (h39 : hI h 67 39 = nI nd) (hnd : nd < 2 ^ n) (hs : s < 2 ^ n) (hw : w < 2)
    (kk : ∀ on y3 y4 y5 y6, (∀ t, t ≠ s → on t = on0 t) → on s = (List.range n).foldl (moS n P nd wi w s on0) v0 → WP 196 38 [.ref 67, .int (nI w), .int (mkI s), y3, y4, y5, y6] [] (setI h 87 on) Q) :
    ∀ d x on y4 y5 y6, n - x = d → x ≤ n → (∀ t, t ≠ s → on t = on0 t) → on s = (List.range x).foldl (moS n P nd wi w s on0) v0 → WP 196 78 [.ref 67, .int (nI w), .int (nI s), .int (nI x), y4, y5, y6] [] (setI h 87 on) Q := by
  have hr := hs_setI h 87
  have hn := po.1
  have hs9 := s_lt hn hs
  have n0 := nt.1
  have e72 : ∀ f, hI (setI h 87 f) 72 = hI h 72 := fun f => rfl
  have e87 : ∀ f, hI (setI h 87 f) 87 = f := fun f => by rw [hI_setI, if_pos rfl]
  have c4 : (nI s).toNatClampNeg = s := nI_clamp (by omega)
  have i4 : inb (nI s) 16384 = true := inb_nI (by omega) (by decide)
  intro d
  induction d with
  | zero =>
    intro x on y4 y5 y6 hd hx ho hv
    have hle : nI n ≤ nI x := nI_le (by omega) (by omega)
    have hxn : x = n := by omega
    rw [hxn] at hv
    rw [w196_78]
    simp only [w196_a, w196_b, w196_c, hr, ms, mz, e72, n0, hle, nI_mk, zz]
    exact kk on _ _ _ _ ho hv
  | succ d ih =>
    intro x on y4 y5 y6 hd hx ho hv
    have hxn : x < n := by omega
    have hle : ¬ nI n ≤ nI x := nI_ge hxn (by omega)
    have hcan := fun (f : Nat → Int32) (Q : Option Value → AH → Prop) => s195 (h := setI h 87 f) (Q := Q) ms nt po h39 hnd hs hxn
    have hnee := fun (f : Nat → Int32) (Q : Option Value → AH → Prop) => s194 (h := setI h 87 f) (Q := Q) ms nt po h39 hnd hs hxn hw
    have hst := range_fold (moS n P nd wi w s on0) v0 x
    rw [← hv] at hst
    rw [w196_78]
    by_cases q : mayC P nd s x = true
    · have hne := or_ne q
      have hs2 : s ||| 2 ^ x < 2 ^ n := or_lt2 hs (p2_lt hxn)
      have hs29 := s_lt hn hs2
      have pw : (1 : Int32) <<< (nI x &&& 31) = nI (2 ^ x) := nI_pow x (by omega)
      have c5 : (nI (s ||| 2 ^ x)).toNatClampNeg = s ||| 2 ^ x := nI_clamp (by omega)
      have i5 : inb (nI (s ||| 2 ^ x)) 16384 = true := inb_nI (by omega) (by decide)
      have hon := ho (s ||| 2 ^ x) hne
      have hup : ∀ v t, t ≠ s → va_up on s v t = on0 t := fun v t ht => by rw [up_at, if_neg ht]; exact ho t ht
      unfold moS at hst
      rw [if_pos q, ← hon] at hst
      by_cases q1 : nI (ndB n P nd wi w s x) ≤ on (s ||| 2 ^ x)
      · rw [if_pos q1] at hst
        by_cases q2 : on s ≤ on (s ||| 2 ^ x)
        · rw [if_pos q2] at hst
          simp only [w196_a, w196_b, w196_c, hr, ms, mz, e72, n0, hle, hcan, if_pos q, e87, pw, nI_or, c5, i5, hnee, q1, c4, i4, q2, sI_setI, zz, nI_1]
          exact ih (x + 1) _ _ _ _ (by omega) (by omega) (hup _) (by rw [up_at, if_pos rfl, ← hst]; rfl)
        · rw [if_neg q2] at hst
          simp only [w196_a, w196_b, w196_c, hr, ms, mz, e72, n0, hle, hcan, if_pos q, e87, pw, nI_or, c5, i5, hnee, q1, c4, i4, q2, sI_setI, zz, nI_1]
          exact ih (x + 1) _ _ _ _ (by omega) (by omega) (hup _) (by rw [up_at, if_pos rfl, ← hst]; rfl)
      · rw [if_neg q1] at hst
        by_cases q2 : on s ≤ nI (ndB n P nd wi w s x)
        · rw [if_pos q2] at hst
          simp only [w196_a, w196_b, w196_c, hr, ms, mz, e72, n0, hle, hcan, if_pos q, e87, pw, nI_or, c5, i5, hnee, q1, c4, i4, q2, sI_setI, zz, nI_1]
          exact ih (x + 1) _ _ _ _ (by omega) (by omega) (hup _) (by rw [up_at, if_pos rfl, ← hst]; rfl)
        · rw [if_neg q2] at hst
          simp only [w196_a, w196_b, w196_c, hr, ms, mz, e72, n0, hle, hcan, if_pos q, e87, pw, nI_or, c5, i5, hnee, q1, c4, i4, q2, sI_setI, zz, nI_1]
          exact ih (x + 1) _ _ _ _ (by omega) (by omega) (hup _) (by rw [up_at, if_pos rfl, ← hst]; rfl)
    · unfold moS at hst
      rw [if_neg q] at hst
      simp only [w196_a, w196_b, w196_c, hr, ms, mz, e72, n0, hle, hcan, if_neg q, zz, nI_1]
      exact ih (x + 1) on _ _ _ (by omega) (by omega) ho (by rw [← hst]; rfl)
/-- the least of the down sets, out of the fold -/
theorem mo_lo {s k : Nat} {on : Nat → Int32} (po : PartsOK n P) (hnd : nd < 2 ^ n) (hcl : ∀ x, x < n → nd.testBit x = true → sub (P x) nd) (d : Dwn n P nd s) (hk : rk nd s = k + 1) (hon : ∀ x, x < n → mayC P nd s x = true → on (s ||| 2 ^ x) = nI (LO n P nd wi w k (s ||| 2 ^ x))) : (List.range n).foldl (moS n P nd wi w s on) (nI 1000000000) = nI (LO n P nd wi w (k + 1) s) := by
  have hn := po.1
  have h1 : ∀ m, m ≤ n → (List.range m).foldl (moS n P nd wi w s on) (nI 1000000000) = nI ((List.range m).foldl (loStep n P nd wi w s (LO n P nd wi w k)) 1000000000) ∧ (List.range m).foldl (loStep n P nd wi w s (LO n P nd wi w k)) 1000000000 ≤ 1000000000 := by
    intro m
    induction m with
    | zero => exact fun _ => ⟨rfl, Nat.le_refl _⟩
    | succ m ih =>
      intro hm
      obtain ⟨g1, g2⟩ := ih (by omega)
      rw [range_fold, range_fold, g1]
      generalize (List.range m).foldl (loStep n P nd wi w s (LO n P nd wi w k)) 1000000000 = a at g2 ⊢
      unfold moS loStep
      by_cases q : mayC P nd s m = true
      · have hL := LO_small (wi := wi) (w := w) po hnd hcl k (s ||| 2 ^ m) (d.add q) (by have := rk_add q (by omega); omega)
        have hN : ndB n P nd wi w s m ≤ n + 1 := ndB_le
        rw [if_pos q, if_pos q, hon m (by omega) q]
        generalize LO n P nd wi w k (s ||| 2 ^ m) = r at hL ⊢
        generalize ndB n P nd wi w s m = e at hN ⊢
        have c1 : (nI e ≤ nI r) ↔ e ≤ r := nI_leI (by omega) (by omega)
        have c2 : (nI a ≤ nI r) ↔ a ≤ r := nI_leI (by omega) (by omega)
        have c3 : (nI a ≤ nI e) ↔ a ≤ e := nI_leI (by omega) (by omega)
        refine ⟨?_, by omega⟩
        by_cases q1 : e ≤ r
        · rw [if_pos (c1.mpr q1), Nat.max_eq_right q1]
          by_cases q2 : a ≤ r
          · rw [if_pos (c2.mpr q2), Nat.min_eq_left q2]
          · rw [if_neg (fun z => q2 (c2.mp z)), Nat.min_eq_right (by omega)]
        · rw [if_neg (fun z => q1 (c1.mp z)), Nat.max_eq_left (by omega)]
          by_cases q2 : a ≤ e
          · rw [if_pos (c3.mpr q2), Nat.min_eq_left q2]
          · rw [if_neg (fun z => q2 (c3.mp z)), Nat.min_eq_right (by omega)]
      · rw [if_neg q, if_neg q]
        exact ⟨rfl, g2⟩
  rw [(h1 n (Nat.le_refl _)).1]
  congr 1
  have hs := LO_small (wi := wi) (w := w) po hnd hcl (k + 1) s d hk
  change (List.range n).foldl (loStep n P nd wi w s (LO n P nd wi w k)) 99 ≤ 15 at hs
  show (List.range n).foldl (loStep n P nd wi w s (LO n P nd wi w k)) 1000000000 = (List.range n).foldl (loStep n P nd wi w s (LO n P nd wi w k)) 99
  have f1 := fun c => lo_fold (n := n) (P := P) (nd := nd) (wi := wi) (w := w) (made := s) (f := LO n P nd wi w k) (c := c) (List.range n) 99
  have f2 := fun c => lo_fold (n := n) (P := P) (nd := nd) (wi := wi) (w := w) (made := s) (f := LO n P nd wi w k) (c := c) (List.range n) 1000000000
  generalize (List.range n).foldl (loStep n P nd wi w s (LO n P nd wi w k)) 99 = A at hs f1 ⊢
  generalize (List.range n).foldl (loStep n P nd wi w s (LO n P nd wi w k)) 1000000000 = B at f2 ⊢
  have hBA : B ≤ A := (f2 A).mpr (Or.inr (((f1 A).mp (Nat.le_refl _)).resolve_left (by omega)))
  have hAB : A ≤ B := (f1 B).mpr (Or.inr (((f2 B).mp (Nat.le_refl _)).resolve_left (by omega)))
  omega
def OLk (n : Nat) (P : Nat → Nat) (nd wi w : Nat) (on : Nat → Int32) (c : Nat) : Prop := ∀ s, c ≤ s → s ≤ nd → Dwn n P nd s → on s = nI (LO n P nd wi w (rk nd s) s)
theorem or_gt {s x : Nat} (h : mayC P nd s x = true) : s < s ||| 2 ^ x := Nat.lt_of_le_of_ne Nat.left_le_or (Ne.symm (or_ne h))
theorem on_out (ms : MS0 h) (nt : MNt h n P wi) (po : PartsOK n P) (h39 : hI h 67 39 = nI nd) (hnd : nd < 2 ^ n) (hcl : ∀ x, x < n → nd.testBit x = true → sub (P x) nd) (hw : w < 2)
    (kk : ∀ on y3 y4 y5 y6, OLk n P nd wi w on 0 → WP 196 177 [.ref 67, .int (nI w), .int (-1), y3, y4, y5, y6] [] (setI h 87 on) Q) :
    ∀ c on y3 y4 y5 y6, c ≤ nd + 1 → OLk n P nd wi w on c → WP 196 38 [.ref 67, .int (nI w), .int (mkI c), y3, y4, y5, y6] [] (setI h 87 on) Q := by
  have hr := hs_setI h 87
  have hn := po.1
  have hnd9 := s_lt hn hnd
  have e67 : ∀ f, hI (setI h 87 f) 67 39 = nI nd := fun f => h39
  intro c
  induction c with
  | zero =>
    intro on y3 y4 y5 y6 hc ol
    have k' := kk on y3 y4 y5 y6 ol
    rw [w196_38]
    simp only [w196_a, w196_b, w196_c, mkI_0, mz, hr, ms, zz] at k' ⊢
    exact k'
  | succ s ih =>
    intro on y3 y4 y5 y6 hc ol
    have hs2 : s < 2 ^ n := by omega
    have hs9 := s_lt hn hs2
    have hneg : ¬ nI s < 0 := nI_pos (by omega)
    have e1 := sdf0 (a := s) (s := nd) (by omega)
    have c4 : (nI s).toNatClampNeg = s := nI_clamp (by omega)
    have i4 : inb (nI s) 16384 = true := inb_nI (by omega) (by decide)
    have heq : (nI s = nI nd) ↔ s = nd := nI_eq (by omega) (by omega)
    rw [w196_38]
    by_cases q : nd &&& s = s
    · have hsub : sub s nd := sub_and.mpr q
      have fin : ∀ (v0 : Int32) (on' : Nat → Int32), (∀ t, t ≠ s → on' t = va_up on s v0 t) → on' s = (List.range n).foldl (moS n P nd wi w s (va_up on s v0)) v0 → (s = nd → v0 = 0) → (s ≠ nd → v0 = nI 1000000000) → OLk n P nd wi w on' s := fun v0 on' g1 g2 g3 g4 t ht1 ht2 hd => by
        by_cases z : t = s
        · rw [z] at hd ⊢
          rw [g2]
          cases hk : rk nd s with
          | zero =>
            have hsn := (rk_zero (by omega) hd).mp hk
            have hno : ∀ x, mayC P nd s x = true → False := fun x hx => by
              have h1 := mayC_iff.mp hx
              rw [← hsn] at h1
              rw [h1.1] at h1
              cases h1.2.1
            have hfold : ∀ m, (List.range m).foldl (moS n P nd wi w s (va_up on s v0)) v0 = v0 := fun m => by
              induction m with
              | zero => rfl
              | succ m ihm =>
                rw [range_fold, ihm]
                unfold moS
                rw [if_neg (fun z => hno m z)]
            rw [hfold, g3 hsn]
            exact nI_0.symm
          | succ k =>
            have hsn : s ≠ nd := fun z => by
              have := (rk_zero (by omega) hd).mpr z
              omega
            rw [g4 hsn]
            rw [g4 hsn] at g1
            refine mo_lo po hnd hcl hd hk fun x hx hm => ?_
            have h1 := rk_add hm (by omega)
            rw [up_at, if_neg (or_ne hm)]
            have h2 := ol (s ||| 2 ^ x) (by have := or_gt hm; omega) (sub_le (hd.add hm).1) (hd.add hm)
            rw [h2]
            congr 2
            omega
        · rw [g1 t z, up_at, if_neg z]
          exact ol t (by omega) ht2 hd
      by_cases q2 : s = nd
      · simp only [w196_a, w196_b, w196_c, mkI_s, hneg, hr, ms, e67, nI_sdf, e1, q, heq, eq_true q2, c4, i4, sI_setI, zz]
        have go := on_in (Q := Q) (s := s) (v0 := 0) (on0 := va_up on s 0) ms nt po h39 hnd hs2 hw (fun on' z3 z4 z5 z6 g1 g2 => ?_) n 0 (va_up on s 0) y4 y5 y6 rfl (Nat.zero_le _) (fun _ _ => rfl) (by rw [up_at, if_pos rfl]; rfl)
        · rw [nI_0] at go
          exact go
        · exact ih on' z3 z4 z5 z6 (by omega) (fin 0 on' g1 g2 (fun _ => rfl) (fun z => absurd q2 z))
      · simp only [w196_a, w196_b, w196_c, mkI_s, hneg, hr, ms, e67, nI_sdf, e1, q, heq, q2, c4, i4, sI_setI, zz]
        have go := on_in (Q := Q) (s := s) (v0 := nI 1000000000) (on0 := va_up on s (nI 1000000000)) ms nt po h39 hnd hs2 hw (fun on' z3 z4 z5 z6 g1 g2 => ?_) n 0 (va_up on s (nI 1000000000)) y4 y5 y6 rfl (Nat.zero_le _) (fun _ _ => rfl) (by rw [up_at, if_pos rfl]; rfl)
        · rw [nI_0] at go
          exact go
        · exact ih on' z3 z4 z5 z6 (by omega) (fin _ on' g1 g2 (fun z => absurd z q2) (fun _ => rfl))
    · simp only [w196_a, w196_b, w196_c, mkI_s, hneg, hr, ms, e67, nI_sdf, e1, q, nI_mk, zz]
      refine ih on _ _ _ _ (by omega) fun t ht1 ht2 hd => ?_
      by_cases z : t = s
      · rw [z] at hd
        exact absurd (sub_and.mp hd.1) q
      · exact ol t (by omega) ht2 hd
end On

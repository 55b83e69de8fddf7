/-! ===== Net: add, growTree, insertFalling, branchOf ===== -/
section NetM2
variable {h : AH} {kn n k : Nat} {P : Nat → Nat} {F : Nat → Nat → Int32} {Q : Option Value → AH → Prop}
theorem s27 {nm p c R : Nat} (hf : F_net kn h) (h0 : F 0 0 = nI n) (hn : n < 14) (hR : F 0 1 = nI R) (hp : p < 2 ^ 31) : WPM 27 [.ref kn, .int (nI nm), .int (nI p), .int (nI c)] (NHp h kn F) Q ↔ Q none (NHp h kn (upF (if p = 0 then upF (upF (upF (upF F 1 n (nI nm)) 3 n (nI p)) 2 n (nI c)) 0 1 (nI (R ||| 2 ^ n)) else upF (upF (upF F 1 n (nI nm)) 3 n (nI p)) 2 n (nI c)) 0 0 (nI (n + 1)))) := by
  have hr := NHp_r h kn
  have hlt : nI n < 14 := nI_lt (b := 14) hn (by decide)
  have c1 : (nI n).toNatClampNeg = n := nI_clamp (by omega)
  have i1 : inb (nI n) 14 = true := inb_nI hn (by decide)
  have hpw : (1 : Int32) <<< (nI n &&& 31) = nI (2 ^ n) := nI_pow n (by omega)
  by_cases q : p = 0
  · subst q
    rw [if_pos rfl]
    have z0 : nI 0 = 0 := rfl
    simp only [we27, w27_a, w27_b, hr, hf, h0, hR, hlt, c1, i1, hpw, z0, upF_at, nI_or, show ¬ (0 = 1) from by decide, show ¬ (0 = 3) from by decide, show ¬ (0 = 2) from by decide, show ¬ (1 = 0) from by decide, false_and, and_false, if_false, true_or, or_true, true_implies, not_true_eq_false, not_false_eq_true, false_implies, and_true, true_and, nI_1]
  · have q' : ¬ nI p = 0 := nI_ne0 (by omega) hp
    rw [if_neg q]
    simp only [we27, w27_a, w27_b, hr, hf, h0, hlt, c1, i1, q', upF_at, show ¬ (0 = 1) from by decide, show ¬ (0 = 3) from by decide, show ¬ (0 = 2) from by decide, false_and, and_false, if_false, true_or, or_true, true_implies, not_true_eq_false, not_false_eq_true, false_implies, and_true, true_and, nI_1]
/-- three entries of k -/
def G3 (F : Nat → Nat → Int32) (k : Nat) (a b c : Int32) : Nat → Nat → Int32 := upF (upF (upF F 4 k a) 8 k b) 9 k c
theorem G3_at {a b c : Int32} (j i : Nat) : G3 F k a b c j i = if j = 9 ∧ i = k then c else if j = 8 ∧ i = k then b else if j = 4 ∧ i = k then a else F j i := by
  unfold G3
  rw [upF_at, upF_at, upF_at]
theorem G3_4 {a b c v : Int32} : upF (G3 F k a b c) 4 k v = G3 F k v b c := by
  funext j i
  rw [upF_at, G3_at, G3_at]
  by_cases q1 : j = 4 ∧ i = k
  · simp [q1]
  · simp only [q1, if_false]
theorem G3_8 {a b c v : Int32} : upF (G3 F k a b c) 8 k v = G3 F k a v c := by
  funext j i
  rw [upF_at, G3_at, G3_at]
  by_cases q1 : j = 8 ∧ i = k
  · simp [q1]
  · simp only [q1, if_false]
theorem G3_9 {a b c v : Int32} : upF (G3 F k a b c) 9 k v = G3 F k a b v := by
  funext j i
  rw [upF_at, G3_at, G3_at]
  by_cases q1 : j = 9 ∧ i = k
  · simp [q1]
  · simp only [q1, if_false]
theorem s29 (hf : F_net kn h) (hk : k < 14) (hP : F 3 k = nI (P k)) (hP9 : P k < 2 ^ 31) (hb : ∀ p, p < k → F 4 p = nI (bl P p) ∧ F 8 p = nI (cp P p) ∧ F 9 p = nI (dp P p) ∧ dp P p < 1000)
    (kk : Q none (NHp h kn (G3 F k (nI (bl P k)) (nI (cp P k)) (nI (dp P k))))) : WPM 29 [.ref kn, .int (nI k)] (NHp h kn F) Q := by
  have hr := NHp_r h kn
  have c1 : (nI k).toNatClampNeg = k := nI_clamp (by omega)
  have i1 : inb (nI k) 14 = true := inb_nI hk (by decide)
  have hpw : (1 : Int32) <<< (nI k &&& 31) = nI (2 ^ k) := nI_pow k (by omega)
  have lp : ∀ d m, k - m = d → m ≤ k → pf P k (fun acc p => max acc (dp P p + 1)) 0 m ≤ 1000 → WP 29 25 [.ref kn, .int (nI k), .int (nI m)] [] (NHp h kn (G3 F k (nI (pf P k (fun acc p => acc ||| bl P p) (2 ^ k) m)) (nI (pf P k (fun acc p => acc + cp P p) 1 m)) (nI (pf P k (fun acc p => max acc (dp P p + 1)) 0 m)))) Q := by
    intro d
    induction d with
    | zero =>
      intro m hd hm _
      have hle : nI k ≤ nI m := nI_le (by omega) (by omega)
      have : m = k := by omega
      subst this
      rw [bl_eq, cp_eq, dp_eq] at kk
      rw [w29_25]
      simp only [w29_a, w29_b, hle, true_implies, not_true_eq_false, false_implies, and_true]
      exact kk
    | succ d ih =>
      intro m hd hm hd9
      have hmk : m < k := by omega
      have hle : ¬ nI k ≤ nI m := nI_ge (by omega) (by omega)
      have cm : (nI m).toNatClampNeg = m := nI_clamp (by omega)
      have im : inb (nI m) 14 = true := inb_nI (by omega) (by decide)
      have hbit : nI (P k) >>> (nI m &&& 31) &&& 1 = nI (if (P k).testBit m = true then 1 else 0) := nI_shr_bit hP9 (by omega)
      obtain ⟨b1, b2, b3, b4⟩ := hb m hmk
      have hgo := ih (m + 1) (by omega) (by omega)
      rw [pf_succ, pf_succ, pf_succ] at hgo
      have g3 : ∀ a b c, G3 F k a b c 3 k = nI (P k) := fun a b c => by rw [G3_at]; simp [hP]
      have g4 : ∀ a b c, G3 F k a b c 4 k = a := fun a b c => by rw [G3_at]; simp
      have g4m : ∀ a b c, G3 F k a b c 4 m = nI (bl P m) := fun a b c => by rw [G3_at]; simp [show ¬ m = k by omega, b1]
      have g8 : ∀ a b c, G3 F k a b c 8 k = b := fun a b c => by rw [G3_at]; simp
      have g8m : ∀ a b c, G3 F k a b c 8 m = nI (cp P m) := fun a b c => by rw [G3_at]; simp [show ¬ m = k by omega, b2]
      have g9 : ∀ a b c, G3 F k a b c 9 k = c := fun a b c => by rw [G3_at]; simp
      have g9m : ∀ a b c, G3 F k a b c 9 m = nI (dp P m) := fun a b c => by rw [G3_at]; simp [show ¬ m = k by omega, b3]
      generalize pf P k (fun acc p => acc ||| bl P p) (2 ^ k) m = a at hgo ⊢
      generalize pf P k (fun acc p => acc + cp P p) 1 m = b at hgo ⊢
      generalize pf P k (fun acc p => max acc (dp P p + 1)) 0 m = c at hgo hd9 ⊢
      rw [w29_25]
      cases qb : (P k).testBit m with
      | true =>
        rw [qb] at hbit hgo
        have m1 := mxI (a := c) (b := dp P m + 1) (by omega) (by omega)
        simp only [if_true] at hgo
        simp only [w29_a, w29_b, hr, hf, hle, c1, i1, cm, im, g3, g4, g4m, g8, g8m, g9, g9m, G3_4, G3_8, G3_9, s140, hbit, if_true, nI_or, nI_add, m1, show (nI 1 = 1) from rfl, Option.toList_some, List.cons_append, List.nil_append, true_or, or_true, true_implies, not_true_eq_false, not_false_eq_true, false_implies, and_true, true_and, nI_1]
        exact hgo (by omega)
      | false =>
        rw [qb] at hbit hgo
        simp only [Bool.false_eq_true, if_false] at hgo
        simp only [w29_a, w29_b, hr, hf, hle, c1, i1, g3, s140, hbit, if_false, Bool.false_eq_true, show ¬ (nI 0 = 1) from by decide, Option.toList_some, List.cons_append, List.nil_append, true_or, or_true, true_implies, not_true_eq_false, not_false_eq_true, false_implies, and_true, true_and, nI_1]
        exact hgo hd9
  rw [we29]
  simp only [w29_a, w29_b, hr, hf, c1, i1, hpw]
  exact lp k 0 rfl (Nat.zero_le _) (Nat.zero_le _)
/-- insertFalling -/
theorem s31 {g : Nat → Nat} {m v : Nat} (hf : F_net kn h) (hm : m < 6) (hg : ∀ i, i < m → F 10 i = nI (g i) ∧ g i < 2 ^ 31) (hv : v < 2 ^ 31)
    (kk : ∀ f, (∀ i, i < m + 1 → f i = nI (insF g m v i)) → Q none (NHp h kn (va_up F 10 f))) : WPM 31 [.ref kn, .int (nI v), .int (nI m)] (NHp h kn F) Q := by
  have hr := NHp_r h kn
  have up10 : ∀ f i w, upF (va_up F 10 f) 10 i w = va_up F 10 (va_up f i w) := fun f i w => by
    funext j
    unfold upF
    rw [up_at (va_up F 10 f), up_at F 10 f 10, if_pos rfl, up_at F 10 (va_up f i w)]
    by_cases q : j = 10
    · rw [if_pos q, if_pos q]
    · rw [if_neg q, if_neg q, up_at, if_neg q]
  have at10 : ∀ f, va_up F 10 f 10 = f := fun f => by rw [up_at, if_pos rfl]
  have lp : ∀ i f, i ≤ m → ipos g v m = ipos g v i → (∀ x, x < i → f x = nI (g x)) → (∀ x, i < x → x ≤ m → f x = nI (g (x - 1))) → WP 31 2 [.ref kn, .int (nI v), .int (nI m), .int (nI i)] [] (NHp h kn (va_up F 10 f)) Q := by
    intro i
    induction i with
    | zero =>
      intro f hi he h1 h2
      have c0 : (nI 0).toNatClampNeg = 0 := by decide
      have i0 : inb (nI 0) 6 = true := by decide
      have z0 : nI 0 ≤ 0 := by decide
      rw [w31_2]
      simp only [w31, hr, hf, z0, c0, i0, up10, true_or, or_true, true_implies, not_true_eq_false, not_false_eq_true, false_implies, and_true, true_and]
      refine kk _ fun x hx => ?_
      have e0 : ipos g v m = 0 := he
      rw [up_at]
      unfold insF
      rw [e0, if_neg (Nat.not_lt_zero _)]
      by_cases q : x = 0
      · rw [if_pos q, if_pos q]
      · rw [if_neg q, if_neg q]
        exact h2 x (by omega) (by omega)
    | succ i ih =>
      intro f hi he h1 h2
      have hnz : ¬ nI (i + 1) ≤ 0 := nI_ge (a := 0) (by omega) (by omega)
      have em : nI (i + 1) - 1 = nI i := nI_m1 i
      have em2 : nI (i + 1) + -1 = nI i := by rw [← Int32.sub_eq_add_neg]; exact nI_m1 i
      have ci : (nI i).toNatClampNeg = i := nI_clamp (by omega)
      have ii : inb (nI i) 6 = true := inb_nI (by omega) (by decide)
      have cj : (nI (i + 1)).toNatClampNeg = i + 1 := nI_clamp (by omega)
      have ij : inb (nI (i + 1)) 6 = true := inb_nI (by omega) (by decide)
      have hfi := h1 i (by omega)
      have hgi := (hg i (by omega)).2
      have hs : ipos g v (i + 1) = if g i < v then ipos g v i else i + 1 := rfl
      rw [w31_2]
      by_cases q : g i < v
      · have hlt : ¬ nI v ≤ nI (g i) := nI_ge q hv
        rw [if_pos q] at hs
        simp only [w31, hr, hf, hnz, em, em2, ci, ii, cj, ij, at10, up10, hfi, hlt, true_or, or_true, true_implies, not_true_eq_false, not_false_eq_true, false_implies, and_true, true_and]
        refine ih _ (by omega) (he.trans hs) (fun x hx => by rw [up_at, if_neg (by omega)]; exact h1 x (by omega)) (fun x hx hx2 => ?_)
        rw [up_at]
        by_cases q2 : x = i + 1
        · rw [if_pos q2, q2]
          rfl
        · rw [if_neg q2]
          exact h2 x (by omega) hx2
      · have hlt : nI v ≤ nI (g i) := nI_le (by omega) hgi
        rw [if_neg q] at hs
        simp only [w31, hr, hf, hnz, em, ci, ii, cj, ij, at10, up10, hfi, hlt, true_or, or_true, true_implies, not_true_eq_false, not_false_eq_true, false_implies, and_true, true_and]
        refine kk _ fun x hx => ?_
        have e0 : ipos g v m = i + 1 := he.trans hs
        rw [up_at]
        unfold insF
        rw [e0]
        by_cases q2 : x = i + 1
        · rw [if_pos q2, if_neg (by omega), if_pos q2]
        · rw [if_neg q2]
          by_cases q3 : x < i + 1
          · rw [if_pos q3]
            exact h1 x q3
          · rw [if_neg q3, if_neg q2]
            exact h2 x (by omega) (by omega)
  have hid : va_up F 10 (F 10) = F := by
    funext j
    rw [up_at]
    split
    · next z => rw [z]
    · rfl
  rw [we31]
  simp only [w31]
  have := lp m (F 10) (Nat.le_refl _) rfl (fun x hx => (hg x hx).1) (fun x h1 h2 => by omega)
  rw [hid] at this
  exact this
end NetM2

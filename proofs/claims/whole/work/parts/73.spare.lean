/-! ===== what a plan can spare: numbers ===== -/
def acN (L : List Act) (N b p s : Nat) : Option Nat := (actN L p).bind (fun a => aft N b a s)
def kp (L : List Act) (N b : Nat) (e : Nat → Bool) : List Nat → Nat → Nat
  | [], s => if e s = true then 0 else 1000
  | p :: l, s => match acN L N b p s with
    | none => kp L N b e l s
    | some t => if kp L N b e l t < 1000 ∧ kp L N b e l t < kp L N b e l s then kp L N b e l t + 1 else kp L N b e l s
/-- at this place the act is kept -/
def kpU (L : List Act) (N b : Nat) (e : Nat → Bool) (p : Nat) (l : List Nat) (s : Nat) : Bool := match acN L N b p s with
  | none => false
  | some t => decide (kp L N b e l t < 1000 ∧ kp L N b e l t < kp L N b e l s)
def fl (L : List Act) (N b : Nat) (e : Nat → Bool) : List Nat → Nat → Nat → List Nat
  | [], _, _ => []
  | p :: l, i, s => if kpU L N b e p l s = true then i :: fl L N b e l (i + 1) ((acN L N b p s).getD 0) else fl L N b e l (i + 1) s
theorem kp_cons {L : List Act} {N b : Nat} {e : Nat → Bool} {p : Nat} {l : List Nat} {s : Nat} : kp L N b e (p :: l) s = if kpU L N b e p l s = true then kp L N b e l ((acN L N b p s).getD 0) + 1 else kp L N b e l s := by
  show (match acN L N b p s with
    | none => kp L N b e l s
    | some t => if kp L N b e l t < 1000 ∧ kp L N b e l t < kp L N b e l s then kp L N b e l t + 1 else kp L N b e l s) = _
  unfold kpU
  cases q : acN L N b p s with
  | none => rfl
  | some t =>
    dsimp only
    by_cases w : kp L N b e l t < 1000 ∧ kp L N b e l t < kp L N b e l s
    · rw [if_pos w, if_pos (decide_eq_true w)]
      rfl
    · rw [if_neg w, if_neg (by rw [decide_eq_false w]; exact Bool.false_ne_true)]
theorem kp_le {L : List Act} {N b : Nat} {e : Nat → Bool} : ∀ (l : List Nat) (s : Nat), kp L N b e l s ≤ l.length ∨ kp L N b e l s = 1000 := by
  intro l
  induction l with
  | nil =>
    intro s
    show (if e s = true then 0 else 1000) ≤ 0 ∨ (if e s = true then 0 else 1000) = 1000
    split <;> simp
  | cons p l ih =>
    intro s
    rw [kp_cons, List.length_cons]
    by_cases q : kpU L N b e p l s = true
    · rw [if_pos q]
      unfold kpU at q
      cases q2 : acN L N b p s with
      | none => rw [q2] at q; cases q
      | some t =>
        rw [q2] at q
        have q3 := of_decide_eq_true q
        show kp L N b e l t + 1 ≤ _ ∨ kp L N b e l t + 1 = _
        have := ih t
        omega
    · rw [if_neg q]
      have := ih s
      omega
theorem fl_len {L : List Act} {N b : Nat} {e : Nat → Bool} : ∀ (l : List Nat) (i s : Nat), kp L N b e l s < 1000 → (fl L N b e l i s).length = kp L N b e l s := by
  intro l
  induction l with
  | nil =>
    intro i s h
    show 0 = if e s = true then 0 else 1000
    change (if e s = true then 0 else 1000) < 1000 at h
    split at h
    · next q => rw [if_pos q]
    · omega
  | cons p l ih =>
    intro i s h
    rw [kp_cons] at h ⊢
    show (if kpU L N b e p l s = true then i :: fl L N b e l (i + 1) ((acN L N b p s).getD 0) else fl L N b e l (i + 1) s).length = _
    by_cases q : kpU L N b e p l s = true
    · rw [if_pos q] at h ⊢
      rw [if_pos q, List.length_cons, ih _ _ (by omega)]
    · rw [if_neg q] at h ⊢
      rw [if_neg q, ih _ _ h]
/-- an act is not let again where it led -/
theorem aft_again {N b s t : Nat} {a : Act} (hw : actW a) (hne : aGn a ≠ 0 ∨ aLs a ≠ 0) (h : aft N b a s = some t) : aft N b a t = none := by
  obtain ⟨w1, w2, w3⟩ := hw
  unfold aft at h ⊢
  by_cases q1 : s &&& (aNd a ||| aGn a) = aNd a
  · rw [if_pos q1] at h
    by_cases q2 : sdf (s ||| aGn a) (aLs a) < N ∧ pc (sdf (s ||| aGn a) (aLs a)) ≤ b
    · rw [if_pos q2] at h
      have hs : sdf (s ||| aGn a) (aLs a) = t := Option.some.inj h
      rw [if_neg]
      intro q3
      have b1 : ∀ i, ((aGn a).testBit i && (aNd a).testBit i) = false := fun i => by rw [← Nat.testBit_and, w1, Nat.zero_testBit]
      have b2 : ∀ i, ((aGn a).testBit i && (aLs a).testBit i) = false := fun i => by rw [← Nat.testBit_and, w2, Nat.zero_testBit]
      have c2 : ∀ i, t.testBit i = ((s.testBit i || (aGn a).testBit i) && !(aLs a).testBit i) := fun i => by rw [← hs, sdf_bit, Nat.testBit_or]
      have c3 : ∀ i, (t.testBit i && ((aNd a).testBit i || (aGn a).testBit i)) = (aNd a).testBit i := fun i => by rw [← Nat.testBit_or, ← Nat.testBit_and, q3]
      rcases hne with z | z
      · obtain ⟨i, hi⟩ := Nat.exists_testBit_of_ne_zero z
        have z1 := b1 i
        have z2 := b2 i
        have z3 := c2 i
        have z4 := c3 i
        rw [hi] at z1 z2 z3 z4
        revert z1 z2 z3 z4
        cases (aNd a).testBit i <;> cases (aLs a).testBit i <;> cases s.testBit i <;> cases t.testBit i <;> simp
      · obtain ⟨i, hi⟩ := Nat.exists_testBit_of_ne_zero z
        have z1 := b1 i
        have z2 := b2 i
        have z3 := c2 i
        have z4 := c3 i
        have z5 := w3 i hi
        rw [hi] at z2 z3
        rw [z5] at z1 z4
        revert z1 z2 z3 z4
        cases (aGn a).testBit i <;> cases s.testBit i <;> cases t.testBit i <;> simp
    · rw [if_neg q2] at h
      cases h
  · rw [if_neg q1] at h
    cases h
theorem parts_ne {n w : Nat} {P : Nat → Nat} : ∀ a ∈ actsOf n P w, aGn a ≠ 0 ∨ aLs a ≠ 0 := by
  intro a ha
  have h2 : ∀ x : Nat, 2 ^ x ≠ 0 := fun x => Nat.ne_of_gt (Nat.pow_pos (by decide))
  rcases mem_actsOf.mp ha with ⟨x, hx, rfl⟩ | ⟨x, hx, rfl⟩ | ⟨-, x, y, hx, hy, hb, rfl⟩
  · exact Or.inl (h2 x)
  · exact Or.inr (h2 x)
  · exact Or.inl (h2 x)
theorem parts_num {n w : Nat} {P : Nat → Nat} (hn : n ≤ 14) : ∀ a ∈ actsOf n P w, a.1 < 1000 ∧ a.2.1 ≤ n := by
  intro a ha
  rcases mem_actsOf.mp ha with ⟨x, hx, rfl⟩ | ⟨x, hx, rfl⟩ | ⟨-, x, y, hx, hy, hb, rfl⟩
  · exact ⟨by show x < 1000; omega, by show x + 1 ≤ n; omega⟩
  · exact ⟨by show 20 + x < 1000; omega, Nat.zero_le _⟩
  · exact ⟨by show 100 + 20 * x + y < 1000; omega, by show x + 1 ≤ n; omega⟩
/-! bits of longs -/
theorem lN_or (a b : Nat) : lN a ||| lN b = lN (a ||| b) := by
  apply Int64.toBitVec_inj.mp
  simp [lN, BitVec.ofNat_or]
theorem lN_pow : ∀ p, p < 60 → (1 : Int64) <<< ((nI p).toInt64 &&& 63) = lN (2 ^ p) := by decide +kernel
theorem sh63 : ∀ p, p < 60 → (((nI p).toInt64 &&& 63).toBitVec.smod 64).toNat = p := by decide +kernel
theorem lN_shr_bit {s k : Nat} (hs : s < 2 ^ 62) (hk : k < 60) : ((lN s >>> ((nI k).toInt64 &&& 63)) &&& 1) = lN (if s.testBit k then 1 else 0) := by
  apply Int64.toBitVec_inj.mp
  apply BitVec.eq_of_getLsbD_eq
  intro i hi
  have e1 : ((lN s >>> ((nI k).toInt64 &&& 63)) &&& 1).toBitVec = ((BitVec.ofNat 64 s).sshiftRight (((nI k).toInt64 &&& 63).toBitVec.smod 64).toNat) &&& 1#64 := rfl
  rw [e1, sh63 k hk, BitVec.getLsbD_and]
  have e2 : (lN (if s.testBit k then 1 else 0)).toBitVec = BitVec.ofNat 64 (if s.testBit k then 1 else 0) := rfl
  rw [e2, BitVec.getLsbD_sshiftRight, BitVec.getLsbD_ofNat, BitVec.getLsbD_ofNat]
  by_cases q : i = 0
  · subst q
    cases h9 : s.testBit k <;> simp [h9, show k < 64 by omega]
  · have h1 : Nat.testBit 1 i = false := Nat.testBit_lt_two_pow (Nat.lt_of_lt_of_le (m := 2) (by decide) (Nat.pow_le_pow_right (n := 2) (by decide) (show 1 ≤ i by omega)))
    rw [h1, Bool.and_false, Bool.and_false]
    have h2 : ∀ b : Bool, (if b = true then 1 else 0 : Nat).testBit i = false := fun b => by
      refine Nat.testBit_lt_two_pow (Nat.lt_of_lt_of_le (m := 2) ?_ (Nat.pow_le_pow_right (n := 2) (by decide) (show 1 ≤ i by omega)))
      split <;> decide
    rw [BitVec.getLsbD_ofNat, h2]
    simp

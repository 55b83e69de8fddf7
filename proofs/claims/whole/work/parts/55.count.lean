/-! ===== rows of acts to an END, counted; the search back from the END, in numbers ===== -/
def aftL (L : List Act) (N b m s : Nat) : Option Nat := (L[m]?).bind (fun a => aft N b a s)
/-- how many rows of k acts lead from s to an END -/
def cnt (L : List Act) (N b : Nat) (e : Nat → Bool) : Nat → Nat → Nat
  | 0, s => if e s = true then 1 else 0
  | k + 1, s => sm (fun m => match aftL L N b m s with
    | some t => cnt L N b e k t
    | none => 0) L.length
theorem cnt_pos {L : List Act} {N b : Nat} {e : Nat → Bool} {k s : Nat} : 0 < cnt L N b e (k + 1) s ↔ ∃ a t, a ∈ L ∧ aft N b a s = some t ∧ 0 < cnt L N b e k t := by
  show 0 < sm _ _ ↔ _
  rw [sm_pos]
  constructor
  · rintro ⟨m, hm, h⟩
    unfold aftL at h
    rw [List.getElem?_eq_getElem hm] at h
    change 0 < (match aft N b L[m] s with
      | some t => cnt L N b e k t
      | none => 0) at h
    cases q : aft N b L[m] s with
    | none => rw [q] at h; exact absurd h (Nat.lt_irrefl 0)
    | some t =>
      rw [q] at h
      exact ⟨L[m], t, List.getElem_mem hm, q, h⟩
  · rintro ⟨a, t, ha, h1, h2⟩
    obtain ⟨m, hm, rfl⟩ := List.getElem_of_mem ha
    refine ⟨m, hm, ?_⟩
    unfold aftL
    rw [List.getElem?_eq_getElem hm]
    change 0 < (match aft N b L[m] s with
      | some t => cnt L N b e k t
      | none => 0)
    rw [h1]
    exact h2
/-- acts that can be turned back -/
def actW (a : Act) : Prop := aGn a &&& aNd a = 0 ∧ aGn a &&& aLs a = 0 ∧ sub (aLs a) (aNd a)
theorem bef_iff {N b s t : Nat} {a : Act} (hw : actW a) (ht : t < N ∧ pc t ≤ b) : bef N b a t = some s ↔ s < N ∧ pc s ≤ b ∧ aft N b a s = some t := by
  obtain ⟨w1, w2, w3⟩ := hw
  have b1 : ∀ i, ((aGn a).testBit i && (aNd a).testBit i) = false := fun i => by rw [← Nat.testBit_and, w1, Nat.zero_testBit]
  have b2 : ∀ i, ((aGn a).testBit i && (aLs a).testBit i) = false := fun i => by rw [← Nat.testBit_and, w2, Nat.zero_testBit]
  unfold bef aft
  constructor
  · intro h
    by_cases q1 : t &&& (aGn a ||| aLs a) = aGn a
    · rw [if_pos q1] at h
      by_cases q2 : (sdf t (aGn a) ||| aLs a) < N ∧ (sdf t (aGn a) ||| aLs a) &&& aNd a = aNd a ∧ pc (sdf t (aGn a) ||| aLs a) ≤ b
      · rw [if_pos q2] at h
        have hs : sdf t (aGn a) ||| aLs a = s := Option.some.inj h
        rw [hs] at q2
        have c1 : ∀ i, (t.testBit i && ((aGn a).testBit i || (aLs a).testBit i)) = (aGn a).testBit i := fun i => by rw [← Nat.testBit_or, ← Nat.testBit_and, q1]
        have c2 : ∀ i, s.testBit i = ((t.testBit i && !(aGn a).testBit i) || (aLs a).testBit i) := fun i => by rw [← hs, Nat.testBit_or, sdf_bit]
        have c3 : ∀ i, (s.testBit i && (aNd a).testBit i) = (aNd a).testBit i := fun i => by rw [← Nat.testBit_and, q2.2.1]
        have e1 : s &&& (aNd a ||| aGn a) = aNd a := by
          apply Nat.eq_of_testBit_eq
          intro i
          have z1 := b1 i
          have z2 := b2 i
          have z3 := c1 i
          have z4 := c2 i
          have z5 := c3 i
          rw [Nat.testBit_and, Nat.testBit_or]
          revert z1 z2 z3 z4 z5
          cases (aGn a).testBit i <;> cases (aNd a).testBit i <;> cases (aLs a).testBit i <;> cases s.testBit i <;> cases t.testBit i <;> simp
        have e2 : sdf (s ||| aGn a) (aLs a) = t := by
          apply Nat.eq_of_testBit_eq
          intro i
          have z1 := b1 i
          have z2 := b2 i
          have z3 := c1 i
          have z4 := c2 i
          rw [sdf_bit, Nat.testBit_or]
          revert z1 z2 z3 z4
          cases (aGn a).testBit i <;> cases (aNd a).testBit i <;> cases (aLs a).testBit i <;> cases s.testBit i <;> cases t.testBit i <;> simp
        rw [if_pos e1, e2, if_pos ht]
        exact ⟨q2.1, q2.2.2, rfl⟩
      · rw [if_neg q2] at h
        cases h
    · rw [if_neg q1] at h
      cases h
  · rintro ⟨s1, s2, h⟩
    by_cases q1 : s &&& (aNd a ||| aGn a) = aNd a
    · rw [if_pos q1] at h
      by_cases q2 : sdf (s ||| aGn a) (aLs a) < N ∧ pc (sdf (s ||| aGn a) (aLs a)) ≤ b
      · rw [if_pos q2] at h
        have hs : sdf (s ||| aGn a) (aLs a) = t := Option.some.inj h
        have c1 : ∀ i, (s.testBit i && ((aNd a).testBit i || (aGn a).testBit i)) = (aNd a).testBit i := fun i => by rw [← Nat.testBit_or, ← Nat.testBit_and, q1]
        have c2 : ∀ i, t.testBit i = ((s.testBit i || (aGn a).testBit i) && !(aLs a).testBit i) := fun i => by rw [← hs, sdf_bit, Nat.testBit_or]
        have e1 : t &&& (aGn a ||| aLs a) = aGn a := by
          apply Nat.eq_of_testBit_eq
          intro i
          have z1 := b1 i
          have z2 := b2 i
          have z3 := c1 i
          have z4 := c2 i
          rw [Nat.testBit_and, Nat.testBit_or]
          revert z1 z2 z3 z4
          cases (aGn a).testBit i <;> cases (aNd a).testBit i <;> cases (aLs a).testBit i <;> cases s.testBit i <;> cases t.testBit i <;> simp
        have e2 : sdf t (aGn a) ||| aLs a = s := by
          apply Nat.eq_of_testBit_eq
          intro i
          have z1 := b1 i
          have z2 := b2 i
          have z3 := c1 i
          have z4 := c2 i
          have z5 := w3 i
          rw [Nat.testBit_or, sdf_bit]
          revert z1 z2 z3 z4 z5
          cases (aGn a).testBit i <;> cases (aNd a).testBit i <;> cases (aLs a).testBit i <;> cases s.testBit i <;> cases t.testBit i <;> simp
        have e3 : s &&& aNd a = aNd a := by
          apply Nat.eq_of_testBit_eq
          intro i
          have z1 := b1 i
          have z3 := c1 i
          rw [Nat.testBit_and]
          revert z1 z3
          cases (aGn a).testBit i <;> cases (aNd a).testBit i <;> cases s.testBit i <;> simp
        rw [if_pos e1, e2, if_pos ⟨s1, e3, s2⟩]
      · rw [if_neg q2] at h
        cases h
    · rw [if_neg q1] at h
      cases h
theorem parts_actW {n w : Nat} {P : Nat → Nat} (h : PartsOK n P) : ∀ a ∈ actsOf n P w, actW a := by
  intro a ha
  have hx2 : ∀ x, x < n → (2 ^ x) &&& (P x) = 0 := fun x hx => by
    apply Nat.eq_of_testBit_eq
    intro i
    rw [Nat.testBit_and, Nat.testBit_two_pow, Nat.zero_testBit]
    by_cases q : x = i
    · subst q
      rw [Nat.testBit_lt_two_pow (h.2 x hx).1]
      simp
    · simp [q]
  rcases mem_actsOf.mp ha with ⟨x, hx, rfl⟩ | ⟨x, hx, rfl⟩ | ⟨-, x, y, hx, hy, hb, rfl⟩
  · exact ⟨hx2 x hx, Nat.and_zero _, fun j hj => by
      have hj' : (0 : Nat).testBit j = true := hj
      rw [Nat.zero_testBit] at hj'; cases hj'⟩
  · refine ⟨Nat.zero_and _, Nat.zero_and _, fun j hj => ?_⟩
    have hj' : (2 ^ x).testBit j = true := hj
    show (2 ^ x ||| tw w P x).testBit j = true
    rw [Nat.testBit_or, hj']
    rfl
  · refine ⟨?_, ?_, fun j hj => ?_⟩
    · show (2 ^ x) &&& (P x ||| tw w P y) = 0
      apply Nat.eq_of_testBit_eq
      intro i
      rw [Nat.testBit_and, Nat.testBit_two_pow, Nat.zero_testBit, Nat.testBit_or]
      by_cases q : x = i
      · subst q
        have ht : tw w P y < 2 ^ x := by
          show (if w / 2 % 2 = 1 then P y else 0) < 2 ^ x
          split
          · exact Nat.lt_of_lt_of_le (h.2 y (by omega)).1 (p2_le (by omega))
          · exact Nat.pow_pos (by decide)
        rw [Nat.testBit_lt_two_pow (h.2 x hx).1, Nat.testBit_lt_two_pow ht]
        simp
      · simp [q]
    · show (2 ^ x) &&& (2 ^ y) = 0
      apply Nat.eq_of_testBit_eq
      intro i
      rw [Nat.testBit_and, Nat.testBit_two_pow, Nat.testBit_two_pow, Nat.zero_testBit]
      by_cases q : x = i
      · simp [show ¬ y = i by omega]
      · simp [q]
    · have hj' : (2 ^ y).testBit j = true := hj
      show (P x ||| tw w P y).testBit j = true
      rw [Nat.testBit_two_pow] at hj'
      have : y = j := by simpa using hj'
      subst this
      rw [Nat.testBit_or, hb]
      rfl
/-- the sources and the steps of the search back -/
def sbS (N b : Nat) (e : Nat → Bool) (s : Nat) : Prop := s < N ∧ pc s ≤ b ∧ e s = true
def sbE (L : List Act) (N b t s : Nat) : Prop := s ∈ L.filterMap (fun a => bef N b a t)
theorem sb_gk {L : List Act} {N b : Nat} {e : Nat → Bool} (hw : ∀ a ∈ L, actW a) : ∀ k x, GK (sbS N b e) (sbE L N b) k x ↔ x < N ∧ pc x ≤ b ∧ 0 < cnt L N b e k x := by
  intro k
  induction k with
  | zero =>
    intro x
    show sbS N b e x ↔ _
    unfold sbS
    show _ ↔ x < N ∧ pc x ≤ b ∧ 0 < if e x = true then 1 else 0
    by_cases q : e x = true
    · simp [q]
    · simp [q]
  | succ k ih =>
    intro x
    rw [cnt_pos]
    show (∃ s, GK (sbS N b e) (sbE L N b) k s ∧ sbE L N b s x) ↔ _
    unfold sbE
    constructor
    · rintro ⟨t, h1, h2⟩
      obtain ⟨t1, t2, t3⟩ := (ih t).mp h1
      obtain ⟨a, ha, h3⟩ := List.mem_filterMap.mp h2
      obtain ⟨x1, x2, x3⟩ := (bef_iff (hw a ha) ⟨t1, t2⟩).mp h3
      exact ⟨x1, x2, a, t, ha, x3, t3⟩
    · rintro ⟨x1, x2, a, t, ha, x3, t3⟩
      have ht := aft_lt x3
      exact ⟨t, (ih t).mpr ⟨ht.1, ht.2, t3⟩, List.mem_filterMap.mpr ⟨a, ha, (bef_iff (hw a ha) ht).mpr ⟨x1, x2, x3⟩⟩⟩
abbrev SZ : Type := (Nat → Option Nat) × (Nat → Nat) × List Nat
def MR : Nat := 1000000000000000
def sb1 (dt ct : Nat) (o : Option Nat) (z : SZ) : SZ := match o with
  | none => z
  | some s => if z.1 s = none then (va_up z.1 s (some (dt + 1)), va_up z.2.1 s ct, z.2.2 ++ [s]) else if z.1 s = some (dt + 1) then (z.1, va_up z.2.1 s (min MR (z.2.1 s + ct)), z.2.2) else z
def sbA (L : List Act) (N b t dt ct : Nat) (z : SZ) : SZ := L.foldl (fun z a => sb1 dt ct (bef N b a t) z) z
theorem sbA_look (N b t dt ct : Nat) : ∀ (L : List Act) (z : SZ), ((sbA L N b t dt ct z).1, (sbA L N b t dt ct z).2.2) = (L.filterMap (fun a => bef N b a t)).foldl (look1 (dt + 1)) (z.1, z.2.2) := by
  intro L
  induction L with
  | nil => exact fun z => rfl
  | cons a L ih =>
    intro z
    show ((sbA L N b t dt ct (sb1 dt ct (bef N b a t) z)).1, (sbA L N b t dt ct (sb1 dt ct (bef N b a t) z)).2.2) = _
    rw [ih, List.filterMap_cons]
    cases q : bef N b a t with
    | none => rfl
    | some s =>
      simp only [List.foldl_cons]
      congr 1
      unfold sb1 look1
      by_cases q1 : z.1 s = none
      · simp [q1]
      · simp only [q1, if_false]
        split <;> rfl
/-- the terms that are counted: P is done, of t0 the first j acts -/
def tmm (L : List Act) (N b : Nat) (e : Nat → Bool) (P : List Nat) (t0 j x k m : Nat) : Nat := match aftL L N b m x with
  | some t => if t ∈ P ∨ (t = t0 ∧ m < j) then cnt L N b e k t else 0
  | none => 0
def CI (L : List Act) (N b : Nat) (e : Nat → Bool) (P : List Nat) (t0 j : Nat) (D : Nat → Option Nat) (C : Nat → Nat) : Prop :=
  (∀ x k, D x = some (k + 1) → C x = min MR (sm (tmm L N b e P t0 j x k) L.length)) ∧
  (∀ x, x < N → pc x ≤ b → D x = none → ∀ m t, aftL L N b m x = some t → t ∉ P ∧ ¬ (t = t0 ∧ m < j)) ∧
  ∀ x, D x = some 0 → C x = 1
theorem CI.step {L : List Act} {N b : Nat} {e : Nat → Bool} {P : List Nat} {t0 j dt ct : Nat} {z : SZ} {a : Act} (hw : ∀ a ∈ L, actW a) (ht0 : t0 < N ∧ pc t0 ≤ b) (hP : t0 ∉ P) (haj : L[j]? = some a) (hct : ct = min MR (cnt L N b e dt t0)) (hlow : ∀ k, k < dt → cnt L N b e k t0 = 0) (h1 : ∀ x k, z.1 x = some k → k ≤ dt + 1 ∧ x < N ∧ pc x ≤ b) (c : CI L N b e P t0 j z.1 z.2.1) :
    CI L N b e P t0 (j + 1) (sb1 dt ct (bef N b a t0) z).1 (sb1 dt ct (bef N b a t0) z).2.1 ∧ (∀ x k, (sb1 dt ct (bef N b a t0) z).1 x = some k → k ≤ dt + 1 ∧ x < N ∧ pc x ≤ b) ∧ (z.1 t0 = some dt → (sb1 dt ct (bef N b a t0) z).2.1 t0 = z.2.1 t0 ∧ (sb1 dt ct (bef N b a t0) z).1 t0 = some dt) := by
  obtain ⟨c1, c2, c3⟩ := c
  have hal : ∀ x, aftL L N b j x = aft N b a x := fun x => by unfold aftL; rw [haj]; rfl
  have hjl : j < L.length := by
    obtain ⟨h, -⟩ := List.getElem?_eq_some_iff.mp haj
    exact h
  have haL : a ∈ L := List.mem_of_getElem? haj
  -- where the act does not lead to t0 nothing changes
  have same : ∀ x k, aft N b a x ≠ some t0 → sm (tmm L N b e P t0 (j + 1) x k) L.length = sm (tmm L N b e P t0 j x k) L.length := fun x k hx => sm_congr _ fun m hm => by
    unfold tmm
    by_cases q : m = j
    · subst q
      rw [hal x]
      cases q2 : aft N b a x with
      | none => rfl
      | some t =>
        have : t ≠ t0 := fun z => hx (by rw [q2, z])
        simp [this]
    · have : (m < j + 1) ↔ m < j := by omega
      simp only [this]
  have plus : ∀ x k, aft N b a x = some t0 → sm (tmm L N b e P t0 (j + 1) x k) L.length = sm (tmm L N b e P t0 j x k) L.length + cnt L N b e k t0 := fun x k hx => by
    have := sm_up (f := tmm L N b e P t0 j x k) (g := tmm L N b e P t0 (j + 1) x k) (j := j) L.length hjl (fun m hm hmj => by
      unfold tmm
      have : (m < j + 1) ↔ m < j := by omega
      simp only [this])
    have f0 : tmm L N b e P t0 j x k j = 0 := by
      unfold tmm
      rw [hal x, hx]
      simp [hP]
    have g0 : tmm L N b e P t0 (j + 1) x k j = cnt L N b e k t0 := by
      unfold tmm
      rw [hal x, hx]
      simp
    omega
  have nb : ∀ x, x < N → pc x ≤ b → (aft N b a x = some t0 ↔ bef N b a t0 = some x) := fun x x1 x2 => by
    rw [bef_iff (hw a haL) ht0]
    exact ⟨fun h => ⟨x1, x2, h⟩, fun h => h.2.2⟩
  cases q : bef N b a t0 with
  | none =>
    have hno : ∀ x, x < N → pc x ≤ b → aft N b a x ≠ some t0 := fun x x1 x2 h => by
      have := (nb x x1 x2).mp h
      rw [q] at this
      cases this
    refine ⟨⟨fun x k hx => ?_, fun x x1 x2 hx m t hm => ?_, c3⟩, h1, fun h => ⟨rfl, h⟩⟩
    · obtain ⟨-, x1, x2⟩ := h1 x _ hx
      rw [same x k (hno x x1 x2)]
      exact c1 x k hx
    · obtain ⟨g1, g2⟩ := c2 x x1 x2 hx m t hm
      refine ⟨g1, fun hh => ?_⟩
      by_cases q2 : m = j
      · subst q2
        rw [hal x, hh.1] at hm
        exact hno x x1 x2 hm
      · exact g2 ⟨hh.1, by omega⟩
  | some s =>
    obtain ⟨s1, s2, s3⟩ := (bef_iff (hw a haL) ht0).mp q
    have hno : ∀ x, x < N → pc x ≤ b → x ≠ s → aft N b a x ≠ some t0 := fun x x1 x2 hx h => by
      have := (nb x x1 x2).mp h
      rw [q] at this
      cases this
      exact hx rfl
    have unv : ∀ x, x < N → pc x ≤ b → x ≠ s → z.1 x = none → ∀ m t, aftL L N b m x = some t → t ∉ P ∧ ¬ (t = t0 ∧ m < j + 1) := fun x x1 x2 xs hx m t hm => by
      obtain ⟨g1, g2⟩ := c2 x x1 x2 hx m t hm
      refine ⟨g1, fun hh => ?_⟩
      by_cases q2 : m = j
      · subst q2
        rw [hal x, hh.1] at hm
        exact hno x x1 x2 xs hm
      · exact g2 ⟨hh.1, by omega⟩
    unfold sb1
    by_cases q1 : z.1 s = none
    · simp only [q1, if_true]
      refine ⟨⟨fun x k hx => ?_, fun x x1 x2 hx m t hm => ?_, fun x hx => ?_⟩, fun x k hx => ?_, fun h => ?_⟩
      · rw [up_at] at hx ⊢
        by_cases xs : x = s
        · subst xs
          rw [if_pos rfl] at hx ⊢
          have : k = dt := by
            have := Option.some.inj hx
            omega
          subst this
          rw [plus x k s3]
          have hz : sm (tmm L N b e P t0 j x k) L.length = 0 := sm_zero _ fun m hm => by
            unfold tmm
            cases q2 : aftL L N b m x with
            | none => rfl
            | some t =>
              obtain ⟨g1, g2⟩ := c2 x s1 s2 q1 m t q2
              have : ¬ (t ∈ P ∨ t = t0 ∧ m < j) := fun w => w.elim g1 g2
              simp [this]
          rw [hz, Nat.zero_add]
          exact hct
        · rw [if_neg xs] at hx ⊢
          obtain ⟨-, x1, x2⟩ := h1 x _ hx
          rw [same x k (hno x x1 x2 xs)]
          exact c1 x k hx
      · rw [up_at] at hx
        by_cases xs : x = s
        · rw [if_pos xs] at hx
          cases hx
        · rw [if_neg xs] at hx
          exact unv x x1 x2 xs hx m t hm
      · rw [up_at] at hx ⊢
        by_cases xs : x = s
        · rw [if_pos xs] at hx
          cases hx
        · rw [if_neg xs] at hx ⊢
          exact c3 x hx
      · rw [up_at] at hx
        by_cases xs : x = s
        · rw [if_pos xs] at hx
          cases hx
          rw [xs]
          exact ⟨Nat.le_refl _, s1, s2⟩
        · rw [if_neg xs] at hx
          exact h1 x k hx
      · have : t0 ≠ s := fun w => by rw [← w, h] at q1; cases q1
        rw [up_at, up_at, if_neg this, if_neg this]
        exact ⟨rfl, h⟩
    · simp only [q1, if_false]
      by_cases q2 : z.1 s = some (dt + 1)
      · simp only [q2, if_true]
        refine ⟨⟨fun x k hx => ?_, fun x x1 x2 hx m t hm => ?_, fun x hx => ?_⟩, h1, fun h => ?_⟩
        · rw [up_at]
          by_cases xs : x = s
          · subst xs
            rw [if_pos rfl]
            have : k = dt := by
              rw [q2] at hx
              have := Option.some.inj hx
              omega
            subst this
            rw [plus x k s3, c1 x k q2, hct]
            omega
          · rw [if_neg xs]
            obtain ⟨-, x1, x2⟩ := h1 x _ hx
            rw [same x k (hno x x1 x2 xs)]
            exact c1 x k hx
        · exact unv x x1 x2 (fun w => by rw [w, q2] at hx; cases hx) hx m t hm
        · rw [up_at]
          have : x ≠ s := fun w => by rw [w, q2] at hx; cases hx
          rw [if_neg this]
          exact c3 x hx
        · have : t0 ≠ s := fun w => by
            rw [← w, h] at q2
            have := Option.some.inj q2
            omega
          rw [up_at, if_neg this]
          exact ⟨rfl, h⟩
      · simp only [q2, if_false]
        refine ⟨⟨fun x k hx => ?_, fun x x1 x2 hx m t hm => ?_, c3⟩, h1, fun h => ⟨trivial, h⟩⟩
        · by_cases xs : x = s
          · subst xs
            obtain ⟨hk, -, -⟩ := h1 x _ hx
            have hne : k ≠ dt := fun w => q2 (by rw [hx, w])
            rw [plus x k s3, hlow k (by omega), Nat.add_zero]
            exact c1 x k hx
          · obtain ⟨-, x1, x2⟩ := h1 x _ hx
            rw [same x k (hno x x1 x2 xs)]
            exact c1 x k hx
        · exact unv x x1 x2 (fun w => by rw [w] at hx; exact q1 hx) hx m t hm
theorem CI.all {L : List Act} {N b : Nat} {e : Nat → Bool} {P : List Nat} {t0 dt ct : Nat} (hw : ∀ a ∈ L, actW a) (ht0 : t0 < N ∧ pc t0 ≤ b) (hP : t0 ∉ P) (hct : ct = min MR (cnt L N b e dt t0)) (hlow : ∀ k, k < dt → cnt L N b e k t0 = 0) :
    ∀ (d : Nat) (j : Nat) (z : SZ), L.length - j = d → (∀ x k, z.1 x = some k → k ≤ dt + 1 ∧ x < N ∧ pc x ≤ b) → CI L N b e P t0 j z.1 z.2.1 → CI L N b e P t0 L.length (sbA (L.drop j) N b t0 dt ct z).1 (sbA (L.drop j) N b t0 dt ct z).2.1 ∨ L.length < j := by
  intro d
  induction d with
  | zero =>
    intro j z hd h1 c
    rcases Nat.lt_or_ge L.length j with q | q
    · exact Or.inr q
    · have : j = L.length := by omega
      subst this
      rw [List.drop_length]
      exact Or.inl c
  | succ d ih =>
    intro j z hd h1 c
    have hj : j < L.length := by omega
    have haj : L[j]? = some L[j] := List.getElem?_eq_getElem hj
    obtain ⟨g1, g2, -⟩ := CI.step hw ht0 hP haj hct hlow h1 c
    rcases ih (j + 1) (sb1 dt ct (bef N b L[j] t0) z) (by omega) g2 g1 with q | q
    · rw [List.drop_eq_getElem_cons hj]
      exact Or.inl q
    · omega
/-- what has been counted to the end -/
theorem CI.final {L : List Act} {N b : Nat} {e : Nat → Bool} {D : Nat → Option Nat} {C : Nat → Nat} {qs : List Nat} {i t0 : Nat} (hw : ∀ a ∈ L, actW a) (bd : BD (sbS N b e) (sbE L N b) D qs i) (c : CI L N b e (qs.take i) t0 0 D C) {x k : Nat} (hx : D x = some k) (hk : ∀ y, qs[i]? = some y → k ≤ dv D y) : C x = min MR (cnt L N b e k x) := by
  cases k with
  | zero =>
    rw [c.2.2 x hx]
    obtain ⟨-, -, h⟩ := bd.2.2.2.1 x 0 hx
    show 1 = min MR (if e x = true then 1 else 0)
    rw [if_pos h]
    rfl
  | succ k =>
    rw [c.1 x k hx]
    congr 1
    show sm _ _ = sm _ _
    refine sm_congr _ fun m hm => ?_
    unfold tmm
    cases q : aftL L N b m x with
    | none => rfl
    | some t =>
      show (if t ∈ qs.take i ∨ t = t0 ∧ m < 0 then cnt L N b e k t else 0) = cnt L N b e k t
      by_cases q2 : 0 < cnt L N b e k t
      · have ht : t < N ∧ pc t ≤ b := by
          unfold aftL at q
          rw [List.getElem?_eq_getElem hm] at q
          exact aft_lt q
        obtain ⟨k', e1, hk'⟩ := bd.sound k t ((sb_gk hw k t).mpr ⟨ht.1, ht.2, q2⟩) (fun y hy => by have := hk y hy; omega)
        have hmem : t ∈ qs := (bd.2.1 t).mp (by rw [e1]; exact Option.some_ne_none _)
        obtain ⟨j, hj⟩ := List.getElem?_of_mem hmem
        have hji : j < i := by
          rcases Nat.lt_or_ge j i with w | w
          · exact w
          · obtain ⟨hl, -⟩ := List.getElem?_eq_some_iff.mp hj
            have hy : qs[i]? = some qs[i] := List.getElem?_eq_getElem (by omega)
            have h3 := hk _ hy
            have h4 := bd.mono_at w hy hj
            rw [dv_some e1] at h4
            omega
        have : t ∈ qs.take i := List.mem_of_getElem? (i := j) (by rw [List.getElem?_take_of_lt hji]; exact hj)
        rw [if_pos (Or.inl this)]
      · have : cnt L N b e k t = 0 := by omega
        rw [this]
        split <;> rfl

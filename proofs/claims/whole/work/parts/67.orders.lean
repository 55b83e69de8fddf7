/-! ===== orders in which each needed thing is made once: numbers alone ===== -/
def mayC (P : Nat → Nat) (nd made x : Nat) : Bool := nd.testBit x && !made.testBit x && decide (made &&& P x = P x)
/-- made and still full -/
def sfB (n : Nat) (P : Nat → Nat) (nd wi s x : Nat) : Bool := s.testBit x && (wi.testBit x || (List.range n).any (fun u => nd.testBit u && !s.testBit u && (P u).testBit x))
def hcn (f : Nat → Bool) : Nat → Nat
  | 0 => 0
  | x + 1 => hcn f x + if f x = true then 1 else 0
theorem hcn_congr {f g : Nat → Bool} : ∀ n, (∀ x, x < n → f x = g x) → hcn f n = hcn g n
  | 0, _ => rfl
  | n + 1, h => by
    show hcn f n + _ = hcn g n + _
    rw [hcn_congr n (fun x hx => h x (by omega)), h n (by omega)]
theorem hcn_le (f : Nat → Bool) : ∀ n, hcn f n ≤ n
  | 0 => Nat.le_refl _
  | n + 1 => by
    have := hcn_le f n
    show hcn f n + _ ≤ n + 1
    split <;> omega
/-- of what is in x and still full: something is washed when x is made -/
def frB (n : Nat) (P : Nat → Nat) (nd wi made x : Nat) : Bool := (List.range n).any (fun y => (P x).testBit y && sfB n P nd wi made y && !sfB n P nd wi (made ||| 2 ^ x) y)
/-- the bowls while x is made next -/
def ndB (n : Nat) (P : Nat → Nat) (nd wi w made x : Nat) : Nat := hcn (sfB n P nd wi made) n + if w = 1 ∧ frB n P nd wi made x = true then 0 else 1
theorem ndB_le {n : Nat} {P : Nat → Nat} {nd wi w made x : Nat} : ndB n P nd wi w made x ≤ n + 1 := by
  have := hcn_le (sfB n P nd wi made) n
  unfold ndB
  split <;> omega
def loStep (n : Nat) (P : Nat → Nat) (nd wi w made : Nat) (f : Nat → Nat) (best x : Nat) : Nat := if mayC P nd made x = true then min best (max (ndB n P nd wi w made x) (f (made ||| 2 ^ x))) else best
def LO (n : Nat) (P : Nat → Nat) (nd wi w : Nat) : Nat → Nat → Nat
  | 0, _ => 0
  | k + 1, made => (List.range n).foldl (loStep n P nd wi w made (LO n P nd wi w k)) 99
def PO (n : Nat) (P : Nat → Nat) (nd wi w best : Nat) : Nat → Nat → Nat
  | 0, _ => 1
  | k + 1, made => sm (fun x => if mayC P nd made x = true ∧ ndB n P nd wi w made x ≤ best then PO n P nd wi w best k (made ||| 2 ^ x) else 0) n
def foP (n : Nat) (P : Nat → Nat) (nd wi w best k made x : Nat) : Bool := mayC P nd made x && decide (ndB n P nd wi w made x ≤ best) && decide (0 < PO n P nd wi w best k (made ||| 2 ^ x))
def FO (n : Nat) (P : Nat → Nat) (nd wi w best : Nat) : Nat → Nat → List Nat
  | 0, _ => []
  | k + 1, made => match (List.range n).find? (foP n P nd wi w best k made) with
    | some x => x :: FO n P nd wi w best k (made ||| 2 ^ x)
    | none => []
theorem lo_fold {n : Nat} {P : Nat → Nat} {nd wi w made : Nat} {f : Nat → Nat} {c : Nat} : ∀ (l : List Nat) (b0 : Nat), l.foldl (loStep n P nd wi w made f) b0 ≤ c ↔ b0 ≤ c ∨ ∃ x, x ∈ l ∧ mayC P nd made x = true ∧ ndB n P nd wi w made x ≤ c ∧ f (made ||| 2 ^ x) ≤ c := by
  intro l
  induction l with
  | nil =>
    intro b0
    exact ⟨fun h => Or.inl h, fun h => h.elim id (fun ⟨x, hx, _⟩ => absurd hx List.not_mem_nil)⟩
  | cons y l ih =>
    intro b0
    rw [List.foldl_cons, ih]
    have e : loStep n P nd wi w made f b0 y ≤ c ↔ b0 ≤ c ∨ (mayC P nd made y = true ∧ ndB n P nd wi w made y ≤ c ∧ f (made ||| 2 ^ y) ≤ c) := by
      unfold loStep
      by_cases q : mayC P nd made y = true
      · rw [if_pos q]
        simp only [q, true_and]
        omega
      · rw [if_neg q]
        simp only [q, false_and, or_false, Bool.false_eq_true]
    rw [e]
    constructor
    · rintro ((h | h) | ⟨x, h1, h2⟩)
      · exact Or.inl h
      · exact Or.inr ⟨y, List.mem_cons_self, h⟩
      · exact Or.inr ⟨x, List.mem_cons_of_mem _ h1, h2⟩
    · rintro (h | ⟨x, h1, h2⟩)
      · exact Or.inl (Or.inl h)
      · rcases List.mem_cons.mp h1 with rfl | h1
        · exact Or.inl (Or.inr h2)
        · exact Or.inr ⟨x, h1, h2⟩
theorem LO_le {n : Nat} {P : Nat → Nat} {nd wi w k made c : Nat} (hc : c < 99) : LO n P nd wi w (k + 1) made ≤ c ↔ ∃ x, x < n ∧ mayC P nd made x = true ∧ ndB n P nd wi w made x ≤ c ∧ LO n P nd wi w k (made ||| 2 ^ x) ≤ c := by
  show (List.range n).foldl _ 99 ≤ c ↔ _
  rw [lo_fold]
  constructor
  · rintro (h | ⟨x, h1, h2⟩)
    · omega
    · exact ⟨x, List.mem_range.mp h1, h2⟩
  · rintro ⟨x, h1, h2⟩
    exact Or.inr ⟨x, List.mem_range.mpr h1, h2⟩
theorem PO_pos {n : Nat} {P : Nat → Nat} {nd wi w best : Nat} (hb : best < 99) : ∀ k made, 0 < PO n P nd wi w best k made ↔ LO n P nd wi w k made ≤ best := by
  intro k
  induction k with
  | zero => exact fun made => ⟨fun _ => Nat.zero_le _, fun _ => Nat.one_pos⟩
  | succ k ih =>
    intro made
    rw [LO_le hb]
    show 0 < sm _ n ↔ _
    rw [sm_pos]
    constructor
    · rintro ⟨x, hx, h⟩
      by_cases q : mayC P nd made x = true ∧ ndB n P nd wi w made x ≤ best
      · rw [if_pos q] at h
        exact ⟨x, hx, q.1, q.2, (ih _).mp h⟩
      · rw [if_neg q] at h
        exact absurd h (Nat.lt_irrefl 0)
    · rintro ⟨x, hx, h1, h2, h3⟩
      exact ⟨x, hx, by rw [if_pos ⟨h1, h2⟩]; exact (ih _).mpr h3⟩
theorem sm_le {f : Nat → Nat} {c : Nat} : ∀ n, (∀ i, i < n → f i ≤ c) → sm f n ≤ n * c
  | 0, _ => Nat.zero_le _
  | n + 1, h => by
    have := sm_le n (fun i hi => h i (by omega))
    have := h n (by omega)
    show sm f n + f n ≤ (n + 1) * c
    rw [Nat.succ_mul]
    omega
theorem PO_le {n : Nat} {P : Nat → Nat} {nd wi w best : Nat} (hn : n ≤ 14) : ∀ k made, PO n P nd wi w best k made ≤ 14 ^ k := by
  intro k
  induction k with
  | zero => exact fun _ => Nat.le_refl _
  | succ k ih =>
    intro made
    show sm _ n ≤ _
    have h1 := sm_le (c := 14 ^ k) (f := fun x => if mayC P nd made x = true ∧ ndB n P nd wi w made x ≤ best then PO n P nd wi w best k (made ||| 2 ^ x) else 0) n (fun i _ => by
      split
      · exact ih _
      · exact Nat.zero_le _)
    rw [Nat.pow_succ, Nat.mul_comm]
    exact Nat.le_trans h1 (Nat.mul_le_mul_right _ hn)
/-- all of what is in it is in it -/
def Dwn (n : Nat) (P : Nat → Nat) (nd made : Nat) : Prop := sub made nd ∧ ∀ x, x < n → made.testBit x = true → sub (P x) made
theorem Dwn.zero {n : Nat} {P : Nat → Nat} {nd : Nat} : Dwn n P nd 0 := by
  refine ⟨fun j hj => ?_, fun x _ hx => ?_⟩
  · rw [Nat.zero_testBit] at hj; cases hj
  · rw [Nat.zero_testBit] at hx; cases hx
theorem mayC_iff {P : Nat → Nat} {nd made x : Nat} : mayC P nd made x = true ↔ nd.testBit x = true ∧ made.testBit x = false ∧ sub (P x) made := by
  unfold mayC
  rw [Bool.and_eq_true, Bool.and_eq_true, Bool.not_eq_true', decide_eq_true_eq, sub_and, and_assoc]
theorem Dwn.add {n : Nat} {P : Nat → Nat} {nd made x : Nat} (d : Dwn n P nd made) (hx : mayC P nd made x = true) : Dwn n P nd (made ||| 2 ^ x) := by
  obtain ⟨m1, m2, m3⟩ := mayC_iff.mp hx
  have hs : sub made (made ||| 2 ^ x) := fun j hj => by rw [Nat.testBit_or, hj]; rfl
  refine ⟨fun j hj => ?_, fun y hy hj => ?_⟩
  · rw [bit_or_pow] at hj
    by_cases q : x = j
    · subst q; exact m1
    · exact d.1 j (by simpa [q] using hj)
  · rw [bit_or_pow] at hj
    by_cases q : x = y
    · subst q
      exact fun j hj => hs j (m3 j hj)
    · exact fun j hj' => hs j (d.2 y hy (by simpa [q] using hj) j hj')
/-- the rank: how many are left -/
def rk (nd made : Nat) : Nat := pc (sdf nd made)
theorem rk_add {P : Nat → Nat} {nd made x : Nat} (hx : mayC P nd made x = true) (hx9 : x < 16) : rk nd (made ||| 2 ^ x) + 1 = rk nd made := by
  obtain ⟨m1, m2, -⟩ := mayC_iff.mp hx
  unfold rk
  have e : sdf nd (made ||| 2 ^ x) = sdf (sdf nd made) (2 ^ x) := by
    apply Nat.eq_of_testBit_eq
    intro j
    rw [sdf_bit, sdf_bit, sdf_bit, Nat.testBit_or]
    cases nd.testBit j <;> cases made.testBit j <;> cases (2 ^ x).testBit j <;> rfl
  rw [e]
  exact pc_clr (by rw [sdf_bit, m1, m2]; rfl) hx9
theorem rk_zero {n nd made : Nat} {P : Nat → Nat} (hnd : nd < 65536) (d : Dwn n P nd made) : rk nd made = 0 ↔ made = nd := by
  unfold rk
  have hlt : sdf nd made < 65536 := Nat.lt_of_le_of_lt (by
    apply sub_le
    intro j hj
    rw [sdf_bit] at hj
    revert hj
    cases nd.testBit j <;> simp) hnd
  constructor
  · intro h
    have h0 : sdf nd made = 0 := by
      rcases Nat.eq_zero_or_pos (sdf nd made) with q | q
      · exact q
      · have := pc_pos (show sdf nd made ≠ 0 by omega) hlt
        omega
    have h1 : sub nd made := sub_sdf.mpr h0
    apply Nat.eq_of_testBit_eq
    intro j
    have a := d.1 j
    have b := h1 j
    revert a b
    cases made.testBit j <;> cases nd.testBit j <;> simp
  · intro h
    subst h
    have : sdf made made = 0 := sub_sdf.mp (fun j hj => hj)
    rw [this, pc_0]
/-- something can come next -/
theorem Dwn.next {n : Nat} {P : Nat → Nat} {nd made : Nat} (po : PartsOK n P) (hnd : nd < 2 ^ n) (hcl : ∀ x, x < n → nd.testBit x = true → sub (P x) nd) (d : Dwn n P nd made) (hr : rk nd made ≠ 0) : ∃ x, x < n ∧ mayC P nd made x = true := by
  have hex : ∃ x, nd.testBit x = true ∧ made.testBit x = false := by
    rcases Classical.em (∃ x, nd.testBit x = true ∧ made.testBit x = false) with q | q
    · exact q
    · exfalso
      apply hr
      have h1 : sub nd made := fun j hj => by
        cases e : made.testBit j with
        | true => rfl
        | false => exact absurd ⟨j, hj, e⟩ q
      unfold rk
      rw [sub_sdf.mp h1, pc_0]
  have key : ∀ m, (∃ x, x < m ∧ nd.testBit x = true ∧ made.testBit x = false) → ∃ x, (nd.testBit x = true ∧ made.testBit x = false) ∧ ∀ y, y < x → nd.testBit y = true → made.testBit y = true := by
    intro m
    induction m with
    | zero => rintro ⟨x, hx, _⟩; exact absurd hx (Nat.not_lt_zero _)
    | succ m ih =>
      rintro ⟨x, hx, h1, h2⟩
      by_cases q : ∃ x, x < m ∧ nd.testBit x = true ∧ made.testBit x = false
      · exact ih q
      · refine ⟨x, ⟨h1, h2⟩, fun y hy hy2 => ?_⟩
        cases e : made.testBit y with
        | true => rfl
        | false => exact absurd ⟨y, by omega, hy2, e⟩ q
  obtain ⟨x0, h1, h2⟩ := hex
  obtain ⟨x, ⟨g1, g2⟩, g3⟩ := key (x0 + 1) ⟨x0, Nat.lt_succ_self _, h1, h2⟩
  have hxn : x < n := by
    rcases Nat.lt_or_ge x n with q | q
    · exact q
    · rw [Nat.testBit_lt_two_pow (Nat.lt_of_lt_of_le hnd (p2_le q))] at g1
      cases g1
  refine ⟨x, hxn, mayC_iff.mpr ⟨g1, g2, fun j hj => g3 j ?_ (hcl x hxn g1 j hj)⟩⟩
  rcases Nat.lt_or_ge j x with q | q
  · exact q
  · rw [Nat.testBit_lt_two_pow (Nat.lt_of_lt_of_le (po.2 x hxn).1 (p2_le q))] at hj
    cases hj
theorem LO_small {n : Nat} {P : Nat → Nat} {nd wi w : Nat} (po : PartsOK n P) (hnd : nd < 2 ^ n) (hcl : ∀ x, x < n → nd.testBit x = true → sub (P x) nd) : ∀ k made, Dwn n P nd made → rk nd made = k → LO n P nd wi w k made ≤ 15 := by
  have hn := po.1
  intro k
  induction k with
  | zero => exact fun _ _ _ => Nat.zero_le _
  | succ k ih =>
    intro made d hk
    obtain ⟨x, hx, hm⟩ := d.next po hnd hcl (by omega)
    have h1 := rk_add hm (by omega)
    have h2 : ndB n P nd wi w made x ≤ n + 1 := ndB_le
    exact (LO_le (by omega)).mpr ⟨x, hx, hm, by omega, ih _ (d.add hm) (by omega)⟩
theorem FO_len {n : Nat} {P : Nat → Nat} {nd wi w best : Nat} : ∀ k made, 0 < PO n P nd wi w best k made → (FO n P nd wi w best k made).length = k := by
  intro k
  induction k with
  | zero => exact fun _ _ => rfl
  | succ k ih =>
    intro made h
    change 0 < sm _ n at h
    rw [sm_pos] at h
    obtain ⟨x, hx, h⟩ := h
    have hp : foP n P nd wi w best k made x = true := by
      by_cases q : mayC P nd made x = true ∧ ndB n P nd wi w made x ≤ best
      · rw [if_pos q] at h
        unfold foP
        rw [q.1, decide_eq_true q.2, decide_eq_true h]
        rfl
      · rw [if_neg q] at h
        exact absurd h (Nat.lt_irrefl 0)
    have hsome : ((List.range n).find? (foP n P nd wi w best k made)).isSome := List.find?_isSome.mpr ⟨x, List.mem_range.mpr hx, hp⟩
    obtain ⟨x', ex⟩ := Option.isSome_iff_exists.mp hsome
    have hp' := List.find?_some ex
    show (match (List.range n).find? (foP n P nd wi w best k made) with
      | some x => x :: FO n P nd wi w best k (made ||| 2 ^ x)
      | none => []).length = k + 1
    rw [ex]
    show (FO n P nd wi w best k (made ||| 2 ^ x')).length + 1 = k + 1
    unfold foP at hp'
    rw [Bool.and_eq_true, decide_eq_true_eq] at hp'
    rw [ih _ hp'.2]

/-! ===== acts and what can be reached: numbers alone ===== -/
/-- number, the thing made + 1 (0: none), what it needs, gains, loses -/
abbrev Act : Type := Nat × Nat × Nat × Nat × Nat
def aNd (a : Act) : Nat := a.2.2.1
def aGn (a : Act) : Nat := a.2.2.2.1
def aLs (a : Act) : Nat := a.2.2.2.2
/-- what is full behind an act, of N sets, with b bowls -/
def aft (N b : Nat) (a : Act) (s : Nat) : Option Nat := if s &&& (aNd a ||| aGn a) = aNd a then (if sdf (s ||| aGn a) (aLs a) < N ∧ pc (sdf (s ||| aGn a) (aLs a)) ≤ b then some (sdf (s ||| aGn a) (aLs a)) else none) else none
theorem aft_lt {N b s t : Nat} {a : Act} (h : aft N b a s = some t) : t < N ∧ pc t ≤ b := by
  unfold aft at h
  split at h
  · split at h
    · next q => cases h; exact q
    · cases h
  · cases h
theorem aft_mono {N b b' s t : Nat} {a : Act} (hb : b ≤ b') (h : aft N b a s = some t) : aft N b' a s = some t := by
  unfold aft at h ⊢
  split at h
  · next q =>
    rw [if_pos q]
    split at h
    · next q2 => rw [if_pos ⟨q2.1, Nat.le_trans q2.2 hb⟩]; exact h
    · cases h
  · cases h
theorem aft_down {N b b' s t : Nat} {a : Act} (h : aft N b' a s = some t) (hb : pc t ≤ b) : aft N b a s = some t := by
  have h1 := aft_lt h
  unfold aft at h ⊢
  split at h
  · next q =>
    rw [if_pos q]
    split at h
    · next q2 => cases h; rw [if_pos ⟨h1.1, hb⟩]
    · cases h
  · cases h
def RchK (L : List Act) (N b : Nat) : Nat → Nat → Prop
  | 0, s => s = 0
  | k + 1, s => ∃ t a, RchK L N b k t ∧ a ∈ L ∧ aft N b a t = some s
def Rch (L : List Act) (N b s : Nat) : Prop := ∃ k, RchK L N b k s
theorem Rch.z (L : List Act) (N b : Nat) : Rch L N b 0 := ⟨0, rfl⟩
theorem Rch.st {L : List Act} {N b s t : Nat} {a : Act} (h : Rch L N b s) (ha : a ∈ L) (hs : aft N b a s = some t) : Rch L N b t := by
  obtain ⟨k, h⟩ := h
  exact ⟨k + 1, s, a, h, ha, hs⟩
theorem RchK.mono {L : List Act} {N b b' : Nat} (hb : b ≤ b') : ∀ (k s : Nat), RchK L N b k s → RchK L N b' k s
  | 0, _, h => h
  | k + 1, _, ⟨t, a, h1, h2, h3⟩ => ⟨t, a, RchK.mono hb k t h1, h2, aft_mono hb h3⟩
theorem Rch.mono {L : List Act} {N b b' s : Nat} (hb : b ≤ b') (h : Rch L N b s) : Rch L N b' s := ⟨h.choose, RchK.mono hb _ _ h.choose_spec⟩
theorem Rch.le {L : List Act} {N b s : Nat} (h : Rch L N b s) (hN : 0 < N) : s < N ∧ pc s ≤ b := by
  obtain ⟨k, h⟩ := h
  cases k with
  | zero => cases h; exact ⟨hN, by rw [pc_0]; exact Nat.zero_le _⟩
  | succ k =>
    obtain ⟨t, a, -, -, h3⟩ := h
    exact aft_lt h3
/-- closed sets hold all that can be reached -/
theorem Rch.in {L : List Act} {N b : Nat} (S : Nat → Prop) (h0 : S 0) (hc : ∀ s t a, S s → a ∈ L → aft N b a s = some t → S t) : ∀ s, Rch L N b s → S s := by
  rintro s ⟨k, h⟩
  induction k generalizing s with
  | zero => cases h; exact h0
  | succ k ih =>
    obtain ⟨t, a, h1, h2, h3⟩ := h
    exact hc t s a (ih t h1) h2 h3
/-! a worklist -/
abbrev WL : Type := (Nat → Bool) × List Nat
def ex1 (N b s : Nat) (z : WL) (a : Act) : WL := match aft N b a s with
  | some t => if z.1 t = true then z else (fun x => if x = t then true else z.1 x, z.2 ++ [t])
  | none => z
def exA (L : List Act) (N b s : Nat) (z : WL) : WL := L.foldl (ex1 N b s) z
/-- what a look at the acts of s adds -/
def Adds (L : List Act) (N b s : Nat) (z z' : WL) (nw : List Nat) : Prop := z'.2 = z.2 ++ nw ∧ nw.Nodup ∧ (∀ x, z'.1 x = true ↔ z.1 x = true ∨ x ∈ nw) ∧ (∀ x ∈ nw, z.1 x = false ∧ ∃ a ∈ L, aft N b a s = some x) ∧ ∀ a ∈ L, ∀ t, aft N b a s = some t → z'.1 t = true
theorem exA_adds (N b s : Nat) : ∀ (L : List Act) (z : WL), ∃ nw, Adds L N b s z (exA L N b s z) nw
  | [], z => ⟨[], by simp [exA], List.nodup_nil, fun x => by simp [exA], fun x h => by simp at h, fun a h => by simp at h⟩
  | a :: L, z => by
    obtain ⟨nw, h1, h2, h3, h4, h5⟩ := exA_adds N b s L (ex1 N b s z a)
    have e : exA (a :: L) N b s z = exA L N b s (ex1 N b s z a) := rfl
    rw [e]
    unfold ex1 at h1 h3 h4 h5 ⊢
    cases ht : aft N b a s with
    | none =>
      simp only [ht] at h1 h3 h4 h5 ⊢
      refine ⟨nw, h1, h2, h3, fun x hx => ⟨(h4 x hx).1, ?_⟩, fun a' ha' t hta => ?_⟩
      · obtain ⟨a', q1, q2⟩ := (h4 x hx).2
        exact ⟨a', List.mem_cons_of_mem _ q1, q2⟩
      · rcases List.mem_cons.mp ha' with rfl | q
        · rw [ht] at hta; cases hta
        · exact h5 a' q t hta
    | some t =>
      simp only [ht] at h1 h3 h4 h5 ⊢
      by_cases hz : z.1 t = true
      · simp only [hz, if_true] at h1 h3 h4 h5 ⊢
        refine ⟨nw, h1, h2, h3, fun x hx => ⟨(h4 x hx).1, ?_⟩, fun a' ha' t' hta => ?_⟩
        · obtain ⟨a', q1, q2⟩ := (h4 x hx).2
          exact ⟨a', List.mem_cons_of_mem _ q1, q2⟩
        · rcases List.mem_cons.mp ha' with rfl | q
          · rw [ht] at hta; cases hta; exact (h3 t).mpr (Or.inl hz)
          · exact h5 a' q t' hta
      · simp only [hz, Bool.false_eq_true, if_false] at h1 h3 h4 h5 ⊢
        have hz' : z.1 t = false := by simpa using hz
        refine ⟨t :: nw, by rw [h1]; simp, List.nodup_cons.mpr ⟨fun q => ?_, h2⟩, fun x => ?_, fun x hx => ?_, fun a' ha' t' hta => ?_⟩
        · have := (h4 t q).1
          simp at this
        · rw [h3 x]
          by_cases hx : x = t
          · subst hx; simp
          · simp [hx]
        · rcases List.mem_cons.mp hx with rfl | q
          · exact ⟨hz', a, List.mem_cons_self, ht⟩
          · have h9 := (h4 x q).1
            have hxt : x ≠ t := fun e => by subst e; simp at h9
            simp only [hxt, if_false] at h9
            obtain ⟨a', q1, q2⟩ := (h4 x q).2
            exact ⟨h9, a', List.mem_cons_of_mem _ q1, q2⟩
        · rcases List.mem_cons.mp ha' with rfl | q
          · rw [ht] at hta; cases hta; exact (h3 t).mpr (Or.inl (by simp))
          · exact h5 a' q t' hta

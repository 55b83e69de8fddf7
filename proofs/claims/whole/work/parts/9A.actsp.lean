/-! ===== rows of least acts, from the front: numbers alone ===== -/
section Ap
variable {L : List Act} {N b : Nat} {e : Nat → Bool} {D : Nat → Option Nat} {qs : List Nat} {o : Option Nat}
theorem cnt_fwd : ∀ k x c, RchK L N b k x → 0 < cnt L N b e c x → 0 < cnt L N b e (k + c) 0 := by
  intro k
  induction k with
  | zero =>
    intro x c h1 h2
    have : x = 0 := h1
    subst this
    rw [Nat.zero_add]
    exact h2
  | succ k ih =>
    rintro x c ⟨t, a, h1, ha, h3⟩ h2
    have := ih t (c + 1) h1 (cnt_pos.mpr ⟨a, x, ha, h3, h2⟩)
    rw [show k + 1 + c = k + (c + 1) by omega]
    exact this
/-- what an act leads to is no more than one further -/
theorem SpI.nxt (si : SpI L N b e D qs qs.length o) {s t : Nat} {a : Act} (hs : s ∈ qs) (ha : a ∈ L) (h : aft N b a s = some t) : ∃ k, D t = some k ∧ k ≤ dv D s + 1 ∧ t ∈ qs := by
  obtain ⟨j, hj⟩ := List.getElem?_of_mem hs
  obtain ⟨hl, -⟩ := List.getElem?_eq_some_iff.mp hj
  obtain ⟨k, h1, h2⟩ := si.1.2.2.2.2.2.2 j s t hl hj (List.mem_filterMap.mpr ⟨a, ha, h⟩)
  exact ⟨k, h1, h2, (si.1.2.1 t).mp (by rw [h1]; exact Option.some_ne_none _)⟩
theorem SpI.cnt0 (si : SpI L N b e D qs qs.length o) {best : Nat} (hb : ∀ y, y ∈ qs → e y = true → best ≤ dv D y) : ∀ j t, t ∈ qs → dv D t + j < best → cnt L N b e j t = 0 := by
  intro j
  induction j with
  | zero =>
    intro t ht hlt
    show (if e t = true then 1 else 0) = 0
    by_cases q : e t = true
    · have := hb t ht q
      omega
    · rw [if_neg q]
  | succ j ih =>
    intro t ht hlt
    rcases Nat.eq_zero_or_pos (cnt L N b e (j + 1) t) with q | q
    · exact q
    · obtain ⟨a, t', ha, h1, h2⟩ := cnt_pos.mp q
      obtain ⟨k, k1, k2, k3⟩ := si.nxt ht ha h1
      have := ih t' k3 (by rw [dv_some k1]; omega)
      omega
theorem SpI.noCnt (si : SpI L N b e D qs qs.length none) (h0 : 0 ∈ qs) (j : Nat) : cnt L N b e j 0 = 0 := by
  refine si.cnt0 (best := dv D 0 + j + 1) (fun y hy he => ?_) j 0 h0 (by omega)
  rw [si.2.2.2.1 rfl y hy] at he
  cases he
theorem SpI.zero (si : SpI L N b e D qs qs.length o) : 0 ∈ qs ∧ D 0 = some 0 := by
  have h := si.1.2.2.1 0 rfl
  exact ⟨(si.1.2.1 0).mp (by rw [h]; exact Option.some_ne_none _), h⟩
theorem SpI.lac {best : Nat} (si : SpI L N b e D qs qs.length (some best)) : LAc L N b e best := by
  obtain ⟨⟨x, x1, x2, x3⟩, x4⟩ := si.2.2.2.2 best rfl
  refine ⟨?_, fun j hj => ?_⟩
  · have h1 := (gk_rch best x).mp (si.1.2.2.2.1 x best x3)
    refine cnt_fwd best x 0 h1 ?_
    show 0 < (if e x = true then 1 else 0)
    rw [if_pos x2]
    exact Nat.one_pos
  · refine si.cnt0 x4 j 0 si.zero.1 ?_
    rw [dv_some si.zero.2]
    omega
/-- the rows from a set on, capped -/
def rfv (L : List Act) (N b : Nat) (e : Nat → Bool) (D : Nat → Option Nat) (best s : Nat) : Nat := if dv D s ≤ best then min MR (cnt L N b e (best - dv D s) s) else 0
/-- one act's share -/
def rft (L : List Act) (N b : Nat) (e : Nat → Bool) (D : Nat → Option Nat) (best s m : Nat) : Nat := match aftL L N b m s with
  | some t => if D t = some (dv D s + 1) then cnt L N b e (best - (dv D s + 1)) t else 0
  | none => 0
theorem SpI.rec {best : Nat} (si : SpI L N b e D qs qs.length (some best)) {s : Nat} (hs : s ∈ qs) (hlt : dv D s < best) : cnt L N b e (best - dv D s) s = sm (rft L N b e D best s) L.length := by
  obtain ⟨-, x4⟩ := si.2.2.2.2 best rfl
  have e1 : best - dv D s = (best - (dv D s + 1)) + 1 := by omega
  rw [e1]
  show sm _ _ = _
  refine sm_congr _ fun m hm => ?_
  unfold rft aftL
  rw [List.getElem?_eq_getElem hm]
  show (match aft N b L[m] s with
    | some t => cnt L N b e (best - (dv D s + 1)) t
    | none => 0) = match aft N b L[m] s with
    | some t => if D t = some (dv D s + 1) then cnt L N b e (best - (dv D s + 1)) t else 0
    | none => 0
  cases q : aft N b L[m] s with
  | none => rfl
  | some t =>
    obtain ⟨k, k1, k2, k3⟩ := si.nxt hs (List.getElem_mem hm) q
    dsimp only
    by_cases q2 : D t = some (dv D s + 1)
    · rw [if_pos q2]
    · rw [if_neg q2]
      have hk : k ≠ dv D s + 1 := fun z => q2 (by rw [k1, z])
      exact si.cnt0 x4 _ t k3 (by rw [dv_some k1]; omega)
theorem min_add (a c : Nat) : min MR (min MR a + min MR c) = min MR (a + c) := by omega
/-- the look for the next act of the first row -/
theorem SpI.st {best : Nat} (si : SpI L N b e D qs qs.length (some best)) {s : Nat} (hs : s ∈ qs) (hlt : dv D s < best) {a : Act} (ha : a ∈ L) : stA1 L N b e (best - (dv D s + 1)) s a = true ↔ ∃ t, aft N b a s = some t ∧ D t = some (dv D s + 1) ∧ rfv L N b e D best t ≠ 0 := by
  obtain ⟨-, x4⟩ := si.2.2.2.2 best rfl
  unfold stA1
  cases q : aft N b a s with
  | none =>
    constructor
    · intro h
      cases h
    · rintro ⟨t, h, -⟩
      cases h
  | some t =>
    obtain ⟨k, k1, k2, k3⟩ := si.nxt hs ha q
    dsimp only
    rw [decide_eq_true_eq]
    constructor
    · intro h
      have hk : k = dv D s + 1 := by
        rcases Nat.lt_or_ge k (dv D s + 1) with z | z
        · have := si.cnt0 x4 (best - (dv D s + 1)) t k3 (by rw [dv_some k1]; omega)
          omega
        · omega
      refine ⟨t, rfl, by rw [k1, hk], ?_⟩
      unfold rfv
      rw [dv_some k1, hk, if_pos (by omega)]
      unfold MR
      omega
    · rintro ⟨t', ht, h1, h2⟩
      cases ht
      unfold rfv at h2
      rw [dv_some h1, if_pos (by omega)] at h2
      omega
theorem find_first {p : Act → Bool} : ∀ (l : List Act), (∃ a, a ∈ l ∧ p a = true) → ∃ (m : Nat) (a : Act), l[m]? = some a ∧ p a = true ∧ (∀ (m' : Nat) (a' : Act), m' < m → l[m']? = some a' → p a' = false) ∧ l.find? p = some a := by
  intro l
  induction l with
  | nil =>
    rintro ⟨a, h, -⟩
    cases h
  | cons x l ih =>
    rintro ⟨a, h1, h2⟩
    by_cases q : p x = true
    · exact ⟨0, x, rfl, q, fun m' a' h => absurd h (Nat.not_lt_zero _), by simp [q]⟩
    · have q' : p x = false := by simpa using q
      obtain ⟨m, a', g1, g2, g3, g4⟩ := ih (by
        rcases List.mem_cons.mp h1 with rfl | z
        · exact absurd h2 q
        · exact ⟨a, z, h2⟩)
      refine ⟨m + 1, a', g1, g2, fun m' b' hm hb => ?_, by simp [q', g4]⟩
      cases m' with
      | zero =>
        have : x = b' := by simpa using hb
        rw [← this]
        exact q'
      | succ m' => exact g3 m' b' (by omega) hb
end Ap

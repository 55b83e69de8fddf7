/-! ===== lists of states: what visits add; carryings, in numbers ===== -/
def adj (qs : List Nat) (c : Nat) : List Nat := if c ∈ qs then qs else qs ++ [c]
theorem adj_adds : ∀ (T : List Nat) (qs : List Nat), ∃ nw, T.foldl adj qs = qs ++ nw ∧ (qs.Nodup → (qs ++ nw).Nodup) ∧ (∀ y, y ∈ nw → y ∈ T) ∧ ∀ c, c ∈ T → c ∈ qs ++ nw := by
  intro T
  induction T with
  | nil => exact fun qs => ⟨[], by simp, by simp, fun y hy => absurd hy List.not_mem_nil, fun c hc => absurd hc List.not_mem_nil⟩
  | cons c T ih =>
    intro qs
    rw [List.foldl_cons]
    obtain ⟨nw, h1, h2, h3, h4⟩ := ih (adj qs c)
    by_cases q : c ∈ qs
    · have e : adj qs c = qs := by unfold adj; rw [if_pos q]
      rw [e] at h1 h2 h4 ⊢
      exact ⟨nw, h1, h2, fun y hy => List.mem_cons_of_mem _ (h3 y hy), fun c' hc' => by
        rcases List.mem_cons.mp hc' with rfl | z
        · exact List.mem_append_left _ q
        · exact h4 c' z⟩
    · have e : adj qs c = qs ++ [c] := by unfold adj; rw [if_neg q]
      rw [e] at h1 h2 h4 ⊢
      refine ⟨c :: nw, by rw [h1, List.append_assoc]; rfl, fun hn => ?_, fun y hy => ?_, fun c' hc' => ?_⟩
      · have := h2 (by
          rw [List.nodup_append]
          refine ⟨hn, by simp, fun a ha b hb e => ?_⟩
          have : b = c := by simpa using hb
          exact q (by rw [← this, ← e]; exact ha))
        rw [List.append_assoc] at this
        exact this
      · rcases List.mem_cons.mp hy with rfl | z
        · exact List.mem_cons_self
        · exact List.mem_cons_of_mem _ (h3 y z)
      · rcases List.mem_cons.mp hc' with rfl | z
        · exact List.mem_append_right _ List.mem_cons_self
        · have := h4 c' z
          rw [List.append_assoc] at this
          exact this
theorem vis_adj {mo : Nat} {X : List Nat} (hX : X.length ≤ mo) : ∀ (T : List Nat) (qs : List Nat), qs.Nodup → (∀ c, c ∈ qs → c ∈ X) → (∀ c, c ∈ T → c ∈ X) → T.foldl (vis mo) qs = T.foldl adj qs := by
  intro T
  induction T with
  | nil => exact fun _ _ _ _ => rfl
  | cons c T ih =>
    intro qs hn hq hT
    rw [List.foldl_cons, List.foldl_cons]
    have e : vis mo qs c = adj qs c := by
      unfold vis adj
      by_cases z : c ∈ qs
      · rw [if_pos (Or.inl z), if_pos z]
      · rw [if_neg z, if_neg]
        rintro (w | w)
        · exact z w
        · have := List.Nodup.length_le_of_subset (l₁ := c :: qs) (l₂ := X) (List.nodup_cons.mpr ⟨z, hn⟩) (fun y hy => by
            rcases List.mem_cons.mp hy with rfl | v
            · exact hT y List.mem_cons_self
            · exact hq y v)
          rw [List.length_cons] at this
          omega
    rw [e]
    have hcX := hT c List.mem_cons_self
    refine ih _ ?_ ?_ (fun y hy => hT y (List.mem_cons_of_mem _ hy))
    · unfold adj
      split
      · exact hn
      · next z =>
        rw [List.nodup_append]
        refine ⟨hn, by simp, fun a ha b hb e => ?_⟩
        have : b = c := by simpa using hb
        exact z (by rw [← this, ← e]; exact ha)
    · intro y hy
      unfold adj at hy
      split at hy
      · exact hq y hy
      · rcases List.mem_append.mp hy with v | v
        · exact hq y v
        · have : y = c := by simpa using v
          rw [this]
          exact hcX
/-- closed under steps -/
def clo (T : Nat → List Nat) (S : Nat → Prop) (t : Nat) : Prop := ∃ k, GK S (fun s t => t ∈ T s) k t
theorem clo.of {T : Nat → List Nat} {S : Nat → Prop} {t : Nat} (h : S t) : clo T S t := ⟨0, h⟩
theorem clo.st {T : Nat → List Nat} {S : Nat → Prop} {s t : Nat} (h : clo T S s) (ht : t ∈ T s) : clo T S t := by
  obtain ⟨k, hk⟩ := h
  exact ⟨k + 1, s, hk, ht⟩
theorem clo.in {T : Nat → List Nat} {S : Nat → Prop} (W : Nat → Prop) (h0 : ∀ t, S t → W t) (hc : ∀ s t, W s → t ∈ T s → W t) : ∀ t, clo T S t → W t := by
  rintro t ⟨k, hk⟩
  induction k generalizing t with
  | zero => exact h0 t hk
  | succ k ih =>
    obtain ⟨s, hs, ht⟩ := hk
    exact hc s t (ih s hs) ht
/-- reached with k carryings -/
def Cy (pl ca : Nat → List Nat) (s0 : Nat) : Nat → Nat → Prop
  | 0 => clo pl (fun s => s = s0)
  | k + 1 => clo pl (fun t => ∃ s, Cy pl ca s0 k s ∧ t ∈ ca s)
theorem Cy.pl {pl ca : Nat → List Nat} {s0 s t : Nat} : ∀ {k : Nat}, Cy pl ca s0 k s → t ∈ pl s → Cy pl ca s0 k t
  | 0, h, ht => clo.st h ht
  | _ + 1, h, ht => clo.st h ht
/-- the answer -/
def CyR (pl ca : Nat → List Nat) (s0 : Nat) (e : Nat → Bool) (r : Int32) : Prop := (r = -1 ∧ ∀ k s, Cy pl ca s0 k s → e s = false) ∨ ∃ k, r = nI k ∧ k ≤ 65536 ∧ (∃ s, Cy pl ca s0 k s ∧ e s = true) ∧ ∀ j, j < k → ∀ s, Cy pl ca s0 j s → e s = false
theorem CyR.uniq {pl ca : Nat → List Nat} {s0 : Nat} {e : Nat → Bool} {r r' : Int32} (h : CyR pl ca s0 e r) (h' : CyR pl ca s0 e r') : r = r' := by
  rcases h with ⟨rfl, h⟩ | ⟨k, rfl, -, ⟨s, h1, h2⟩, h3⟩
  · rcases h' with ⟨rfl, -⟩ | ⟨k', -, -, ⟨s', h1', h2'⟩, -⟩
    · rfl
    · rw [h k' s' h1'] at h2'; cases h2'
  · rcases h' with ⟨-, h'⟩ | ⟨k', rfl, -, ⟨s', h1', h2'⟩, h3'⟩
    · rw [h' k s h1] at h2; cases h2
    · rcases Nat.lt_trichotomy k k' with q | q | q
      · rw [h3' k q s h1] at h2; cases h2
      · rw [q]
      · rw [h3 k' q s' h1'] at h2'; cases h2'
/-- the search at the beginning of the carrying k: what stands before fr is done -/
def CL (pl ca : Nat → List Nat) (s0 : Nat) (e : Nat → Bool) (k fr : Nat) (qs : List Nat) : Prop :=
  qs.Nodup ∧ fr ≤ qs.length ∧ (∀ s, s ∈ qs.take fr ↔ ∃ j, j < k ∧ Cy pl ca s0 j s) ∧ (∀ s, s ∈ qs → (∃ j, j < k ∧ Cy pl ca s0 j s) ∨ Cy pl ca s0 k s) ∧ (s0 ∈ qs) ∧ (∀ j s t, j < k → Cy pl ca s0 j s → t ∈ ca s → t ∈ qs) ∧ (∀ j s, j < k → Cy pl ca s0 j s → e s = false) ∧ k ≤ fr
theorem CL.stop {pl ca : Nat → List Nat} {s0 : Nat} {e : Nat → Bool} {k fr : Nat} {qs : List Nat} (c : CL pl ca s0 e k fr qs) (h : qs.length ≤ fr) : CyR pl ca s0 e (-1) := by
  obtain ⟨c1, c2, c3, c4, c5, c6, c7, c8⟩ := c
  have hall : qs.take fr = qs := List.take_of_length_le h
  rw [hall] at c3
  refine Or.inl ⟨rfl, ?_⟩
  have key : ∀ k' s, Cy pl ca s0 k' s → s ∈ qs := by
    intro k'
    induction k' with
    | zero =>
      refine clo.in (fun s => s ∈ qs) (fun t ht => by rw [ht]; exact c5) fun s t hs ht => ?_
      obtain ⟨j, hj, hc⟩ := (c3 s).mp hs
      exact (c3 t).mpr ⟨j, hj, hc.pl ht⟩
    | succ k' ih =>
      refine clo.in (fun s => s ∈ qs) (fun t ht => ?_) fun s t hs ht => ?_
      · obtain ⟨s, h1, h2⟩ := ht
        obtain ⟨j, hj, hc⟩ := (c3 s).mp (ih s h1)
        exact c6 j s t hj hc h2
      · obtain ⟨j, hj, hc⟩ := (c3 s).mp hs
        exact (c3 t).mpr ⟨j, hj, hc.pl ht⟩
  intro k' s hs
  obtain ⟨j, hj, hc⟩ := (c3 s).mp (key k' s hs)
  exact c7 j s hj hc
theorem CL.start {pl ca : Nat → List Nat} {s0 : Nat} {e : Nat → Bool} : CL pl ca s0 e 0 0 [s0] := by
  refine ⟨by simp, Nat.zero_le _, fun s => ⟨fun h => by simp at h, fun ⟨j, hj, _⟩ => absurd hj (Nat.not_lt_zero _)⟩, fun s hs => Or.inr ?_, by simp, fun j s t hj => absurd hj (Nat.not_lt_zero _), fun j s hj => absurd hj (Nat.not_lt_zero _), Nat.le_refl _⟩
  have : s = s0 := by simpa using hs
  exact clo.of this
/-- making and washing: i is the next to be looked at -/
def CA1 (pl ca : Nat → List Nat) (s0 : Nat) (e : Nat → Bool) (k fr i : Nat) (qs : List Nat) : Prop := CL pl ca s0 e k fr qs ∧ fr ≤ i ∧ i ≤ qs.length ∧ ∀ s, s ∈ qs.take i → ∀ t, t ∈ pl s → t ∈ qs
theorem CL.a1 {pl ca : Nat → List Nat} {s0 : Nat} {e : Nat → Bool} {k fr : Nat} {qs : List Nat} (c : CL pl ca s0 e k fr qs) : CA1 pl ca s0 e k fr fr qs := by
  refine ⟨c, Nat.le_refl _, c.2.1, fun s hs t ht => ?_⟩
  obtain ⟨j, hj, hc⟩ := (c.2.2.1 s).mp hs
  exact List.mem_of_mem_take ((c.2.2.1 t).mpr ⟨j, hj, hc.pl ht⟩)
theorem take_app {qs nw : List Nat} {i : Nat} (h : i ≤ qs.length) : (qs ++ nw).take i = qs.take i := List.take_append_of_le_length h
theorem CA1.step {pl ca : Nat → List Nat} {s0 : Nat} {e : Nat → Bool} {k fr i x : Nat} {qs : List Nat} (c : CA1 pl ca s0 e k fr i qs) (hx : qs[i]? = some x) : CA1 pl ca s0 e k fr (i + 1) ((pl x).foldl adj qs) := by
  obtain ⟨⟨c1, c2, c3, c4, c5, c6, c7, c8⟩, d1, d2, d3⟩ := c
  obtain ⟨nw, h1, h2, h3, h4⟩ := adj_adds (pl x) qs
  have hil : i < qs.length := by
    obtain ⟨hl, -⟩ := List.getElem?_eq_some_iff.mp hx
    exact hl
  have hxm := List.mem_of_getElem? hx
  rw [h1]
  refine ⟨⟨h2 c1, by rw [List.length_append]; omega, ?_, fun s hs => ?_, List.mem_append_left _ c5, fun j s t hj hc ht => List.mem_append_left _ (c6 j s t hj hc ht), c7, c8⟩, by omega, by rw [List.length_append]; omega, fun s hs t ht => ?_⟩
  · rw [take_app c2]
    exact c3
  · rcases List.mem_append.mp hs with z | z
    · exact c4 s z
    · have hp := h3 s z
      rcases c4 x hxm with ⟨j, hj, hc⟩ | hc
      · exact Or.inl ⟨j, hj, hc.pl hp⟩
      · exact Or.inr (hc.pl hp)
  · rw [take_app (by omega), List.take_add_one, hx] at hs
    rcases List.mem_append.mp hs with z | z
    · exact List.mem_append_left _ (d3 s z t ht)
    · have : s = x := by simpa using z
      rw [this] at ht
      exact h4 t ht
theorem CA1.done {pl ca : Nat → List Nat} {s0 : Nat} {e : Nat → Bool} {k fr i : Nat} {qs : List Nat} (c : CA1 pl ca s0 e k fr i qs) (hi : qs.length ≤ i) : ∀ s, s ∈ qs ↔ ∃ j, j < k + 1 ∧ Cy pl ca s0 j s := by
  obtain ⟨⟨c1, c2, c3, c4, c5, c6, c7, c8⟩, d1, d2, d3⟩ := c
  rw [List.take_of_length_le hi] at d3
  intro s
  constructor
  · intro hs
    rcases c4 s hs with ⟨j, hj, hc⟩ | hc
    · exact ⟨j, by omega, hc⟩
    · exact ⟨k, by omega, hc⟩
  · rintro ⟨j, hj, hc⟩
    rcases Nat.lt_or_ge j k with z | z
    · exact List.mem_of_mem_take ((c3 s).mpr ⟨j, z, hc⟩)
    · have : j = k := by omega
      subst this
      have hseed : ∀ t, (match j with
        | 0 => fun s => s = s0
        | j + 1 => fun t => ∃ s, Cy pl ca s0 j s ∧ t ∈ ca s) t → t ∈ qs := by
        cases j with
        | zero => exact fun t ht => by rw [show t = s0 from ht]; exact c5
        | succ j => exact fun t ⟨s', h1, h2⟩ => c6 j s' t (by omega) h1 h2
      cases j with
      | zero => exact clo.in (fun s => s ∈ qs) hseed (fun s t hs ht => d3 s hs t ht) s hc
      | succ j => exact clo.in (fun s => s ∈ qs) hseed (fun s t hs ht => d3 s hs t ht) s hc
/-- carrying: until un all are of k carryings at most; i is the next -/
def CB1 (pl ca : Nat → List Nat) (s0 : Nat) (e : Nat → Bool) (k fr un i : Nat) (qs : List Nat) : Prop :=
  qs.Nodup ∧ un ≤ qs.length ∧ fr ≤ i ∧ i ≤ un ∧ (∀ s, s ∈ qs.take un ↔ ∃ j, j < k + 1 ∧ Cy pl ca s0 j s) ∧ (∀ s, s ∈ qs → (∃ j, j < k + 1 ∧ Cy pl ca s0 j s) ∨ Cy pl ca s0 (k + 1) s) ∧ (∀ s, s ∈ qs.take fr ↔ ∃ j, j < k ∧ Cy pl ca s0 j s) ∧ s0 ∈ qs ∧ (∀ j s t, j < k → Cy pl ca s0 j s → t ∈ ca s → t ∈ qs) ∧ (∀ j s, j < k → Cy pl ca s0 j s → e s = false) ∧ k ≤ fr ∧ fr < un ∧ (∀ s, s ∈ qs.take i → (∀ t, t ∈ ca s → t ∈ qs) ∧ e s = false)
theorem CA1.b1 {pl ca : Nat → List Nat} {s0 : Nat} {e : Nat → Bool} {k fr i : Nat} {qs : List Nat} (c : CA1 pl ca s0 e k fr i qs) (hi : qs.length ≤ i) (hfr : fr < qs.length) : CB1 pl ca s0 e k fr qs.length fr qs := by
  have hd := c.done hi
  obtain ⟨⟨c1, c2, c3, c4, c5, c6, c7, c8⟩, d1, d2, d3⟩ := c
  refine ⟨c1, Nat.le_refl _, Nat.le_refl _, c2, by rw [List.take_length]; exact hd, fun s hs => Or.inl ((hd s).mp hs), c3, c5, c6, c7, c8, hfr, fun s hs => ?_⟩
  obtain ⟨j, hj, hc⟩ := (c3 s).mp hs
  exact ⟨fun t ht => c6 j s t hj hc ht, c7 j s hj hc⟩
theorem CB1.step {pl ca : Nat → List Nat} {s0 : Nat} {e : Nat → Bool} {k fr un i x : Nat} {qs : List Nat} (c : CB1 pl ca s0 e k fr un i qs) (hi : i < un) (hx : qs[i]? = some x) (he : e x = false) : CB1 pl ca s0 e k fr un (i + 1) ((ca x).foldl adj qs) := by
  obtain ⟨c1, c2, c3, c4, c5, c6, c7, c8, c9, c10, c11, c12, c13⟩ := c
  obtain ⟨nw, h1, h2, h3, h4⟩ := adj_adds (ca x) qs
  have hxt : x ∈ qs.take un := List.mem_of_getElem? (i := i) (by rw [List.getElem?_take_of_lt hi]; exact hx)
  obtain ⟨j0, hj0, hc0⟩ := (c5 x).mp hxt
  rw [h1]
  refine ⟨h2 c1, by rw [List.length_append]; omega, by omega, by omega, by rw [take_app c2]; exact c5, fun s hs => ?_, by rw [take_app (by omega)]; exact c7, List.mem_append_left _ c8, fun j s t hj hc ht => List.mem_append_left _ (c9 j s t hj hc ht), c10, c11, c12, fun s hs => ?_⟩
  · rcases List.mem_append.mp hs with z | z
    · exact c6 s z
    · have hp := h3 s z
      rcases Nat.lt_or_ge j0 k with w | w
      · exact c6 s (c9 j0 x s w hc0 hp)
      · have : j0 = k := by omega
        subst this
        exact Or.inr (clo.of ⟨x, hc0, hp⟩)
  · rw [take_app (by omega), List.take_add_one, hx] at hs
    rcases List.mem_append.mp hs with z | z
    · exact ⟨fun t ht => List.mem_append_left _ ((c13 s z).1 t ht), (c13 s z).2⟩
    · have : s = x := by simpa using z
      rw [this]
      exact ⟨fun t ht => h4 t ht, he⟩
theorem CB1.found {pl ca : Nat → List Nat} {s0 : Nat} {e : Nat → Bool} {k fr un i x : Nat} {qs : List Nat} (c : CB1 pl ca s0 e k fr un i qs) (hi : i < un) (hx : qs[i]? = some x) (he : e x = true) (hk : k ≤ 65536) : CyR pl ca s0 e (nI k) := by
  obtain ⟨c1, c2, c3, c4, c5, c6, c7, c8, c9, c10, c11, c12, c13⟩ := c
  have hxt : x ∈ qs.take un := List.mem_of_getElem? (i := i) (by rw [List.getElem?_take_of_lt hi]; exact hx)
  obtain ⟨j0, hj0, hc0⟩ := (c5 x).mp hxt
  rcases Nat.lt_or_ge j0 k with w | w
  · rw [c10 j0 x w hc0] at he; cases he
  · have : j0 = k := by omega
    subst this
    exact Or.inr ⟨j0, rfl, hk, ⟨x, hc0, he⟩, fun j hj s hc => c10 j s hj hc⟩
theorem CB1.next {pl ca : Nat → List Nat} {s0 : Nat} {e : Nat → Bool} {k fr un : Nat} {qs : List Nat} (c : CB1 pl ca s0 e k fr un un qs) : CL pl ca s0 e (k + 1) un qs := by
  obtain ⟨c1, c2, c3, c4, c5, c6, c7, c8, c9, c10, c11, c12, c13⟩ := c
  refine ⟨c1, c2, c5, c6, c8, fun j s t hj hc ht => ?_, fun j s hj hc => ?_, by omega⟩
  · exact (c13 s ((c5 s).mpr ⟨j, hj, hc⟩)).1 t ht
  · exact (c13 s ((c5 s).mpr ⟨j, hj, hc⟩)).2

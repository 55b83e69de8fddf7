/-! ===== the least sum: in numbers ===== -/
/-- walks with their sums -/
def WCk (L : List Act) (N b : Nat) (pr : Act → Nat) : Nat → Nat → Nat → Prop
  | 0, c, s => c = 0 ∧ s = 0
  | k + 1, c, t => ∃ c0 s a, WCk L N b pr k c0 s ∧ a ∈ L ∧ aft N b a s = some t ∧ c = c0 + pr a
def WC (L : List Act) (N b : Nat) (pr : Act → Nat) (c s : Nat) : Prop := ∃ k, WCk L N b pr k c s
/-- the answer: the least sum to an END, or none -/
def LC (L : List Act) (N b : Nat) (pr : Act → Nat) (e : Nat → Bool) (r : Int32) : Prop := (r = -1 ∧ ∀ c s, WC L N b pr c s → e s = false) ∨ ∃ c, r = nI c ∧ c < 2 ^ 24 ∧ (∃ s, WC L N b pr c s ∧ e s = true) ∧ ∀ c' s, WC L N b pr c' s → e s = true → c ≤ c'
theorem LC.uniq {L : List Act} {N b : Nat} {pr : Act → Nat} {e : Nat → Bool} {r r' : Int32} (h : LC L N b pr e r) (h' : LC L N b pr e r') : r = r' := by
  rcases h with ⟨rfl, h⟩ | ⟨c, rfl, -, ⟨s, h1, h2⟩, h3⟩
  · rcases h' with ⟨rfl, -⟩ | ⟨c', -, -, ⟨s', h1', h2'⟩, -⟩
    · rfl
    · rw [h c' s' h1'] at h2'; cases h2'
  · rcases h' with ⟨-, h'⟩ | ⟨c', rfl, -, ⟨s', h1', h2'⟩, h3'⟩
    · rw [h' c s h1] at h2; cases h2
    · have := h3 c' s' h1' h2'
      have := h3' c s h1 h2
      have : c = c' := by omega
      rw [this]
def rl1 (N b : Nat) (pr : Act → Nat) (s cs : Nat) (V : Nat → Option Nat) (a : Act) : Nat → Option Nat := match aft N b a s with
  | none => V
  | some t => if V t = none ∨ cs + pr a < dv V t then va_up V t (some (cs + pr a)) else V
/-- the state of the search: V the sums, T what is taken -/
def DJ (L : List Act) (N b : Nat) (pr : Act → Nat) (V : Nat → Option Nat) (T : Nat → Prop) (cur : Nat) : Prop :=
  V 0 = some 0 ∧ (∀ s c, V s = some c → WC L N b pr c s) ∧ (∀ s, T s → ∃ c, V s = some c ∧ c ≤ cur) ∧ (∀ s c, V s = some c → ¬ T s → cur ≤ c ∧ c ≤ cur + 99) ∧
  ∀ s a t, T s → a ∈ L → aft N b a s = some t → ∃ c', V t = some c' ∧ c' ≤ dv V s + pr a
theorem DJ.cover {L : List Act} {N b : Nat} {pr : Act → Nat} {V : Nat → Option Nat} {T : Nat → Prop} {cur : Nat} (d : DJ L N b pr V T cur) : ∀ k c t, WCk L N b pr k c t → (∃ c', V t = some c' ∧ c' ≤ c ∧ T t) ∨ ∃ x c', V x = some c' ∧ ¬ T x ∧ c' ≤ c := by
  obtain ⟨d1, d2, d3, d4, d5⟩ := d
  intro k
  induction k with
  | zero =>
    rintro c t ⟨rfl, rfl⟩
    by_cases w : T 0
    · exact Or.inl ⟨0, d1, Nat.le_refl _, w⟩
    · exact Or.inr ⟨0, 0, d1, w, Nat.le_refl _⟩
  | succ k ih =>
    rintro c t ⟨c0, s, a, h1, ha, ht, rfl⟩
    rcases ih c0 s h1 with ⟨c', e1, hc', hT'⟩ | ⟨x, c', e1, hx, hc'⟩
    · obtain ⟨c2, e2, h2⟩ := d5 s a t hT' ha ht
      rw [dv_some e1] at h2
      by_cases w : T t
      · exact Or.inl ⟨c2, e2, by omega, w⟩
      · exact Or.inr ⟨t, c2, e2, w, by omega⟩
    · exact Or.inr ⟨x, c', e1, hx, by omega⟩
theorem rl_fold {N b : Nat} {pr : Act → Nat} {s cs : Nat} : ∀ (L : List Act) (V : Nat → Option Nat),
    (∀ x c, (L.foldl (rl1 N b pr s cs) V) x = some c → V x = some c ∨ ∃ a, a ∈ L ∧ aft N b a s = some x ∧ c = cs + pr a) ∧
    (∀ x c, V x = some c → ∃ c', (L.foldl (rl1 N b pr s cs) V) x = some c' ∧ c' ≤ c) ∧
    (∀ a t, a ∈ L → aft N b a s = some t → ∃ c', (L.foldl (rl1 N b pr s cs) V) t = some c' ∧ c' ≤ cs + pr a) ∧
    (∀ x c, V x = some c → c ≤ cs → (L.foldl (rl1 N b pr s cs) V) x = some c) := by
  intro L
  induction L with
  | nil => exact fun V => ⟨fun x c h => Or.inl h, fun x c h => ⟨c, h, Nat.le_refl _⟩, fun a t ha => absurd ha List.not_mem_nil, fun x c h _ => h⟩
  | cons a L ih =>
    intro V
    rw [List.foldl_cons]
    obtain ⟨g1, g2, g3, g4⟩ := ih (rl1 N b pr s cs V a)
    have b1 : ∀ x c, rl1 N b pr s cs V a x = some c → V x = some c ∨ (aft N b a s = some x ∧ c = cs + pr a) := fun x c h => by
      unfold rl1 at h
      cases e : aft N b a s with
      | none => rw [e] at h; exact Or.inl h
      | some t =>
        rw [e] at h
        dsimp only at h
        split at h
        · rw [up_at] at h
          split at h
          · next w => cases h; rw [w]; exact Or.inr ⟨rfl, rfl⟩
          · exact Or.inl h
        · exact Or.inl h
    have b2 : ∀ x c, V x = some c → ∃ c', rl1 N b pr s cs V a x = some c' ∧ c' ≤ c := fun x c h => by
      unfold rl1
      cases e : aft N b a s with
      | none => exact ⟨c, h, Nat.le_refl _⟩
      | some t =>
        dsimp only
        split
        · next w =>
          rw [up_at]
          by_cases w2 : x = t
          · subst w2
            rw [if_pos rfl]
            rcases w with w | w
            · rw [w] at h; cases h
            · rw [dv_some h] at w
              exact ⟨_, rfl, by omega⟩
          · rw [if_neg w2]
            exact ⟨c, h, Nat.le_refl _⟩
        · exact ⟨c, h, Nat.le_refl _⟩
    have b3 : ∀ t, aft N b a s = some t → ∃ c', rl1 N b pr s cs V a t = some c' ∧ c' ≤ cs + pr a := fun t ht => by
      unfold rl1
      rw [ht]
      dsimp only
      split
      · rw [up_at, if_pos rfl]
        exact ⟨_, rfl, Nat.le_refl _⟩
      · next w =>
        cases e : V t with
        | none => exact absurd (Or.inl e) w
        | some c =>
          refine ⟨c, rfl, ?_⟩
          have : ¬ (cs + pr a < dv V t) := fun z => w (Or.inr z)
          rw [dv_some e] at this
          omega
    have b4 : ∀ x c, V x = some c → c ≤ cs → rl1 N b pr s cs V a x = some c := fun x c h hc => by
      unfold rl1
      cases e : aft N b a s with
      | none => exact h
      | some t =>
        dsimp only
        split
        · next w =>
          rw [up_at]
          by_cases w2 : x = t
          · subst w2
            rcases w with w | w
            · rw [w] at h; cases h
            · rw [dv_some h] at w
              omega
          · rw [if_neg w2]
            exact h
        · exact h
    refine ⟨fun x c h => ?_, fun x c h => ?_, fun a' t ha' ht => ?_, fun x c h hc => g4 x c (b4 x c h hc) hc⟩
    · rcases g1 x c h with w | ⟨a', w1, w2, w3⟩
      · rcases b1 x c w with w | ⟨w1, w2⟩
        · exact Or.inl w
        · exact Or.inr ⟨a, List.mem_cons_self, w1, w2⟩
      · exact Or.inr ⟨a', List.mem_cons_of_mem _ w1, w2, w3⟩
    · obtain ⟨c1, e1, h1⟩ := b2 x c h
      obtain ⟨c2, e2, h2⟩ := g2 x c1 e1
      exact ⟨c2, e2, by omega⟩
    · rcases List.mem_cons.mp ha' with rfl | ha'
      · obtain ⟨c1, e1, h1⟩ := b3 t ht
        obtain ⟨c2, e2, h2⟩ := g2 t c1 e1
        exact ⟨c2, e2, by omega⟩
      · exact g3 a' t ha' ht
theorem DJ.take {L : List Act} {N b : Nat} {pr : Act → Nat} {V : Nat → Option Nat} {T : Nat → Prop} {cur s cs : Nat} (hpr : ∀ a ∈ L, pr a ≤ 99) (d : DJ L N b pr V T cur) (hs : V s = some cs) (hT' : ¬ T s) (hmin : ∀ s' c', V s' = some c' → ¬ T s' → cs ≤ c') :
    DJ L N b pr (L.foldl (rl1 N b pr s cs) V) (fun y => T y ∨ y = s) cs := by
  obtain ⟨d1, d2, d3, d4, d5⟩ := d
  obtain ⟨g1, g2, g3, g4⟩ := rl_fold (N := N) (b := b) (pr := pr) (s := s) (cs := cs) L V
  have hcur := (d4 s cs hs hT').1
  have keep : ∀ x, (T x ∨ x = s) → ∃ c, V x = some c ∧ c ≤ cs ∧ (L.foldl (rl1 N b pr s cs) V) x = some c := fun x hx => by
    rcases hx with hx | rfl
    · obtain ⟨c, e, hc⟩ := d3 x hx
      exact ⟨c, e, by omega, g4 x c e (by omega)⟩
    · exact ⟨cs, hs, Nat.le_refl _, g4 x cs hs (Nat.le_refl _)⟩
  have hws := d2 s cs hs
  refine ⟨g4 0 0 d1 (Nat.zero_le _), fun x c hx => ?_, fun x hx => ?_, fun x c hx ht => ?_, fun x a t hx ha ht => ?_⟩
  · rcases g1 x c hx with w | ⟨a, w1, w2, rfl⟩
    · exact d2 x c w
    · obtain ⟨k, hk⟩ := hws
      exact ⟨k + 1, cs, s, a, hk, w1, w2, rfl⟩
  · obtain ⟨c, -, h2, h3⟩ := keep x hx
    exact ⟨c, h3, h2⟩
  · rcases g1 x c hx with w | ⟨a, w1, w2, rfl⟩
    · have h1 := hmin x c w (fun z => ht (Or.inl z))
      have h2 := (d4 x c w (fun z => ht (Or.inl z))).2
      exact ⟨h1, by omega⟩
    · have := hpr a w1
      exact ⟨by omega, by omega⟩
  · obtain ⟨cx, e1, h2, h3⟩ := keep x hx
    rw [dv_some h3]
    rcases hx with hx | rfl
    · obtain ⟨c', e2, h4⟩ := d5 x a t hx ha ht
      rw [dv_some e1] at h4
      obtain ⟨c2, e3, h5⟩ := g2 t c' e2
      exact ⟨c2, e3, by omega⟩
    · rw [hs] at e1
      cases e1
      exact g3 a t ha ht
theorem DJ.start {L : List Act} {N b : Nat} {pr : Act → Nat} : DJ L N b pr (fun x => if x = 0 then some 0 else none) (fun _ => False) 0 := by
  have h : ∀ s c, (if s = 0 then some 0 else none : Option Nat) = some c → s = 0 ∧ c = 0 := fun s c h => by
    split at h
    · next w => cases h; exact ⟨w, rfl⟩
    · cases h
  refine ⟨rfl, fun s c hs => ?_, fun s hs => hs.elim, fun s c hs _ => ?_, fun s a t hs => hs.elim⟩
  · obtain ⟨rfl, rfl⟩ := h s c hs
    exact ⟨0, rfl, rfl⟩
  · obtain ⟨rfl, rfl⟩ := h s c hs
    exact ⟨Nat.le_refl _, by omega⟩
theorem DJ.found {L : List Act} {N b : Nat} {pr : Act → Nat} {e : Nat → Bool} {V : Nat → Option Nat} {T : Nat → Prop} {cur s cs : Nat} (d : DJ L N b pr V T cur) (hs : V s = some cs) (h9 : cs < 2 ^ 24) (hmin : ∀ s' c', V s' = some c' → ¬ T s' → cs ≤ c') (he : e s = true) (hne : ∀ y, T y → e y = false) : LC L N b pr e (nI cs) := by
  refine Or.inr ⟨cs, rfl, h9, ⟨s, d.2.1 s cs hs, he⟩, fun c' t ht het => ?_⟩
  obtain ⟨k, hk⟩ := ht
  rcases d.cover k c' t hk with ⟨c2, -, -, w⟩ | ⟨x, c2, e2, hx, hc2⟩
  · rw [hne t w] at het; cases het
  · have := hmin x c2 e2 hx
    omega
theorem DJ.noEnd {L : List Act} {N b : Nat} {pr : Act → Nat} {e : Nat → Bool} {V : Nat → Option Nat} {T : Nat → Prop} {cur : Nat} (d : DJ L N b pr V T cur) (hall : ∀ s, V s ≠ none → T s) (hne : ∀ y, T y → e y = false) : LC L N b pr e (-1) := by
  refine Or.inl ⟨rfl, fun c t ht => ?_⟩
  obtain ⟨k, hk⟩ := ht
  rcases d.cover k c t hk with ⟨c2, -, -, w⟩ | ⟨x, c2, e2, hx, hc2⟩
  · exact hne t w
  · exact absurd (hall x (by rw [e2]; exact Option.some_ne_none _)) hx

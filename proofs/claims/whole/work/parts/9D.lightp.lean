/-! ===== the least sum by correcting labels: numbers alone ===== -/
def fv (V : Nat → Option Nat) (x : Nat) : Nat := (V x).getD 1000000000
def fnd1 (V : Nat → Option Nat) (x : Nat) : Nat := if V x = none then 0 else 1
/-- how many are found -/
def dcn (V : Nat → Option Nat) : Nat := sm (fnd1 V) 16384
def phi (V : Nat → Option Nat) (q : List Nat) : Nat := sm (fv V) 16384 * 16385 + q.length
theorem dcn_le (V : Nat → Option Nat) : dcn V ≤ 16384 := by
  have := sm_le (f := fnd1 V) (c := 1) 16384 (fun i _ => by unfold fnd1; split <;> omega)
  unfold dcn
  omega
theorem frI_fv (V : Nat → Option Nat) (x : Nat) : frI (V x) = nI (fv V x) := by
  unfold fv
  cases V x <;> rfl
section Lc
variable {L : List Act} {N b : Nat} {pr : Act → Nat} {V : Nat → Option Nat} {q : List Nat}
def LcI (L : List Act) (N b : Nat) (pr : Act → Nat) (V : Nat → Option Nat) (q : List Nat) : Prop := V 0 = some 0 ∧ (∀ s c, V s = some c → WC L N b pr c s ∧ s < N ∧ pc s ≤ b ∧ c ≤ 99 * dcn V) ∧ q.Nodup ∧ ∀ s, s ∈ q → V s ≠ none
def LcR (L : List Act) (N b : Nat) (pr : Act → Nat) (V : Nat → Option Nat) (s : Nat) : Prop := ∀ c, V s = some c → ∀ a ∈ L, ∀ t, aft N b a s = some t → ∃ c', V t = some c' ∧ c' ≤ c + pr a
def LcM (L : List Act) (N b : Nat) (pr : Act → Nat) (V : Nat → Option Nat) (q : List Nat) (s cs j : Nat) : Prop := LcI L N b pr V q ∧ (∀ s', s' ∉ q → s' ≠ s → LcR L N b pr V s') ∧ (∀ i a t, i < j → L[i]? = some a → aft N b a s = some t → ∃ c', V t = some c' ∧ c' ≤ cs + pr a) ∧ V s = some cs ∧ s ∉ q
theorem LcI.lt (x : LcI L N b pr V q) {s c : Nat} (h : V s = some c) : c < 2 ^ 24 := by
  have h1 := (x.2.1 s c h).2.2.2
  have h2 := dcn_le V
  omega
theorem LcM.skip {s cs j : Nat} {a : Act} (m : LcM L N b pr V q s cs j) (ha : L[j]? = some a) (h : ∀ t, aft N b a s = some t → fv V t ≤ cs + pr a) (hpr : pr a ≤ 99) : LcM L N b pr V q s cs (j + 1) := by
  obtain ⟨m1, m2, m3, m4, m5⟩ := m
  refine ⟨m1, m2, fun i a' t hi ha' ht => ?_, m4, m5⟩
  rcases Nat.lt_or_ge i j with z | z
  · exact m3 i a' t z ha' ht
  · have hij : i = j := by omega
    subst hij
    rw [ha] at ha'
    cases ha'
    have h1 := h t ht
    have h2 := m1.lt m4
    unfold fv at h1
    cases hV : V t with
    | none =>
      rw [hV] at h1
      change 1000000000 ≤ _ at h1
      omega
    | some c' =>
      rw [hV] at h1
      exact ⟨c', rfl, h1⟩
theorem dcn_new {t v : Nat} (hV : V t = none) (ht : t < 16384) : dcn (va_up V t (some v)) = dcn V + 1 := by
  have := sm_up (f := fnd1 V) (g := fnd1 (va_up V t (some v))) (j := t) 16384 ht (fun i _ hi => by unfold fnd1; rw [up_at, if_neg hi])
  have e1 : fnd1 V t = 0 := by unfold fnd1; rw [if_pos hV]
  have e2 : fnd1 (va_up V t (some v)) t = 1 := by unfold fnd1; rw [up_at, if_pos rfl, if_neg (by exact Option.some_ne_none _)]
  unfold dcn
  omega
theorem dcn_old {t v c : Nat} (hV : V t = some c) : dcn (va_up V t (some v)) = dcn V := by
  unfold dcn
  refine sm_congr _ fun i _ => ?_
  unfold fnd1
  rw [up_at]
  by_cases z : i = t
  · rw [if_pos z, z, hV, if_neg (by exact Option.some_ne_none _), if_neg (by exact Option.some_ne_none _)]
  · rw [if_neg z]
theorem phi_down {t v : Nat} {q' : List Nat} (ht : t < 16384) (hv : v < fv V t) (hq : q'.length ≤ q.length + 1) : phi (va_up V t (some v)) q' ≤ phi V q := by
  have := sm_up (f := fv V) (g := fv (va_up V t (some v))) (j := t) 16384 ht (fun i _ hi => by unfold fv; rw [up_at, if_neg hi])
  have e2 : fv (va_up V t (some v)) t = v := by unfold fv; rw [up_at, if_pos rfl]; rfl
  unfold phi
  have : sm (fv (va_up V t (some v))) 16384 + 1 ≤ sm (fv V) 16384 := by omega
  have h3 : (sm (fv (va_up V t (some v))) 16384 + 1) * 16385 ≤ sm (fv V) 16384 * 16385 := Nat.mul_le_mul_right _ this
  omega
theorem LcM.relax {s cs j t : Nat} {a : Act} (hN : N ≤ 16384) (m : LcM L N b pr V q s cs j) (ha : L[j]? = some a) (ht : aft N b a s = some t) (hts : t ≠ s) (hlt : cs + pr a < fv V t) (hpr : pr a ≤ 99) :
    LcM L N b pr (va_up V t (some (cs + pr a))) (if t ∈ q then q else q ++ [t]) s cs (j + 1) := by
  obtain ⟨⟨i1, i2, i3, i4⟩, m2, m3, m4, m5⟩ := m
  have htN := aft_lt ht
  have ham := List.mem_of_getElem? ha
  have hV' : ∀ x, x ≠ t → va_up V t (some (cs + pr a)) x = V x := fun x hx => by rw [up_at, if_neg hx]
  have hVt : va_up V t (some (cs + pr a)) t = some (cs + pr a) := by rw [up_at, if_pos rfl]
  have hmem : ∀ x, x ∈ (if t ∈ q then q else q ++ [t]) ↔ x ∈ q ∨ x = t := fun x => by
    by_cases z : t ∈ q
    · rw [if_pos z]
      exact ⟨fun y => Or.inl y, fun y => y.elim id (fun y => by rw [y]; exact z)⟩
    · rw [if_neg z]
      simp
  have hle : ∀ x c, V x = some c → ∃ c', va_up V t (some (cs + pr a)) x = some c' ∧ c' ≤ c := fun x c hx => by
    by_cases z : x = t
    · subst z
      refine ⟨cs + pr a, hVt, ?_⟩
      unfold fv at hlt
      rw [hx] at hlt
      change cs + pr a < c at hlt
      omega
    · exact ⟨c, by rw [hV' x z]; exact hx, Nat.le_refl _⟩
  have ht0 : t ≠ 0 := fun z => by
    subst z
    unfold fv at hlt
    rw [i1] at hlt
    exact absurd hlt (Nat.not_lt_zero _)
  have hdc : dcn V ≤ dcn (va_up V t (some (cs + pr a))) := by
    cases hV : V t with
    | none => rw [dcn_new hV (by omega)]; omega
    | some c => rw [dcn_old hV]; exact Nat.le_refl _
  have hcs := i2 s cs m4
  refine ⟨⟨by rw [hV' 0 (Ne.symm ht0)]; exact i1, fun x c hx => ?_, ?_, fun x hx => ?_⟩, fun s' h1 h2 c hc a' ha' u hu => ?_, fun i a' u hi ha' hu => ?_, by rw [hV' s (Ne.symm hts)]; exact m4, fun z => ?_⟩
  · by_cases z : x = t
    · subst z
      rw [hVt] at hx
      cases hx
      obtain ⟨k, hk⟩ := hcs.1
      refine ⟨⟨k + 1, cs, s, a, hk, ham, ht, rfl⟩, htN.1, htN.2, ?_⟩
      cases hV : V x with
      | none =>
        rw [dcn_new hV (by omega)]
        omega
      | some c =>
        rw [dcn_old hV]
        unfold fv at hlt
        rw [hV] at hlt
        change cs + pr a < c at hlt
        have := (i2 x c hV).2.2.2
        omega
    · rw [hV' x z] at hx
      obtain ⟨g1, g2, g3, g4⟩ := i2 x c hx
      exact ⟨g1, g2, g3, by omega⟩
  · by_cases z : t ∈ q
    · rw [if_pos z]; exact i3
    · rw [if_neg z, List.nodup_append]
      refine ⟨i3, by simp, fun x hx y hy e => ?_⟩
      have : y = t := by simpa using hy
      rw [this] at e
      exact z (by rw [← e]; exact hx)
  · rcases (hmem x).mp hx with z | z
    · by_cases z2 : x = t
      · rw [z2, hVt]; exact Option.some_ne_none _
      · rw [hV' x z2]; exact i4 x z
    · rw [z, hVt]; exact Option.some_ne_none _
  · have h3 : s' ∉ q := fun z => h1 ((hmem s').mpr (Or.inl z))
    have h4 : s' ≠ t := fun z => h1 ((hmem s').mpr (Or.inr z))
    rw [hV' s' h4] at hc
    obtain ⟨c', g1, g2⟩ := m2 s' h3 h2 c hc a' ha' u hu
    obtain ⟨c'', g3, g4⟩ := hle u c' g1
    exact ⟨c'', g3, by omega⟩
  · rcases Nat.lt_or_ge i j with z | z
    · obtain ⟨c', g1, g2⟩ := m3 i a' u z ha' hu
      obtain ⟨c'', g3, g4⟩ := hle u c' g1
      exact ⟨c'', g3, by omega⟩
    · have hij : i = j := by omega
      subst hij
      rw [ha] at ha'
      cases ha'
      rw [ht] at hu
      cases hu
      exact ⟨_, hVt, Nat.le_refl _⟩
  · rcases (hmem s).mp z with y | y
    · exact m5 y
    · exact hts y.symm
/-- at the end the sums are the least -/
theorem Lc_fin (x : LcI L N b pr V []) (hr : ∀ s, LcR L N b pr V s) : ∀ k c s, WCk L N b pr k c s → ∃ c', V s = some c' ∧ c' ≤ c := by
  intro k
  induction k with
  | zero =>
    rintro c s ⟨rfl, rfl⟩
    exact ⟨0, x.1, Nat.le_refl _⟩
  | succ k ih =>
    rintro c t ⟨c0, s, a, h1, h2, h3, rfl⟩
    obtain ⟨c', g1, g2⟩ := ih c0 s h1
    obtain ⟨c'', g3, g4⟩ := hr s c' g1 a h2 t h3
    exact ⟨c'', g3, by omega⟩
theorem LcM.take {s cs : Nat} (x : LcI L N b pr V (s :: q)) (hr : ∀ s', s' ∉ s :: q → LcR L N b pr V s') (hs : V s = some cs) : LcM L N b pr V q s cs 0 := by
  obtain ⟨x1, x2, x3, x4⟩ := x
  have hn := List.nodup_cons.mp x3
  exact ⟨⟨x1, x2, hn.2, fun y hy => x4 y (List.mem_cons_of_mem _ hy)⟩, fun s' h1 h2 => hr s' (fun z => (List.mem_cons.mp z).elim h2 h1), fun i _ _ hi => absurd hi (Nat.not_lt_zero _), hs, hn.1⟩
theorem LcM.out {s cs : Nat} (m : LcM L N b pr V q s cs L.length) : LcI L N b pr V q ∧ ∀ s', s' ∉ q → LcR L N b pr V s' := by
  obtain ⟨m1, m2, m3, m4, m5⟩ := m
  refine ⟨m1, fun s' h1 => ?_⟩
  by_cases z : s' = s
  · subst z
    intro c hc a ha t ht
    rw [m4] at hc
    cases hc
    obtain ⟨i, hi⟩ := List.getElem?_of_mem ha
    obtain ⟨hl, -⟩ := List.getElem?_eq_some_iff.mp hi
    exact m3 i a t hl hi ht
  · exact m2 s' h1 z
/-- the least of the ENDs looked at -/
def LcB (e : Nat → Bool) (V : Nat → Option Nat) (x : Nat) (o : Option Nat) : Prop := (o = none → ∀ y, y < x → e y = true → V y = none) ∧ ∀ c, o = some c → (∃ y, y < x ∧ e y = true ∧ V y = some c) ∧ ∀ y c', y < x → e y = true → V y = some c' → c ≤ c'
theorem LcB.step {e : Nat → Bool} {x : Nat} {o : Option Nat} (h : LcB e V x o) (h9 : ∀ c, o = some c → c < 1000000000) (h8 : ∀ c, V x = some c → c < 1000000000) : LcB e V (x + 1) (if e x = true ∧ fv V x < o.getD 1000000000 then V x else o) := by
  obtain ⟨h1, h2⟩ := h
  have hx : ∀ y, y < x + 1 → y < x ∨ y = x := fun y hy => by omega
  by_cases z : e x = true ∧ fv V x < o.getD 1000000000
  · rw [if_pos z]
    obtain ⟨z1, z2⟩ := z
    have hlt9 : fv V x < 1000000000 := by
      cases o with
      | none => exact z2
      | some c =>
        have := h9 c rfl
        change fv V x < c at z2
        omega
    cases hV : V x with
    | none =>
      unfold fv at hlt9
      rw [hV] at hlt9
      exact absurd hlt9 (Nat.lt_irrefl _)
    | some c =>
      refine ⟨fun y => (by cases y), fun c0 hc0 => ?_⟩
      cases hc0
      refine ⟨⟨x, by omega, z1, hV⟩, fun y c' hy he hc' => ?_⟩
      have e1 : fv V x = c := by unfold fv; rw [hV]; rfl
      rcases hx y hy with hy | hy
      · cases o with
        | none =>
          rw [h1 rfl y hy he] at hc'
          cases hc'
        | some c1 =>
          have := (h2 c1 rfl).2 y c' hy he hc'
          change fv V x < c1 at z2
          omega
      · rw [hy, hV] at hc'
        cases hc'
        exact Nat.le_refl _
  · rw [if_neg z]
    refine ⟨fun ho y hy he => ?_, fun c hc => ?_⟩
    · rcases hx y hy with hy | hy
      · exact h1 ho y hy he
      · subst hy
        cases hV : V y with
        | none => rfl
        | some c =>
          have := h8 c hV
          refine absurd ⟨he, ?_⟩ z
          rw [ho]
          unfold fv
          rw [hV]
          exact this
    · obtain ⟨⟨y, y1, y2, y3⟩, g⟩ := h2 c hc
      refine ⟨⟨y, by omega, y2, y3⟩, fun u c' hu he hc' => ?_⟩
      rcases hx u hu with hu | hu
      · exact g u c' hu he hc'
      · subst hu
        rcases Nat.lt_or_ge c' c with y | y
        · refine absurd ⟨he, ?_⟩ z
          rw [hc]
          unfold fv
          rw [hc']
          exact y
        · exact y
theorem LcB.lc {e : Nat → Bool} {o : Option Nat} {r : Int32} (hN : N ≤ 16384) (x : LcI L N b pr V []) (hr : ∀ s, LcR L N b pr V s) (h : LcB e V 16384 o) (hro : r = oI o) : LC L N b pr e r := by
  cases o with
  | none =>
    refine Or.inl ⟨hro, fun c s hw => ?_⟩
    obtain ⟨k, hk⟩ := hw
    obtain ⟨c', g1, g2⟩ := Lc_fin x hr k c s hk
    cases he : e s with
    | false => rfl
    | true =>
      have := h.1 rfl s (by have := (x.2.1 s c' g1).2.1; omega) he
      rw [this] at g1
      cases g1
  | some c =>
    obtain ⟨⟨y, y1, y2, y3⟩, g⟩ := h.2 c rfl
    refine Or.inr ⟨c, hro, x.lt y3, ⟨y, (x.2.1 y c y3).1, y2⟩, fun c' s hw he => ?_⟩
    obtain ⟨k, hk⟩ := hw
    obtain ⟨c'', g1, g2⟩ := Lc_fin x hr k c' s hk
    have := g s c'' (by have := (x.2.1 s c'' g1).2.1; omega) he g1
    omega
end Lc

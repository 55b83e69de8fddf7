/-! ===== whole rows set at once; breadth first: numbers alone ===== -/
def setI (h : AH) (a : Nat) (f : Nat → Int32) : AH := (hT h, hL h, va_up (hI h) a f, hJ h, hR h, hN h, hS h)
def setJ (h : AH) (a : Nat) (f : Nat → Int64) : AH := (hT h, hL h, hI h, va_up (hJ h) a f, hR h, hN h, hS h)
theorem hs_setI (h : AH) (a : Nat) (f : Nat → Int32) : hT (setI h a f) = hT h ∧ hL (setI h a f) = hL h ∧ hJ (setI h a f) = hJ h ∧ hR (setI h a f) = hR h ∧ hN (setI h a f) = hN h ∧ hS (setI h a f) = hS h := ⟨rfl, rfl, rfl, rfl, rfl, rfl⟩
theorem hs_setJ (h : AH) (a : Nat) (f : Nat → Int64) : hT (setJ h a f) = hT h ∧ hL (setJ h a f) = hL h ∧ hI (setJ h a f) = hI h ∧ hR (setJ h a f) = hR h ∧ hN (setJ h a f) = hN h ∧ hS (setJ h a f) = hS h := ⟨rfl, rfl, rfl, rfl, rfl, rfl⟩
theorem hI_setI (h : AH) (a : Nat) (f : Nat → Int32) (b : Nat) : hI (setI h a f) b = if b = a then f else hI h b := rfl
theorem hJ_setJ (h : AH) (a : Nat) (f : Nat → Int64) (b : Nat) : hJ (setJ h a f) b = if b = a then f else hJ h b := rfl
theorem ah_ext {h h' : AH} (e1 : hT h = hT h') (e2 : hL h = hL h') (e3 : hI h = hI h') (e4 : hJ h = hJ h') (e5 : hR h = hR h') (e6 : hN h = hN h') (e7 : hS h = hS h') : h = h' := by
  obtain ⟨a1, a2, a3, a4, a5, a6, a7⟩ := h
  obtain ⟨b1, b2, b3, b4, b5, b6, b7⟩ := h'
  change a1 = b1 at e1
  change a2 = b2 at e2
  change a3 = b3 at e3
  change a4 = b4 at e4
  change a5 = b5 at e5
  change a6 = b6 at e6
  change a7 = b7 at e7
  subst e1; subst e2; subst e3; subst e4; subst e5; subst e6; subst e7
  rfl
theorem sI_setI (h : AH) (a : Nat) (f : Nat → Int32) (k : Nat) (v : Int32) : sI (setI h a f) a k v = setI h a (va_up f k v) := by
  refine ah_ext rfl rfl ?_ rfl rfl rfl rfl
  funext b j
  rw [hI_sI, hI_setI, hI_setI]
  by_cases q : b = a
  · subst q
    simp [va_up]
  · simp [q]
theorem sI_setI_o {h : AH} {a : Nat} {f : Nat → Int32} {b k : Nat} {v : Int32} (hb : b ≠ a) : sI (setI h a f) b k v = setI (sI h b k v) a f := by
  refine ah_ext rfl rfl ?_ rfl rfl rfl rfl
  funext c j
  rw [hI_sI, hI_setI, hI_setI]
  by_cases q : c = a
  · subst q
    simp [Ne.symm hb]
  · simp [q, hI_sI]
theorem sI_as (h : AH) (a k : Nat) (v : Int32) : sI h a k v = setI h a (va_up (hI h a) k v) := by
  refine ah_ext rfl rfl ?_ rfl rfl rfl rfl
  funext c j
  rw [hI_sI, hI_setI]
  by_cases q : c = a
  · subst q
    simp [va_up]
  · simp [q]
theorem sJ_as (h : AH) (a k : Nat) (v : Int64) : sJ h a k v = setJ h a (va_up (hJ h a) k v) := by
  refine ah_ext rfl rfl rfl ?_ rfl rfl rfl
  funext c j
  rw [hJ_sJ, hJ_setJ]
  by_cases q : c = a
  · subst q
    simp [va_up]
  · simp [q]
theorem setI_id (h : AH) (a : Nat) : setI h a (hI h a) = h := by
  refine ah_ext rfl rfl ?_ rfl rfl rfl rfl
  funext c
  rw [hI_setI]
  by_cases q : c = a
  · subst q
    simp
  · simp [q]
theorem setJ_id (h : AH) (a : Nat) : setJ h a (hJ h a) = h := by
  refine ah_ext rfl rfl rfl ?_ rfl rfl rfl
  funext c
  rw [hJ_setJ]
  by_cases q : c = a
  · subst q
    simp
  · simp [q]
theorem up_at {α : Type} (f : Nat → α) (k : Nat) (v : α) (j : Nat) : va_up f k v j = if j = k then v else f j := rfl
theorem oI_none : oI none = -1 := rfl
theorem oI_some (t : Nat) : oI (some t) = nI t := rfl
theorem i32_0m1 : ¬ (0 : Int32) ≤ -1 := by decide
/-- walks of k steps from a source -/
def GK (S : Nat → Prop) (E : Nat → Nat → Prop) : Nat → Nat → Prop
  | 0, s => S s
  | k + 1, t => ∃ s, GK S E k s ∧ E s t
def dv (D : Nat → Option Nat) (x : Nat) : Nat := (D x).getD 0
/-- the state of a search before the i-th of the queue is looked at -/
def BD (S : Nat → Prop) (E : Nat → Nat → Prop) (D : Nat → Option Nat) (qs : List Nat) (i : Nat) : Prop :=
  qs.Nodup ∧ (∀ x, D x ≠ none ↔ x ∈ qs) ∧ (∀ x, S x → D x = some 0) ∧ (∀ x k, D x = some k → GK S E k x) ∧
  qs.Pairwise (fun x y => dv D x ≤ dv D y) ∧ (∀ y, y ∈ qs → ∀ x, qs[i]? = some x → dv D y ≤ dv D x + 1) ∧
  ∀ j x t, j < i → qs[j]? = some x → E x t → ∃ k, D t = some k ∧ k ≤ dv D x + 1
theorem dv_some {D : Nat → Option Nat} {x k : Nat} (h : D x = some k) : dv D x = k := by unfold dv; rw [h]; rfl
theorem BD.mono_at {S : Nat → Prop} {E : Nat → Nat → Prop} {D : Nat → Option Nat} {qs : List Nat} {i : Nat} (b : BD S E D qs i) {j j' x y : Nat} (hj : j ≤ j') (hx : qs[j]? = some x) (hy : qs[j']? = some y) : dv D x ≤ dv D y := by
  have hp := b.2.2.2.2.1
  rcases Nat.lt_or_ge j j' with q | q
  · rw [List.pairwise_iff_getElem] at hp
    obtain ⟨h1, e1⟩ := List.getElem?_eq_some_iff.mp hx
    obtain ⟨h2, e2⟩ := List.getElem?_eq_some_iff.mp hy
    have := hp j j' h1 h2 q
    rw [e1, e2] at this
    exact this
  · have : j = j' := by omega
    subst this
    rw [hx] at hy
    cases hy
    exact Nat.le_refl _
theorem BD.sound {S : Nat → Prop} {E : Nat → Nat → Prop} {D : Nat → Option Nat} {qs : List Nat} {i : Nat} (b : BD S E D qs i) : ∀ k t, GK S E k t → (∀ x, qs[i]? = some x → k ≤ dv D x) → ∃ k', D t = some k' ∧ k' ≤ k := by
  intro k
  induction k with
  | zero => exact fun t h _ => ⟨0, b.2.2.1 t h, Nat.le_refl _⟩
  | succ k ih =>
    rintro t ⟨s, h1, h2⟩ hi
    obtain ⟨k', e, hk⟩ := ih s h1 (fun x hx => by have := hi x hx; omega)
    have hm : s ∈ qs := (b.2.1 s).mp (by rw [e]; exact Option.some_ne_none _)
    obtain ⟨j, hj⟩ := List.getElem?_of_mem hm
    have hji : j < i := by
      rcases Nat.lt_or_ge j i with q | q
      · exact q
      · obtain ⟨hl, -⟩ := List.getElem?_eq_some_iff.mp hj
        have hx : qs[i]? = some qs[i] := List.getElem?_eq_getElem (by omega)
        have h3 := hi _ hx
        have h4 := b.mono_at q hx hj
        rw [dv_some e] at h4
        omega
    obtain ⟨k2, e2, h3⟩ := b.2.2.2.2.2.2 j s t hji hj h2
    rw [dv_some e] at h3
    exact ⟨k2, e2, by omega⟩
/-- at the end the numbers are the distances -/
theorem BD.least {S : Nat → Prop} {E : Nat → Nat → Prop} {D : Nat → Option Nat} {qs : List Nat} {i : Nat} (b : BD S E D qs i) {t k : Nat} (ht : D t = some k) (hk : ∀ x, qs[i]? = some x → k ≤ dv D x + 1) : GK S E k t ∧ ∀ k', k' < k → ¬ GK S E k' t := by
  refine ⟨b.2.2.2.1 t k ht, fun k' hk' hg => ?_⟩
  obtain ⟨k2, e, h⟩ := b.sound k' t hg (fun x hx => by have := hk x hx; omega)
  rw [ht] at e
  cases e
  omega
theorem BD.le1 {S : Nat → Prop} {E : Nat → Nat → Prop} {D : Nat → Option Nat} {qs : List Nat} {i : Nat} (b : BD S E D qs i) {t k : Nat} (ht : D t = some k) : ∀ x, qs[i]? = some x → k ≤ dv D x + 1 := by
  intro x hx
  have := b.2.2.2.2.2.1 t ((b.2.1 t).mp (by rw [ht]; exact Option.some_ne_none _)) x hx
  rw [dv_some ht] at this
  exact this
theorem BD.dist {S : Nat → Prop} {E : Nat → Nat → Prop} {D : Nat → Option Nat} {qs : List Nat} {i : Nat} (b : BD S E D qs i) {t k : Nat} (ht : D t = some k) : GK S E k t ∧ ∀ k', k' < k → ¬ GK S E k' t := b.least ht (b.le1 ht)
theorem BD.unr {S : Nat → Prop} {E : Nat → Nat → Prop} {D : Nat → Option Nat} {qs : List Nat} {i : Nat} (b : BD S E D qs i) (hi : qs.length ≤ i) {t : Nat} (ht : D t = none) (k : Nat) : ¬ GK S E k t := by
  intro h
  obtain ⟨k', e, -⟩ := b.sound k t h (fun x hx => by rw [List.getElem?_eq_none hi] at hx; cases hx)
  rw [ht] at e
  cases e
def Dnew (D : Nat → Option Nat) (nw : List Nat) (v : Nat) : Nat → Option Nat := fun y => if y ∈ nw then some v else D y
theorem BD.step {S : Nat → Prop} {E : Nat → Nat → Prop} {D D' : Nat → Option Nat} {qs nw : List Nat} {i x : Nat} (b : BD S E D qs i) (hx : qs[i]? = some x) (hn : nw.Nodup) (h1 : ∀ y, y ∈ nw → D y = none ∧ E x y) (hD : ∀ y, D' y = if y ∈ nw then some (dv D x + 1) else D y) (h2 : ∀ t, E x t → D' t ≠ none) : BD S E D' (qs ++ nw) (i + 1) := by
  obtain ⟨b1, b2, b3, b4, b5, b6, b7⟩ := id b
  have hold : ∀ y, y ∈ qs → D' y = D y := fun y hy => by
    rw [hD y, if_neg (fun q => (b2 y).mpr hy (h1 y q).1)]
  have hnew : ∀ y, y ∈ nw → dv D' y = dv D x + 1 := fun y hy => dv_some (by rw [hD y, if_pos hy])
  have hdv : ∀ y, y ∈ qs → dv D' y = dv D y := fun y hy => by unfold dv; rw [hold y hy]
  have hxq : x ∈ qs := List.mem_of_getElem? hx
  have hxk : ∃ k, D x = some k := by
    cases e : D x with
    | none => exact absurd e ((b2 x).mpr hxq)
    | some k => exact ⟨k, rfl⟩
  obtain ⟨kx, ex⟩ := hxk
  have hmemL : ∀ j y, j < qs.length → (qs ++ nw)[j]? = some y → qs[j]? = some y := fun j y hj h => by rw [List.getElem?_append_left hj] at h; exact h
  refine ⟨?_, ?_, ?_, ?_, ?_, ?_, ?_⟩
  · rw [List.nodup_append]
    exact ⟨b1, hn, fun y hy z hz e => (b2 y).mpr hy (by rw [e]; exact (h1 z hz).1)⟩
  · intro y
    rw [hD y, List.mem_append]
    by_cases q : y ∈ nw
    · simp [q]
    · rw [if_neg q, b2 y]
      simp [q]
  · intro y hy
    have := b3 y hy
    rw [hold y ((b2 y).mp (by rw [this]; exact Option.some_ne_none _))]
    exact this
  · intro y k hk
    rw [hD y] at hk
    by_cases q : y ∈ nw
    · rw [if_pos q] at hk
      cases hk
      refine ⟨x, ?_, (h1 y q).2⟩
      rw [dv_some ex]
      exact b4 x kx ex
    · rw [if_neg q] at hk
      exact b4 y k hk
  · rw [List.pairwise_append]
    refine ⟨b5.imp_of_mem (fun ha hb h => by rw [hdv _ ha, hdv _ hb]; exact h), ?_, ?_⟩
    · refine List.Pairwise.imp_of_mem (R := fun _ _ => True) (fun ha hb _ => by rw [hnew _ ha, hnew _ hb]; exact Nat.le_refl _) ?_
      exact List.pairwise_of_forall (fun _ _ => trivial)
    · intro y hy z hz
      rw [hdv y hy, hnew z hz]
      exact b6 y hy x hx
  · intro y hy z hz
    have hyle : dv D' y ≤ dv D x + 1 := by
      rcases List.mem_append.mp hy with q | q
      · rw [hdv y q]; exact b6 y q x hx
      · rw [hnew y q]; exact Nat.le_refl _
    have hzge : dv D x ≤ dv D' z := by
      rcases Nat.lt_or_ge (i + 1) qs.length with q | q
      · have hz' := hmemL _ _ q hz
        rw [hdv z (List.mem_of_getElem? hz')]
        exact b.mono_at (Nat.le_succ i) hx hz'
      · rw [List.getElem?_append_right q] at hz
        rw [hnew z (List.mem_of_getElem? hz)]
        omega
    omega
  · intro j y t hj hy hE
    have hjl : j < qs.length := by
      obtain ⟨hl, -⟩ := List.getElem?_eq_some_iff.mp hx
      omega
    have hy' := hmemL _ _ hjl hy
    have hyq := List.mem_of_getElem? hy'
    rw [hdv y hyq]
    rcases Nat.lt_or_ge j i with q | q
    · obtain ⟨k, e, hk⟩ := b7 j y t q hy' hE
      refine ⟨k, ?_, hk⟩
      rw [hold t ((b2 t).mp (by rw [e]; exact Option.some_ne_none _))]
      exact e
    · have : j = i := by omega
      subst this
      rw [hx] at hy'
      cases hy'
      have h3 := h2 t hE
      by_cases q2 : t ∈ nw
      · exact ⟨dv D x + 1, by rw [hD t, if_pos q2], Nat.le_refl _⟩
      · have e := hD t
        rw [if_neg q2] at e
        cases e2 : D t with
        | none => rw [e2] at e; exact absurd e h3
        | some k =>
          rw [e2] at e
          exact ⟨k, e, b.le1 e2 x hx⟩
/-- looking at targets one by one: the new ones are put behind -/
def look1 (v : Nat) (z : (Nat → Option Nat) × List Nat) (t : Nat) : (Nat → Option Nat) × List Nat := if z.1 t = none then (va_up z.1 t (some v), z.2 ++ [t]) else z
theorem look_adds (v : Nat) : ∀ (T : List Nat) (z : (Nat → Option Nat) × List Nat), ∃ nw, (T.foldl (look1 v) z).2 = z.2 ++ nw ∧ nw.Nodup ∧ (∀ y, y ∈ nw → z.1 y = none ∧ y ∈ T) ∧ (∀ y, (T.foldl (look1 v) z).1 y = if y ∈ nw then some v else z.1 y) ∧ ∀ t, t ∈ T → (T.foldl (look1 v) z).1 t ≠ none := by
  intro T
  induction T with
  | nil => exact fun z => ⟨[], by simp, List.nodup_nil, fun y hy => absurd hy List.not_mem_nil, fun y => by simp, fun t ht => absurd ht List.not_mem_nil⟩
  | cons t T ih =>
    intro z
    rw [List.foldl_cons]
    obtain ⟨nw, h1, h2, h3, h4, h5⟩ := ih (look1 v z t)
    by_cases q : z.1 t = none
    · have e : look1 v z t = (va_up z.1 t (some v), z.2 ++ [t]) := by unfold look1; rw [if_pos q]
      rw [e] at h1 h3 h4 h5 ⊢
      dsimp only at h1 h3 h4 h5 ⊢
      have ht : t ∉ nw := fun hm => by
        have := (h3 t hm).1
        rw [up_at, if_pos rfl] at this
        cases this
      refine ⟨t :: nw, by rw [h1]; simp, List.nodup_cons.mpr ⟨ht, h2⟩, fun y hy => ?_, fun y => ?_, fun y hy => ?_⟩
      · rcases List.mem_cons.mp hy with rfl | hy2
        · exact ⟨q, List.mem_cons_self⟩
        · obtain ⟨g1, g2⟩ := h3 y hy2
          rw [up_at] at g1
          by_cases q2 : y = t
          · subst q2; exact absurd hy2 ht
          · rw [if_neg q2] at g1
            exact ⟨g1, List.mem_cons_of_mem _ g2⟩
      · rw [h4 y, up_at]
        by_cases q2 : y = t
        · subst q2
          simp
        · simp [q2]
      · rcases List.mem_cons.mp hy with rfl | hy
        · rw [h4 y, up_at, if_pos rfl]
          split <;> exact Option.some_ne_none _
        · exact h5 y hy
    · have e : look1 v z t = z := by unfold look1; rw [if_neg q]
      rw [e] at h1 h3 h4 h5 ⊢
      refine ⟨nw, h1, h2, fun y hy => ⟨(h3 y hy).1, List.mem_cons_of_mem _ (h3 y hy).2⟩, h4, fun y hy => ?_⟩
      rcases List.mem_cons.mp hy with rfl | hy
      · rw [h4 y]
        split
        · exact Option.some_ne_none _
        · exact q
      · exact h5 y hy
theorem BD.look {S : Nat → Prop} {E : Nat → Nat → Prop} {D : Nat → Option Nat} {qs T : List Nat} {i x : Nat} (b : BD S E D qs i) (hx : qs[i]? = some x) (hT : ∀ t, E x t ↔ t ∈ T) : BD S E (T.foldl (look1 (dv D x + 1)) (D, qs)).1 (T.foldl (look1 (dv D x + 1)) (D, qs)).2 (i + 1) := by
  obtain ⟨nw, h1, h2, h3, h4, h5⟩ := look_adds (dv D x + 1) T (D, qs)
  rw [h1]
  exact b.step hx h2 (fun y hy => ⟨(h3 y hy).1, (hT y).mpr (h3 y hy).2⟩) h4 (fun t ht => h5 t ((hT t).mp ht))
